/-! SCORES -/
def qsc (T : List Nat) : (n : Nat) → QT n → Bool → Nat
  | 0, l, b => if b then cntL3 T l else 0
  | n + 1, q, b => match (q : (Nat × List Nat × Nat) ⊕ (Nat × List (QT n))) with
    | .inl l => if b then cntL3 T l else 0
    | .inr p => (p.2.map (fun c => qsc T n c (if p.1 = 4 then !b else b))).sum
theorem QC_4 {h : PH} {D : Nat → Prop} : ∀ (n : Nat) (q : QT n) (a : Nat), QC h D n q a → hK h a = 4
  | 0, _, _, L => by obtain ⟨-, b, c, -, -, r, -⟩ := L; exact r
  | _ + 1, .inl l, a, L => by obtain ⟨-, b, c, -, -, r, -⟩ := (show LfD h D a l from L); exact r
  | _ + 1, .inr p, a, L => by obtain ⟨-, l, e, -, -, r, -⟩ := L; exact r
theorem score_leaf {h : PH} {D : Nat → Prop} {a ta tb : Nat} {l : Nat × List Nat × Nat} {T : List Nat} (L : LfD h D a l) (ok : okL3 l) (X : TextAt h ta tb T) (o : okT T) {g d : Nat} (hd : d ≤ 40) (b : Bool) : g_X4_score (g + 1) (some a) (some ta) (bI b) (nI d) h = some (nI (if b then cntL3 T l else 0)) := by
  have C := L.c
  have h1 : hK h a = 4 := by obtain ⟨b, c, h1, -⟩ := C; exact h1
  have h2 : hI h 4 a 0 = nI l.1 := by obtain ⟨b, c, -, h2, -⟩ := C; exact h2
  show fX4_score_R (g_X4_score g) (some a) (some ta) (bI b) (nI d) h = _
  unfold fX4_score_R fX4_score_R_b28
  rw [if_pos (show nI d ≤ (40 : Int32) from show nI d ≤ nI 40 from (nI_leI (by omega) (by decide)).mpr hd), gs_t, gd_t h1, isSimple_t h1 h2 ok.1, bd_t, if_neg (by decide), countMeetings_eq C ok X o, bd_t]
  cases b with
  | false => rw [if_pos (show bI false = 0 from rfl)]; rfl
  | true => rw [if_neg (show ¬ bI true = 0 by decide)]; rfl
theorem sum_take {α : Type} (f : α → Nat) (cs : List α) {i : Nat} (hi : i < cs.length) : ((cs.take (i + 1)).map f).sum = ((cs.take i).map f).sum + f cs[i] := by
  rw [List.take_succ_eq_append_getElem hi, List.map_append, List.sum_append]
  simp
theorem score_eq {h : PH} {D : Nat → Prop} {ta tb : Nat} {T : List Nat} (X : TextAt h ta tb T) (o : okT T) : ∀ (n : Nat) (q : QT n) (a : Nat), QC h D n q a → wfq n q → ∀ (g d : Nat) (b : Bool), n < g → d + n ≤ 40 → g_X4_score g (some a) (some ta) (bI b) (nI d) h = some (nI (qsc T n q b)) := by
  intro n
  induction n with
  | zero =>
    intro q a L w g d b hg hd
    obtain ⟨g, rfl⟩ : ∃ g', g = g' + 1 := ⟨g - 1, by omega⟩
    exact score_leaf L w X o (by omega) b
  | succ n ih =>
    intro q a L w g d b hg hd
    obtain ⟨g, rfl⟩ : ∃ g', g = g' + 1 := ⟨g - 1, by omega⟩
    rcases q with l | p
    · exact score_leaf (show LfD h D a l from L) w X o (by omega) b
    · obtain ⟨da, l, e, dl, de, h1, h2, h3, h4, h5, h6, h7, h8, h9⟩ := L
      obtain ⟨w1, w2, w3⟩ := w
      have k46 : 4 ≤ p.1 ∧ p.1 ≤ 6 := by
        rcases w1 with ⟨r, -⟩ | ⟨r, -⟩ <;> omega
      have e4 : (nI p.1 = 4) = (p.1 = 4) := nIe (b := 4) (by omega) (by decide)
      have lp : ∀ y : Bool, fX4_score_R_l58 (g_X4_score g) (some a) (some ta) (nI d) (bI y) 0 0 h = some (nI ((p.2.map (fun c => qsc T n c y)).sum)) := fun y => by
        unfold fX4_score_R_l58
        refine wh_out (fun i => (nI (((p.2.take i).map (fun c => qsc T n c y)).sum), nI i)) p.2.length rfl (fun i hi => ?_) ?_
        · show fX4_score_R_c58 (g_X4_score g) (some a) (some ta) (nI d) (bI y) (nI (((p.2.take i).map (fun c => qsc T n c y)).sum)) (nI i) h = _
          obtain ⟨a', q1, q2⟩ := h9 i hi
          have rc := ih p.2[i] a' q2 (w3 _ (List.getElem_mem hi)) g (d + 1) y (by omega) (by omega)
          unfold fX4_score_R_c58
          rw [gs_t, gd_t h1, h3, gs_t, gd_t h4, list_size h4 h5, bd_t, if_neg (nI_ge hi (by omega)), gs_t, gd_t h4, list_get h4 h5 h6 h7 h8 (by omega) hi q1, bd_t, gs_t, gd_t (QC_4 n _ _ q2), nI_1, rc, bd_t, nI_add, nI_1, sum_take _ _ hi]
        · show fX4_score_R_c58 (g_X4_score g) (some a) (some ta) (nI d) (bI y) (nI (((p.2.take p.2.length).map (fun c => qsc T n c y)).sum)) (nI p.2.length) h = _
          unfold fX4_score_R_c58
          rw [gs_t, gd_t h1, h3, gs_t, gd_t h4, list_size h4 h5, bd_t, if_pos (nI_le (Nat.le_refl _) (by omega)), mr_t, List.take_length]
      show fX4_score_R (g_X4_score g) (some a) (some ta) (bI b) (nI d) h = some (nI ((p.2.map (fun c => qsc T n c (if p.1 = 4 then !b else b))).sum))
      unfold fX4_score_R fX4_score_R_b50
      rw [if_pos (show nI d ≤ (40 : Int32) from show nI d ≤ nI 40 from (nI_leI (by omega) (by decide)).mpr (by omega)), gs_t, gd_t h1, isSimple_f h1 h2 k46.1 (by omega), bd_t, if_pos rfl, h2, ifn e4]
      by_cases z : p.1 = 4
      · rw [if_neg (fun y => y z), if_pos z]
        cases b with
        | false => rw [if_neg (fun y => y rfl)]; exact lp true
        | true => rw [if_pos (show ¬ bI true = 0 by decide)]; exact lp false
      · rw [if_pos z, if_neg z]
        exact lp b
/-! the reference's score: from the root on -/
def isTu (c a k : Nat) : Bool := c == 21 && a == 78
theorem isTu78 (k : Nat) : isTu 21 78 k = true := rfl
theorem isTu_scr {c a k : Nat} (e : isTu c a k = true) : isScr c a k = true := by
  unfold isTu at e
  rw [Bool.and_eq_true, beq_iff_eq, beq_iff_eq] at e
  obtain ⟨rfl, rfl⟩ := e
  unfold isScr
  rfl
/-- from node m-1 down to node m'-1 -/
def down {ρ : Type} (c : Int32 × Int32 × PH → Option ((Int32 × Int32 × PH) ⊕ ρ)) (s m : Nat) (g : PH) (s' m' : Nat) (g' : PH) : Prop := ∀ r, wh c (nI s', nI m' + (-1), g') = some r → wh c (nI s, nI m + (-1), g) = some r
/-- the parts of a node hear how they are turned -/
theorem turn_in {h : PH} (m : MSh h) {q k b : Nat} (hq : q < 8) (hb : b < 400) (hk : k < 8) (v2 : Int32) (s : Nat) {α : Type} (S : α → Nat) (t : Bool) : ∀ (cs : List α) (lo : Nat) (g : PH) (fr : Int32), onlyI isTu h g → lnk S (fun i => hI h 20 65 (400 * q + i)) cs lo fr → (∀ c ∈ cs, 0 < S c) → lo + (cs.map S).sum ≤ b → hI g 21 78 b = bI t → ∃ g', (∀ r, wh (fun z : Int32 × PH => fX12_score_c59 45 (nI q) v2 (nI s) (nI b) (nI k) z.1 z.2) (-1, g') = some r → wh (fun z : Int32 × PH => fX12_score_c59 45 (nI q) v2 (nI s) (nI b) (nI k) z.1 z.2) (fr, g) = some r) ∧ onlyI isTu h g' ∧ atL S (fun c l => hI g' 21 78 (l + S c - 1) = bI (t != decide (k = 4))) cs lo ∧ ∀ i, (i < lo ∨ lo + (cs.map S).sum ≤ i) → hI g' 21 78 i = hI g 21 78 i := by
  intro cs
  induction cs with
  | nil =>
    intro lo g fr og L _ _ _
    have L : fr = -1 := L
    subst L
    exact ⟨g, fun r z => z, og, trivial, fun _ _ => rfl⟩
  | cons c cs ih =>
    intro lo g fr og L hs hl ht
    rw [sum_cons] at hl ⊢
    have sc := hs c List.mem_cons_self
    obtain ⟨rfl, L2⟩ := L
    have mg := m.oI og
    have e1 : hI h 20 65 (400 * q + (lo + S c - 1)) = (fun i => hI h 20 65 (400 * q + i)) (lo + S c - 1) := rfl
    generalize hr : lo + S c - 1 = r at L2 e1 ⊢
    have rb : r < b := by omega
    have inr : hK g 78 = 21 ∧ inb (nI r) (hN g 78) := ⟨k_78 mg, by rw [n_78 mg]; exact inbI (by omega) (by decide)⟩
    have inb' : hK g 78 = 21 ∧ inb (nI b) (hN g 78) := ⟨k_78 mg, by rw [n_78 mg]; exact inbI (by omega) (by decide)⟩
    have k4' : (nI k = 4) = (k = 4) := nIe (b := 4) (by omega) (by decide)
    have o1 : ∀ y, onlyI isTu h (sI g 21 78 r (bI y)) := fun y => og.tr (onlyI_sI _ _ (isTu78 r))
    have b97 : ∀ (v : Int32) (y : Bool), v &&& 1 = bI y → fX12_score_b97 45 (nI q) v2 (nI s) (nI b) (nI k) (nI r) (some 78) (nI r) v g = some (.inl (hI h 20 65 (400 * q + r), sI g 21 78 r (bI y))) := fun v y hv => by
      have m1 := m.oI (o1 y)
      unfold fX12_score_b97
      rw [gs_t, gd_t inr, lt_t, hv, gd_t (k_45 (m.oI (og.tr (onlyI_sI _ _ (isTu78 _))))), r12_45_30 (m.oI (og.tr (onlyI_sI _ _ (isTu78 _)))), gs_t, i400, gd_t ⟨k_65 (m.oI (og.tr (onlyI_sI _ _ (isTu78 _)))), by rw [n_65 (m.oI (og.tr (onlyI_sI _ _ (isTu78 _))))]; exact inbI (by omega) (by decide)⟩, nI_clamp (by omega), nI_clamp (by omega), show hI (sI g 21 78 r (bI y)) 20 65 (400 * q + r) = hI h 20 65 (400 * q + r) from (o1 y).1 20 65 _ rfl]
    have st : fX12_score_c59 45 (nI q) v2 (nI s) (nI b) (nI k) (nI r) g = some (.inl (hI h 20 65 (400 * q + r), sI g 21 78 r (bI (t != decide (k = 4))))) := by
      unfold fX12_score_c59 fX12_score_b89
      rw [if_neg (nI_nm1 (by omega)), gd_t (k_45 mg), r12_45_47 mg, gs_t, gd_t inb', ifn k4', show hI g 21 78 (Int32.toNatClampNeg (nI b)) = bI t by rw [nI_clamp (by omega)]; exact ht]
      by_cases z4 : k = 4
      · rw [if_neg (fun y => y z4), decide_eq_true z4]
        cases t with
        | false => rw [if_neg (show ¬ bI false = 1 by decide)]; exact b97 1 true and1_1
        | true => rw [if_pos (show bI true = 1 from rfl)]; exact b97 0 false and1_0
      · rw [if_pos z4, decide_eq_false z4]
        cases t with
        | false => rw [if_pos (show bI false = 0 from rfl)]; exact b97 0 false and1_0
        | true => rw [if_neg (show ¬ bI true = 0 by decide)]; exact b97 1 true and1_1
    obtain ⟨g', f1, f2, f3, f4⟩ := ih (lo + S c) (sI g 21 78 r (bI (t != decide (k = 4)))) (hI h 20 65 (400 * q + r)) (o1 _) (by rw [e1]; exact L2) (fun d hd => hs d (List.mem_cons_of_mem _ hd)) (by omega) (by rw [hI_sI, if_neg (fun y => by have := y.2.2; omega)]; exact ht)
    refine ⟨g', fun x hx => wh_step (t := (hI h 20 65 (400 * q + r), sI g 21 78 r (bI (t != decide (k = 4))))) st (f1 x hx), f2, ⟨?_, f3⟩, fun i hi => ?_⟩
    · show hI g' 21 78 (lo + S c - 1) = _
      rw [hr, f4 r (by omega), hI_sI, if_pos ⟨rfl, rfl, rfl⟩]
    · rw [f4 i (by omega), hI_sI, if_neg (fun y => by have := y.2.2; omega)]
