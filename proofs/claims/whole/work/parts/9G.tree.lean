/-! QUERIES: trees of at most n levels below the root -/
def QT : Nat → Type
  | 0 => Nat × List Nat × Nat
  | n + 1 => (Nat × List Nat × Nat) ⊕ (Nat × List (QT n))
def okL3 (l : Nat × List Nat × Nat) : Prop := okL l.1 l.2.1 l.2.2
def cntL3 (T : List Nat) (l : Nat × List Nat × Nat) : Nat := cntL l.1 l.2.1 l.2.2 T
/-- what a query may be: ! over one, & and | over two or more -/
def wfq : (n : Nat) → QT n → Prop
  | 0, l => okL3 l
  | n + 1, q => match (q : (Nat × List Nat × Nat) ⊕ (Nat × List (QT n))) with
    | .inl l => okL3 l
    | .inr p => (p.1 = 4 ∧ p.2.length = 1 ∨ (p.1 = 5 ∨ p.1 = 6) ∧ 2 ≤ p.2.length) ∧ p.2.length ≤ 20 ∧ ∀ c ∈ p.2, wfq n c
/-- a text satisfies a query -/
def qmet (T : List Nat) : (n : Nat) → QT n → Bool
  | 0, l => decide (0 < cntL3 T l)
  | n + 1, q => match (q : (Nat × List Nat × Nat) ⊕ (Nat × List (QT n))) with
    | .inl l => decide (0 < cntL3 T l)
    | .inr p => if p.1 = 4 then p.2.all (fun c => !qmet T n c) else if p.1 = 5 then p.2.all (fun c => qmet T n c) else p.2.any (fun c => qmet T n c)
/-- a simple part's cells lie in D -/
def LfD (h : PH) (D : Nat → Prop) (a : Nat) (l : Nat × List Nat × Nat) : Prop := D a ∧ ∃ b c, D b ∧ D c ∧ hK h a = 4 ∧ hI h 4 a 0 = nI l.1 ∧ hR h 4 a 1 = some b ∧ RowAt h b l.2.1 ∧ hI h 4 a 2 = nI l.2.2 ∧ hR h 4 a 3 = some c ∧ hK h c = 14 ∧ hI h 14 c 2 = nI 0
theorem LfD.c {h : PH} {D : Nat → Prop} {a : Nat} {l : Nat × List Nat × Nat} (L : LfD h D a l) : LfC h a l.1 l.2.1 l.2.2 := by
  obtain ⟨-, b, c, -, -, h1, h2, h3, h4, h5, h6, h7, h8⟩ := L
  exact ⟨b, c, h1, h2, h3, h4, h5, h6, h7, h8⟩
/-- a query in the class's cells -/
def QC (h : PH) (D : Nat → Prop) : (n : Nat) → QT n → Nat → Prop
  | 0, l, a => LfD h D a l
  | n + 1, q, a => match (q : (Nat × List Nat × Nat) ⊕ (Nat × List (QT n))) with
    | .inl l => LfD h D a l
    | .inr p => D a ∧ ∃ l e, D l ∧ D e ∧ hK h a = 4 ∧ hI h 4 a 0 = nI p.1 ∧ hR h 4 a 3 = some l ∧ hK h l = 14 ∧ hI h 14 l 2 = nI p.2.length ∧ hR h 14 l 1 = some e ∧ hK h e = 28 ∧ p.2.length ≤ hN h e ∧ ∀ (i : Nat) (hi : i < p.2.length), ∃ a', hR h 28 e i = some a' ∧ QC h D n p.2[i] a'
/-- two heaps agree on a cell -/
def same (h h' : PH) (x : Nat) : Prop := (∀ c k, hI h' c x k = hI h c x k) ∧ (∀ c k, hR h' c x k = hR h c x k) ∧ hK h' x = hK h x ∧ hN h' x = hN h x
theorem LfD.mono {h h' : PH} {D D' : Nat → Prop} {a : Nat} {l : Nat × List Nat × Nat} (L : LfD h D a l) (s : ∀ x, D x → D' x ∧ same h h' x) : LfD h' D' a l := by
  obtain ⟨da, b, c, db, dc, h1, h2, h3, ⟨r1, r2, r3⟩, h5, h6, h7, h8⟩ := L
  obtain ⟨da', sa⟩ := s a da
  obtain ⟨db', sb⟩ := s b db
  obtain ⟨dc', sc⟩ := s c dc
  refine ⟨da', b, c, db', dc', sa.2.2.1.trans h1, (sa.1 4 0).trans h2, (sa.2.1 4 1).trans h3, ⟨sb.2.2.1.trans r1, sb.2.2.2.trans r2, fun i hi => (sb.1 20 i).trans (r3 i hi)⟩, (sa.1 4 2).trans h5, (sa.2.1 4 3).trans h6, sc.2.2.1.trans h7, (sc.1 14 2).trans h8⟩
theorem QC.mono {h h' : PH} {D D' : Nat → Prop} (s : ∀ x, D x → D' x ∧ same h h' x) : ∀ (n : Nat) (q : QT n) (a : Nat), QC h D n q a → QC h' D' n q a
  | 0, l, a, L => LfD.mono L s
  | n + 1, .inl l, a, L => LfD.mono (show LfD h D a l from L) s
  | n + 1, .inr p, a, L => by
    obtain ⟨da, l, e, dl, de, h1, h2, h3, h4, h5, h6, h7, h8, h9⟩ := L
    obtain ⟨da', sa⟩ := s a da
    obtain ⟨dl', sl⟩ := s l dl
    obtain ⟨de', se⟩ := s e de
    refine ⟨da', l, e, dl', de', sa.2.2.1.trans h1, (sa.1 4 0).trans h2, (sa.2.1 4 3).trans h3, sl.2.2.1.trans h4, (sl.1 14 2).trans h5, (sl.2.1 14 1).trans h6, se.2.2.1.trans h7, by rw [se.2.2.2]; exact h8, fun i hi => ?_⟩
    obtain ⟨a', q1, q2⟩ := h9 i hi
    exact ⟨a', (se.2.1 28 i).trans q1, QC.mono s n _ _ q2⟩
theorem isSimple_t {h : PH} {a k : Nat} (h1 : hK h a = 4) (h2 : hI h 4 a 0 = nI k) (hk : k < 4) : fX4_isSimple a h = some 1 := by
  unfold fX4_isSimple fX4_isSimple_b13
  rw [gd_t h1, h2, if_neg (show ¬ (3 : Int32) < nI k from show ¬ nI 3 < nI k by rw [nI_ltI (by decide) (by omega)]; omega)]
  exact gd_t (by decide)
theorem isSimple_f {h : PH} {a k : Nat} (h1 : hK h a = 4) (h2 : hI h 4 a 0 = nI k) (hk : 4 ≤ k) (hk2 : k < 8) : fX4_isSimple a h = some 0 := by
  unfold fX4_isSimple fX4_isSimple_b13
  rw [gd_t h1, h2, if_pos (show (3 : Int32) < nI k from show nI 3 < nI k by rw [nI_ltI (by decide) (by omega)]; omega)]
  exact gd_t (by decide)
theorem cntL_le {k : Nat} {ws : List Nat} {mo : Nat} {T : List Nat} (h40 : T.length ≤ 40) : cntL k ws mo T ≤ 1600 := by
  have inc : ∀ i, incL k ws mo T i ≤ 40 := fun i => by
    unfold incL nrC
    have := cnt_le (nrP T (ws.getD 1 0) mo i) T.length
    repeat' split
    all_goals omega
  have : ∀ n, sm (incL k ws mo T) n ≤ 40 * n := fun n => by
    induction n with
    | zero => exact Nat.le_refl _
    | succ n ih => rw [sm]; have := inc n; omega
  have := this T.length
  unfold cntL
  omega
theorem isMet_leaf {h : PH} {D : Nat → Prop} {a ta tb : Nat} {l : Nat × List Nat × Nat} {T : List Nat} (L : LfD h D a l) (ok : okL3 l) (X : TextAt h ta tb T) (o : okT T) {g d : Nat} (hd : d ≤ 40) : g_X4_isMet (g + 1) (some a) (some ta) (nI d) h = some (bI (decide (0 < cntL3 T l))) := by
  have C := L.c
  have h1 : hK h a = 4 := by obtain ⟨b, c, h1, -⟩ := C; exact h1
  have h2 : hI h 4 a 0 = nI l.1 := by obtain ⟨b, c, -, h2, -⟩ := C; exact h2
  have hc := cntL_le (k := l.1) (ws := l.2.1) (mo := l.2.2) o.1
  show fX4_isMet_R (g_X4_isMet g) (some a) (some ta) (nI d) h = _
  unfold fX4_isMet_R fX4_isMet_R_b28
  rw [if_pos (show nI d ≤ (40 : Int32) from show nI d ≤ nI 40 from (nI_leI (by omega) (by decide)).mpr hd), gs_t, gd_t h1, isSimple_t h1 h2 ok.1, bd_t, if_neg (by decide), countMeetings_eq C ok X o, bd_t]
  unfold cntL3
  by_cases z : 0 < cntL l.1 l.2.1 l.2.2 T
  · rw [if_neg (show ¬ nI (cntL l.1 l.2.1 l.2.2 T) ≤ (0 : Int32) from show ¬ nI (cntL l.1 l.2.1 l.2.2 T) ≤ nI 0 by rw [nI_leI (by omega) (by decide)]; omega), decide_eq_true z]
    exact gd_t (by decide)
  · rw [if_pos (show nI (cntL l.1 l.2.1 l.2.2 T) ≤ (0 : Int32) from show nI (cntL l.1 l.2.1 l.2.2 T) ≤ nI 0 by rw [nI_leI (by omega) (by decide)]; omega), decide_eq_false z]
    exact gd_t (by decide)
theorem drop_all {α : Type} {l : List α} (p : α → Bool) {i : Nat} (hi : i < l.length) : (l.drop i).all p = (p l[i] && (l.drop (i + 1)).all p) := by
  rw [List.drop_eq_getElem_cons hi, List.all_cons]
theorem drop_any {α : Type} {l : List α} (p : α → Bool) {i : Nat} (hi : i < l.length) : (l.drop i).any p = (p l[i] || (l.drop (i + 1)).any p) := by
  rw [List.drop_eq_getElem_cons hi, List.any_cons]
theorem isMet_eq {h : PH} {D : Nat → Prop} {ta tb : Nat} {T : List Nat} (X : TextAt h ta tb T) (o : okT T) : ∀ (n : Nat) (q : QT n) (a : Nat), QC h D n q a → wfq n q → ∀ g d : Nat, n < g → d + n ≤ 40 → g_X4_isMet g (some a) (some ta) (nI d) h = some (bI (qmet T n q)) := by
  intro n
  induction n with
  | zero =>
    intro q a L w g d hg hd
    obtain ⟨g, rfl⟩ : ∃ g', g = g' + 1 := ⟨g - 1, by omega⟩
    exact isMet_leaf L w X o (by omega)
  | succ n ih =>
    intro q a L w g d hg hd
    obtain ⟨g, rfl⟩ : ∃ g', g = g' + 1 := ⟨g - 1, by omega⟩
    rcases q with l | p
    · exact isMet_leaf (show LfD h D a l from L) w X o (by omega)
    · obtain ⟨da, l, e, dl, de, h1, h2, h3, h4, h5, h6, h7, h8, h9⟩ := L
      obtain ⟨w1, w2, w3⟩ := w
      have k46 : 4 ≤ p.1 ∧ p.1 ≤ 6 := by
        rcases w1 with ⟨r, -⟩ | ⟨r, -⟩ <;> omega
      have e6 : (nI p.1 = 6) = (p.1 = 6) := nIe (b := 6) (by omega) (by decide)
      have e5 : (nI p.1 = 5) = (p.1 = 5) := nIe (b := 5) (by omega) (by decide)
      have e4 : (nI p.1 = 4) = (p.1 = 4) := nIe (b := 4) (by omega) (by decide)
      have b126 : ∀ b, fX4_isMet_R_b126 (g_X4_isMet g) (bI b) h = some (bI b) := fun b => by
        unfold fX4_isMet_R_b126
        exact gd_t (bI_and b)
      have fin : fX4_isMet_R_c31 (g_X4_isMet g) (some a) (some ta) (nI d) (nI p.2.length) h = some (.inr (bI (decide (¬ p.1 = 6)))) := by
        unfold fX4_isMet_R_c31
        rw [gs_t, gd_t h1, h3, gs_t, gd_t h4, list_size h4 h5, bd_t, if_pos (nI_le (Nat.le_refl _) (by omega)), h2, ifp e6]
        by_cases z : p.1 = 6
        · rw [if_pos z, decide_eq_false (fun y => y z), show (0 : Int32) = bI false from rfl, b126, mr_t]
        · rw [if_neg z, decide_eq_true z, show (1 : Int32) = bI true from rfl, b126, mr_t]
      have st : ∀ (i : Nat) (hi : i < p.2.length), fX4_isMet_R_c31 (g_X4_isMet g) (some a) (some ta) (nI d) (nI i) h = (if p.1 = 6 then (if qmet T n p.2[i] then some (.inr 1) else some (.inl (nI (i + 1)))) else if p.1 = 5 then (if qmet T n p.2[i] then some (.inl (nI (i + 1))) else some (.inr 0)) else (if qmet T n p.2[i] then some (.inr 0) else some (.inl (nI (i + 1))))) := fun i hi => by
        obtain ⟨a', q1, q2⟩ := h9 i hi
        have hk' : hK h a' = 4 := by
          cases n with
          | zero => obtain ⟨-, b, c, -, -, r, -⟩ := (show LfD h D a' _ from q2); exact r
          | succ n =>
            cases hc : p.2[i] with
            | inl l => rw [hc] at q2; obtain ⟨-, b, c, -, -, r, -⟩ := (show LfD h D a' l from q2); exact r
            | inr p' => rw [hc] at q2; obtain ⟨-, l, e, -, -, r, -⟩ := q2; exact r
        have rc := ih p.2[i] a' q2 (w3 _ (List.getElem_mem hi)) g (d + 1) (by omega) (by omega)
        unfold fX4_isMet_R_c31
        rw [gs_t, gd_t h1, h3, gs_t, gd_t h4, list_size h4 h5, bd_t, if_neg (nI_ge hi (by omega)), gs_t, gd_t h4, list_get h4 h5 h6 h7 h8 (by omega) hi q1, bd_t, gs_t, gd_t hk', nI_1, rc, bd_t, h2, ifn e6]
        have b91 : ∀ b : Bool, fX4_isMet_R_b91 (g_X4_isMet g) (some a) (some ta) (nI d) (nI i) (bI b) h = (if p.1 = 4 then (if b then some (.inr 0) else some (.inl (nI (i + 1)))) else some (.inl (nI (i + 1)))) := fun b => by
          unfold fX4_isMet_R_b91 fX4_isMet_R_b106 fX4_isMet_R_b104
          rw [gs_t, gd_t h1, h2, ifn e4, nI_1, mr_t]
          by_cases z : p.1 = 4
          · rw [if_neg (fun y => y z), if_pos z]
            cases b <;> rfl
          · rw [if_pos z, if_neg z]
        have b78 : ∀ b : Bool, fX4_isMet_R_b78 (g_X4_isMet g) (some a) (some ta) (nI d) (nI i) (bI b) h = (if p.1 = 5 then (if b then some (.inl (nI (i + 1))) else some (.inr 0)) else fX4_isMet_R_b91 (g_X4_isMet g) (some a) (some ta) (nI d) (nI i) (bI b) h) := fun b => by
          have hb := b91 b
          unfold fX4_isMet_R_b78 fX4_isMet_R_b104
          rw [gs_t, gd_t h1, h2, ifn e5, mr_t]
          by_cases z : p.1 = 5
          · rw [if_neg (fun y => y z), if_pos z]
            cases b with
            | false => rfl
            | true =>
              rw [if_neg (show ¬ bI true = 0 by decide), hb, if_neg (by omega)]
              rfl
          · rw [if_pos z, if_neg z]
        by_cases z6 : p.1 = 6
        · rw [if_neg (fun y => y z6), if_pos z6]
          cases qmet T n p.2[i] with
          | false => rw [if_pos (show bI false = 0 from rfl), b78, if_neg (by omega), b91, if_neg (by omega)]; rfl
          | true => rw [if_neg (show ¬ bI true = 0 by decide), mr_t]; rfl
        · rw [if_pos z6, if_neg z6, b78]
          by_cases z5 : p.1 = 5
          · rw [if_pos z5, if_pos z5]
          · rw [if_neg z5, if_neg z5, b91, if_pos (by omega)]
      have lp : ∀ (m i : Nat), i + m = p.2.length → fX4_isMet_R_l31 (g_X4_isMet g) (some a) (some ta) (nI d) (nI i) h = some (bI (if p.1 = 4 then (p.2.drop i).all (fun c => !qmet T n c) else if p.1 = 5 then (p.2.drop i).all (fun c => qmet T n c) else (p.2.drop i).any (fun c => qmet T n c))) := by
        intro m
        induction m with
        | zero =>
          intro i hi
          have : i = p.2.length := by omega
          subst this
          unfold fX4_isMet_R_l31
          refine (wh_done fin).trans ?_
          rw [List.drop_eq_nil_of_le (Nat.le_refl _)]
          by_cases z6 : p.1 = 6
          · rw [if_neg (by omega), if_neg (by omega), decide_eq_false (fun y => y z6)]
            rfl
          · rw [decide_eq_true z6]
            by_cases z4 : p.1 = 4
            · rw [if_pos z4]; rfl
            · rw [if_neg z4, if_pos (by omega)]; rfl
        | succ m ihm =>
          intro i hi
          have hl : i < p.2.length := by omega
          have s := st i hl
          have rc := ihm (i + 1) (by omega)
          unfold fX4_isMet_R_l31 at rc ⊢
          rw [drop_all _ hl, drop_all _ hl, drop_any _ hl]
          by_cases z6 : p.1 = 6
          · rw [if_pos z6] at s
            rw [if_neg (by omega), if_neg (by omega)] at rc ⊢
            cases c : qmet T n p.2[i] with
            | true => rw [c, if_pos rfl] at s; exact wh_done s
            | false =>
              rw [c, if_neg (by decide)] at s
              refine (wh_step s rc).trans ?_
              rw [Bool.false_or]
          · rw [if_neg z6] at s
            by_cases z4 : p.1 = 4
            · rw [if_neg (by omega)] at s
              rw [if_pos z4] at rc ⊢
              cases c : qmet T n p.2[i] with
              | true => rw [c, if_pos rfl] at s; exact wh_done s
              | false =>
                rw [c, if_neg (by decide)] at s
                refine (wh_step s rc).trans ?_
                rw [Bool.not_false, Bool.true_and]
            · rw [if_pos (by omega)] at s
              rw [if_neg z4, if_pos (by omega)] at rc ⊢
              cases c : qmet T n p.2[i] with
              | true =>
                rw [c, if_pos rfl] at s
                refine (wh_step s rc).trans ?_
                rw [Bool.true_and]
              | false => rw [c, if_neg (by decide)] at s; exact wh_done s
      show fX4_isMet_R (g_X4_isMet g) (some a) (some ta) (nI d) h = _
      unfold fX4_isMet_R
      rw [if_pos (show nI d ≤ (40 : Int32) from show nI d ≤ nI 40 from (nI_leI (by omega) (by decide)).mpr (by omega)), gs_t, gd_t h1, isSimple_f h1 h2 k46.1 (by omega), bd_t, if_pos rfl]
      exact lp p.2.length 0 (by omega)
