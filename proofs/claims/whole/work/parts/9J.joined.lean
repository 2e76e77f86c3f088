/-- what a node makes of its parts, one after another -/
def jf (k : Nat) (a v : Bool) : Bool := if k = 4 then !v else if k = 5 then a && v else a || v
theorem foldl_jf5 {α : Type} (f : α → Bool) : ∀ (cs : List α) (a : Bool), (cs.map f).foldl (jf 5) a = (a && cs.all f)
  | [], a => by simp
  | c :: cs, a => by
    rw [List.map_cons, List.foldl_cons, foldl_jf5 f cs, List.all_cons]
    show ((a && f c) && _) = _
    rw [Bool.and_assoc]
theorem foldl_jf6 {α : Type} (f : α → Bool) : ∀ (cs : List α) (a : Bool), (cs.map f).foldl (jf 6) a = (a || cs.any f)
  | [], a => by simp
  | c :: cs, a => by
    rw [List.map_cons, List.foldl_cons, foldl_jf6 f cs, List.any_cons]
    show ((a || f c) || _) = _
    rw [Bool.or_assoc]
/-- one part of a node, by its link -/
theorem join_in {h : PH} (m : MSh h) {q k b : Nat} (hq : q < 8) (hb : b < 400) (hk : 4 ≤ k ∧ k ≤ 6) {α : Type} (S : α → Nat) (f : α → Bool) : ∀ (cs : List α) (lo : Nat) (g : PH) (fr : Int32) (acc : Bool), onlyI isHo h g → lnk S (fun i => hI h 20 65 (400 * q + i)) cs lo fr → (∀ c ∈ cs, 0 < S c) → lo + (cs.map S).sum ≤ b → atL S (fun c l => hI g 21 77 (l + S c - 1) = bI (f c)) cs lo → hI g 21 77 b = bI acc → ∃ g', fX12_joined_l63 45 (nI q) (nI b) (nI k) fr g = some (.inl (nI (b + 1), g')) ∧ onlyI isHo h g' ∧ hI g' 21 77 b = bI ((cs.map f).foldl (jf k) acc) ∧ ∀ i, ¬ i = b → hI g' 21 77 i = hI g 21 77 i := by
  intro cs
  induction cs with
  | nil =>
    intro lo g fr acc og L _ _ _ ha
    refine ⟨g, ?_, og, ha, fun _ _ => rfl⟩
    have L : fr = -1 := L
    subst L
    unfold fX12_joined_l63
    refine wh_done ?_
    show fX12_joined_c63 45 (nI q) (nI b) (nI k) (-1) g = _
    unfold fX12_joined_c63 fX12_joined_b172
    rw [if_pos rfl, nI_1, mr_t]
  | cons c cs ih =>
    intro lo g fr acc og L hs hl hh ha
    rw [sum_cons] at hl
    have sc := hs c List.mem_cons_self
    obtain ⟨rfl, L2⟩ := L
    obtain ⟨hc, hh2⟩ := hh
    have mg := m.oI og
    generalize hr : lo + S c - 1 = r at hc L2 ⊢
    have rb : r < b := by omega
    have inr : hK g 77 = 21 ∧ inb (nI r) (hN g 77) := ⟨k_77 mg, by rw [n_77 mg]; exact inbI (by omega) (by decide)⟩
    have inb' : hK g 77 = 21 ∧ inb (nI b) (hN g 77) := ⟨k_77 mg, by rw [n_77 mg]; exact inbI (by omega) (by decide)⟩
    have ha' : hI g 21 77 (Int32.toNatClampNeg (nI b)) = bI acc := by rw [nI_clamp (by omega)]; exact ha
    have hc' : hI g 21 77 (Int32.toNatClampNeg (nI r)) = bI (f c) := by rw [nI_clamp (by omega)]; exact hc
    have k4' : (nI k = 4) = (k = 4) := nIe (b := 4) (by omega) (by decide)
    have k5' : (nI k = 5) = (k = 5) := nIe (b := 5) (by omega) (by decide)
    have b153 : ∀ (v : Int32) (y : Bool), v &&& 1 = bI y → fX12_joined_b153 45 (nI q) (nI b) (nI k) (nI r) (some 77) (nI b) v g = some (.inl (hI h 20 65 (400 * q + r), sI g 21 77 b (bI y))) := fun v y hv => by
      have o1 : onlyI isHo h (sI g 21 77 b (bI y)) := og.tr (onlyI_sI _ _ (isHo77 b))
      have m1 := m.oI o1
      unfold fX12_joined_b153
      rw [gs_t, gd_t inb', lt_t, nI_clamp (by omega), hv, gd_t (k_45 m1), r12_45_30 m1, gs_t, i400, gd_t ⟨k_65 m1, by rw [n_65 m1]; exact inbI (by omega) (by decide)⟩, nI_clamp (by omega), show hI (sI g 21 77 b (bI y)) 20 65 (400 * q + r) = hI h 20 65 (400 * q + r) from o1.1 20 65 _ rfl]
    have st : fX12_joined_c63 45 (nI q) (nI b) (nI k) (nI r) g = some (.inl (hI h 20 65 (400 * q + r), sI g 21 77 b (bI (jf k acc (f c))))) := by
      unfold fX12_joined_c63 fX12_joined_b125 fX12_joined_b148
      rw [if_neg (nI_nm1 (by omega)), gd_t (k_45 mg), ifn k4', ifn k5', r12_45_46 mg, gs_t, gs_t, gs_t, gd_t inb', gd_t inb', gd_t inr, ha', hc']
      unfold jf
      by_cases z4 : k = 4
      · rw [if_neg (fun y => y z4), if_pos z4, gs_t, gd_t inr, hc']
        cases f c with
        | true => rw [if_pos (show ¬ bI true = 0 by decide)]; exact b153 0 false and1_0
        | false => rw [if_neg (fun y => y rfl)]; exact b153 1 true and1_1
      · rw [if_pos z4, if_neg z4]
        by_cases z5 : k = 5
        · rw [if_neg (fun y => y z5), if_pos z5]
          cases acc with
          | false => rw [if_pos (show bI false = 0 from rfl), Bool.false_and]; exact b153 0 false and1_0
          | true =>
            rw [if_neg (show ¬ bI true = 0 by decide), gs_t, gd_t inr, hc', Bool.true_and]
            cases f c with
            | false => rw [if_pos (show bI false = 0 from rfl)]; exact b153 0 false and1_0
            | true => rw [if_neg (show ¬ bI true = 0 by decide)]; exact b153 1 true and1_1
        · rw [if_pos z5, if_neg z5]
          cases acc with
          | true => rw [if_pos (show ¬ bI true = 0 by decide), Bool.true_or]; exact b153 1 true and1_1
          | false =>
            rw [if_neg (show ¬ ¬ bI false = 0 from fun y => y rfl), Bool.false_or]
            cases f c with
            | false => rw [if_pos (show bI false = 0 from rfl)]; exact b153 0 false and1_0
            | true => rw [if_neg (show ¬ bI true = 0 by decide)]; exact b153 1 true and1_1
    obtain ⟨g', e1, e2, e3, e4⟩ := ih (lo + S c) (sI g 21 77 b (bI (jf k acc (f c)))) (hI h 20 65 (400 * q + r)) (jf k acc (f c)) (og.tr (onlyI_sI _ _ (isHo77 b))) L2 (fun d hd => hs d (List.mem_cons_of_mem _ hd)) (by omega) (atL.imp (fun d hd l h1 h2 z => by
      have := hs d (List.mem_cons_of_mem _ hd)
      rw [hI_sI, if_neg (fun y => by have := y.2.2; omega)]
      exact z) hh2) (by rw [hI_sI, if_pos ⟨rfl, rfl, rfl⟩])
    refine ⟨g', ?_, e2, e3, fun i hi => ?_⟩
    · unfold fX12_joined_l63 at e1 ⊢
      exact wh_step (t := (hI h 20 65 (400 * q + r), sI g 21 77 b (bI (jf k acc (f c))))) st e1
    · rw [e4 i hi, hI_sI, if_neg (fun y => hi y.2.2)]
/-- phase 2: what joins parts -/
theorem ph2 {h : PH} (m : MSh h) {T : List Nat} {q N : Nat} (hq : q < 8) (hN0 : hI h 20 67 q = nI N) (hN1 : N ≤ 400) : ∀ (n : Nat) (Q : QT n) (lo : Nat) (g : PH), onlyI isHo h g → QM h q n Q lo → wfq n Q → lo + sz n Q ≤ N → LH T g n Q lo → ∃ g', goes (fun z : Int32 × PH => fX12_joined_c2 45 (nI q) z.1 z.2) lo (lo + sz n Q) g g' ∧ onlyI isHo h g' ∧ hI g' 21 77 (lo + sz n Q - 1) = bI (qmet T n Q) ∧ ∀ k, (k < lo ∨ lo + sz n Q ≤ k) → hI g' 21 77 k = hI g 21 77 k := by
  have leaf : ∀ (l : Nat × List Nat × Nat) (lo : Nat) (g : PH), onlyI isHo h g → LfM3 h q lo l → okL3 l → lo + 1 ≤ N → goes (fun z : Int32 × PH => fX12_joined_c2 45 (nI q) z.1 z.2) lo (lo + 1) g g := fun l lo g og L w hl => by
    have mg := m.oI og
    have kl := w.1
    have e67 : hI g 20 67 q = nI N := (og.1 20 67 q rfl).trans hN0
    have in60 : hK g 60 = 20 ∧ inb (nI (400 * q + lo)) (hN g 60) := ⟨k_60 mg, by rw [n_60 mg]; exact inbI (by omega) (by decide)⟩
    refine goes_1 ?_
    show fX12_joined_c2 45 (nI q) (nI lo) g = _
    unfold fX12_joined_c2 fX12_joined_b172
    rw [gd_t (k_45 mg), r12_45_32 mg, gs_t, gd_t ⟨k_67 mg, by rw [n_67 mg]; exact inbI hq (by decide)⟩, show hI g 20 67 (Int32.toNatClampNeg (nI q)) = nI N by rw [nI_clamp (by omega)]; exact e67, if_neg (nI_ge (by omega) (by omega)), r12_45_25 mg, gs_t, i400, gd_t in60, show hI g 20 60 (Int32.toNatClampNeg (nI (400 * q + lo))) = nI l.1 by rw [nI_clamp (by omega)]; exact (og.1 20 60 _ rfl).trans L.1.1, if_neg (show ¬ (4 : Int32) ≤ nI l.1 from show ¬ nI 4 ≤ nI l.1 by rw [nI_leI (by decide) (by omega)]; omega), nI_1]
  intro n
  induction n with
  | zero => exact fun Q lo g og L w hl z => ⟨g, leaf Q lo g og L w hl, og, z, fun _ _ => rfl⟩
  | succ n ih =>
    intro Q lo g og L w hl z
    rcases Q with l | p
    · exact ⟨g, leaf l lo g og L w hl, og, z, fun _ _ => rfl⟩
    · obtain ⟨h1, h2, h3⟩ := L
      obtain ⟨w1, w2, w3⟩ := w
      have z : atL (sz n) (LH T g n) p.2 lo := z
      have hl : lo + ((p.2.map (sz n)).sum + 1) ≤ N := hl
      have ls : ∀ (cs : List (QT n)) (lo : Nat) (g : PH), onlyI isHo h g → atL (sz n) (QM h q n) cs lo → (∀ c ∈ cs, wfq n c) → lo + (cs.map (sz n)).sum ≤ N → atL (sz n) (LH T g n) cs lo → ∃ g', goes (fun z : Int32 × PH => fX12_joined_c2 45 (nI q) z.1 z.2) lo (lo + (cs.map (sz n)).sum) g g' ∧ onlyI isHo h g' ∧ atL (sz n) (fun c l => hI g' 21 77 (l + sz n c - 1) = bI (qmet T n c)) cs lo ∧ ∀ k, (k < lo ∨ lo + (cs.map (sz n)).sum ≤ k) → hI g' 21 77 k = hI g 21 77 k := by
        intro cs
        induction cs with
        | nil => exact fun lo g og _ _ _ _ => ⟨g, fun r z => z, og, trivial, fun _ _ => rfl⟩
        | cons c cs ihc =>
          intro lo g og L w hl z
          rw [sum_cons] at hl ⊢
          have sp := sz_pos n c
          obtain ⟨g1, r1, r2, r3, r4⟩ := ih c lo g og L.1 (w c List.mem_cons_self) (by omega) z.1
          obtain ⟨g2, q1, q2, q3, q4⟩ := ihc (lo + sz n c) g1 r2 L.2 (fun d hd => w d (List.mem_cons_of_mem _ hd)) (by omega) (atL.imp (fun d _ l h1 h2 y => LH.of n d l (fun k k1 k2 => r4 k (by omega)) y) z.2)
          rw [Nat.add_assoc] at q1 q4
          refine ⟨g2, r1.tr q1, q2, ⟨?_, q3⟩, fun k hk => ?_⟩
          · show hI g2 21 77 (lo + sz n c - 1) = bI (qmet T n c)
            rw [q4 _ (by omega)]
            exact r3
          · rw [q4 k (by omega), r4 k (by omega)]
      obtain ⟨g1, r1, r2, r3, r4⟩ := ls p.2 lo g og h1 w3 (by omega) z
      have mg := m.oI r2
      have k46 : 4 ≤ p.1 ∧ p.1 ≤ 6 := by
        rcases w1 with ⟨r, -⟩ | ⟨r, -⟩ <;> omega
      have ez : sz (n + 1) (.inr p) = (p.2.map (sz n)).sum + 1 := rfl
      rw [ez]
      generalize hs : (p.2.map (sz n)).sum = s at *
      have e67 : hI g1 20 67 q = nI N := (r2.1 20 67 q rfl).trans hN0
      have in60 : hK g1 60 = 20 ∧ inb (nI (400 * q + (lo + s))) (hN g1 60) := ⟨k_60 mg, by rw [n_60 mg]; exact inbI (by omega) (by decide)⟩
      have o2 : ∀ y, onlyI isHo h (sI g1 21 77 (lo + s) (bI y)) := fun y => r2.tr (onlyI_sI _ _ (isHo77 _))
      obtain ⟨g2, j1, j2, j3, j4⟩ := join_in m hq (b := lo + s) (by omega) k46 (sz n) (qmet T n) p.2 lo (sI g1 21 77 (lo + s) (bI (decide (p.1 = 5)))) _ (decide (p.1 = 5)) (o2 _) h3 (fun c _ => sz_pos n c) (by omega) (atL.imp (fun d _ l h1 h2 y => by
        have := sz_pos n d
        rw [hI_sI, if_neg (fun v => by have := v.2.2; omega)]
        exact y) r3) (by rw [hI_sI, if_pos ⟨rfl, rfl, rfl⟩])
      have b48 : ∀ (v : Int32) (y : Bool), v &&& 1 = bI y → fX12_joined_b48 45 (nI q) (nI (lo + s)) (nI p.1) (some 77) (nI (lo + s)) v g1 = fX12_joined_l63 45 (nI q) (nI (lo + s)) (nI p.1) (hI h 20 64 (400 * q + (lo + s))) (sI g1 21 77 (lo + s) (bI y)) := fun v y hv => by
        have m1 := m.oI (o2 y)
        unfold fX12_joined_b48
        rw [gs_t, gd_t ⟨k_77 mg, by rw [n_77 mg]; exact inbI (by omega) (by decide)⟩, lt_t, nI_clamp (by omega), hv, gd_t (k_45 m1), r12_45_29 m1, gs_t, i400, gd_t ⟨k_64 m1, by rw [n_64 m1]; exact inbI (by omega) (by decide)⟩, nI_clamp (by omega), show hI (sI g1 21 77 (lo + s) (bI y)) 20 64 (400 * q + (lo + s)) = hI h 20 64 (400 * q + (lo + s)) from (o2 y).1 20 64 _ rfl]
      have st : fX12_joined_c2 45 (nI q) (nI (lo + s)) g1 = some (.inl (nI (lo + s + 1), g2)) := by
        rw [← j1]
        unfold fX12_joined_c2
        rw [gd_t (k_45 mg), r12_45_32 mg, gs_t, gd_t ⟨k_67 mg, by rw [n_67 mg]; exact inbI hq (by decide)⟩, show hI g1 20 67 (Int32.toNatClampNeg (nI q)) = nI N by rw [nI_clamp (by omega)]; exact e67, if_neg (nI_ge (by omega) (by omega)), r12_45_25 mg, gs_t, i400, gd_t in60, show hI g1 20 60 (Int32.toNatClampNeg (nI (400 * q + (lo + s)))) = nI p.1 by rw [nI_clamp (by omega)]; exact (r2.1 20 60 _ rfl).trans h2, if_pos (show (4 : Int32) ≤ nI p.1 from show nI 4 ≤ nI p.1 from (nI_leI (by decide) (by omega)).mpr k46.1), r12_45_46 mg, ifn (show (nI p.1 = 5) = (p.1 = 5) from nIe (b := 5) (by omega) (by decide))]
        by_cases z5 : p.1 = 5
        · rw [if_neg (fun y => y z5), b48 1 true and1_1, decide_eq_true z5]
        · rw [if_pos z5, b48 0 false and1_0, decide_eq_false z5]
      refine ⟨g2, r1.tr (goes_1 st), j2, ?_, fun k hk => ?_⟩
      · rw [show lo + (s + 1) - 1 = lo + s by omega, j3]
        congr 1
        show _ = (if p.1 = 4 then p.2.all (fun c => !qmet T n c) else if p.1 = 5 then p.2.all (fun c => qmet T n c) else p.2.any (fun c => qmet T n c))
        by_cases z4 : p.1 = 4
        · rw [if_pos z4, z4]
          rcases w1 with ⟨-, l1⟩ | ⟨y, -⟩
          · obtain ⟨c, hc⟩ := List.length_eq_one_iff.mp l1
            rw [hc]
            simp [jf]
          · omega
        · rw [if_neg z4]
          by_cases z5 : p.1 = 5
          · rw [if_pos z5, z5, foldl_jf5]
            rfl
          · have z6 : p.1 = 6 := by omega
            rw [if_neg z5, z6, foldl_jf6]
            rfl
      · rw [j4 k (by omega), hI_sI, if_neg (fun v => by have := v.2.2; omega), r4 k (by omega)]
