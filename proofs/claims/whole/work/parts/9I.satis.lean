theorem bI_1 (b : Bool) : (if b then (1 : Int32) else 0) = bI b := by cases b <;> rfl
theorem and1_0 : (0 : Int32) &&& 1 = bI false := by decide
theorem and1_1 : (1 : Int32) &&& 1 = bI true := by decide
/-- phase 1: the simple parts -/
theorem ph1_leaf {h g : PH} (m : MSh h) {tx : TX} (o : okX tx) (X : MT tx h) {t : Nat} (ht : t < 100) {T : List Nat} (e : tx t = some T) {q N : Nat} (hq : q < 8) (hN0 : hI h 20 67 q = nI N) (hN1 : N ≤ 400) (og : onlyI isHo h g) {lo : Nat} {l : Nat × List Nat × Nat} (ok : okL3 l) (L : LfM3 h q lo l) (hl : lo < N) : ∃ g', goes (fun z : Int32 × PH => fX12_satisfies_c13 45 (nI q) (nI t) z.1 z.2) lo (lo + 1) g g' ∧ onlyI isHo h g' ∧ hI g' 21 77 lo = bI (decide (0 < cntL3 T l)) ∧ ∀ k, ¬ k = lo → hI g' 21 77 k = hI g 21 77 k := by
  have mg := m.oI og
  have Lg : LfM3 g q lo l := L.of (fun a k h1 h2 => og.1 20 a k (by unfold isHo; rfl))
  have Xg : MT tx g := X.scr (og.scr (fun _ _ _ => isHo_scr))
  have e67 : hI g 20 67 q = nI N := (og.1 20 67 q rfl).trans hN0
  have in60 : hK g 60 = 20 ∧ inb (nI (400 * q + lo)) (hN g 60) := ⟨k_60 mg, by rw [n_60 mg]; exact inbI (by omega) (by decide)⟩
  have cl : Int32.toNatClampNeg (nI (400 * q + lo)) = 400 * q + lo := nI_clamp (by omega)
  have in77 : hK g 77 = 21 ∧ inb (nI lo) (hN g 77) := ⟨k_77 mg, by rw [n_77 mg]; exact inbI (by omega) (by decide)⟩
  have kl := ok.1
  have st : fX12_satisfies_c13 45 (nI q) (nI t) (nI lo) g = some (.inl (nI (lo + 1), sI g 21 77 lo (bI (decide (0 < cntL3 T l))))) := by
    unfold fX12_satisfies_c13 fX12_satisfies_b59 fX12_satisfies_b60
    have hc := cntL_le (k := l.1) (ws := l.2.1) (mo := l.2.2) (o t T e).2.1
    rw [gd_t (k_45 mg), r12_45_32 mg, gs_t, gd_t ⟨k_67 mg, by rw [n_67 mg]; exact inbI hq (by decide)⟩, show hI g 20 67 (Int32.toNatClampNeg (nI q)) = nI N by rw [nI_clamp (by omega)]; exact e67, if_neg (nI_ge hl (by omega)), r12_45_25 mg, gs_t, i400, gd_t in60, cl, Lg.1.1, if_neg (show ¬ (4 : Int32) ≤ nI l.1 from show ¬ nI 4 ≤ nI l.1 by rw [nI_leI (by decide) (by omega)]; omega), meets_eq mg o Xg ht hq (by omega) ok Lg.1, bd_t, cntX_s e, r12_45_46 mg, gs_t, gs_t, gd_t in77, gd_t in77, lt_t, lt_t, nI_clamp (by omega), nI_1, and1_0, and1_1]
    unfold cntL3
    by_cases z : 0 < cntL l.1 l.2.1 l.2.2 T
    · rw [if_neg (show ¬ nI (cntL l.1 l.2.1 l.2.2 T) ≤ (0 : Int32) from show ¬ nI (cntL l.1 l.2.1 l.2.2 T) ≤ nI 0 by rw [nI_leI (by omega) (by decide)]; omega), decide_eq_true z]
    · rw [if_pos (show nI (cntL l.1 l.2.1 l.2.2 T) ≤ (0 : Int32) from show nI (cntL l.1 l.2.1 l.2.2 T) ≤ nI 0 by rw [nI_leI (by omega) (by decide)]; omega), decide_eq_false z]
  refine ⟨_, goes_1 st, og.tr (onlyI_sI _ _ (isHo77 lo)), ?_, fun k hk => ?_⟩
  · rw [hI_sI, if_pos ⟨rfl, rfl, rfl⟩]
  · rw [hI_sI, if_neg (fun z => hk z.2.2)]
theorem sum_cons {α : Type} (S : α → Nat) (c : α) (cs : List α) : ((c :: cs).map S).sum = S c + (cs.map S).sum := by rw [List.map_cons, List.sum_cons]
theorem ph1 {h : PH} (m : MSh h) {tx : TX} (o : okX tx) (X : MT tx h) {t : Nat} (ht : t < 100) {T : List Nat} (e : tx t = some T) {q N : Nat} (hq : q < 8) (hN0 : hI h 20 67 q = nI N) (hN1 : N ≤ 400) : ∀ (n : Nat) (Q : QT n) (lo : Nat) (g : PH), onlyI isHo h g → QM h q n Q lo → wfq n Q → lo + sz n Q ≤ N → ∃ g', goes (fun z : Int32 × PH => fX12_satisfies_c13 45 (nI q) (nI t) z.1 z.2) lo (lo + sz n Q) g g' ∧ onlyI isHo h g' ∧ LH T g' n Q lo ∧ ∀ k, (k < lo ∨ lo + sz n Q ≤ k) → hI g' 21 77 k = hI g 21 77 k := by
  have leaf : ∀ (l : Nat × List Nat × Nat) (lo : Nat) (g : PH), onlyI isHo h g → LfM3 h q lo l → okL3 l → lo + 1 ≤ N → ∃ g', goes (fun z : Int32 × PH => fX12_satisfies_c13 45 (nI q) (nI t) z.1 z.2) lo (lo + 1) g g' ∧ onlyI isHo h g' ∧ hI g' 21 77 lo = bI (decide (0 < cntL3 T l)) ∧ ∀ k, (k < lo ∨ lo + 1 ≤ k) → hI g' 21 77 k = hI g 21 77 k := fun l lo g og L w hl => by
    obtain ⟨g', r1, r2, r3, r4⟩ := ph1_leaf m o X ht e hq hN0 hN1 og w L hl
    exact ⟨g', r1, r2, r3, fun k hk => r4 k (by omega)⟩
  intro n
  induction n with
  | zero => exact fun Q lo g og L w hl => leaf Q lo g og L w hl
  | succ n ih =>
    intro Q lo g og L w hl
    rcases Q with l | p
    · exact leaf l lo g og L w hl
    · obtain ⟨h1, h2, h3⟩ := L
      obtain ⟨w1, w2, w3⟩ := w
      have hl : lo + ((p.2.map (sz n)).sum + 1) ≤ N := hl
      have ls : ∀ (cs : List (QT n)) (lo : Nat) (g : PH), onlyI isHo h g → atL (sz n) (QM h q n) cs lo → (∀ c ∈ cs, wfq n c) → lo + (cs.map (sz n)).sum ≤ N → ∃ g', goes (fun z : Int32 × PH => fX12_satisfies_c13 45 (nI q) (nI t) z.1 z.2) lo (lo + (cs.map (sz n)).sum) g g' ∧ onlyI isHo h g' ∧ atL (sz n) (LH T g' n) cs lo ∧ ∀ k, (k < lo ∨ lo + (cs.map (sz n)).sum ≤ k) → hI g' 21 77 k = hI g 21 77 k := by
        intro cs
        induction cs with
        | nil => exact fun lo g og _ _ _ => ⟨g, fun r z => z, og, trivial, fun _ _ => rfl⟩
        | cons c cs ihc =>
          intro lo g og L w hl
          rw [sum_cons] at hl ⊢
          obtain ⟨g1, r1, r2, r3, r4⟩ := ih c lo g og L.1 (w c List.mem_cons_self) (by omega)
          obtain ⟨g2, q1, q2, q3, q4⟩ := ihc (lo + sz n c) g1 r2 L.2 (fun d hd => w d (List.mem_cons_of_mem _ hd)) (by omega)
          rw [Nat.add_assoc] at q1 q4
          refine ⟨g2, r1.tr q1, q2, ⟨LH.of n c lo (fun k k1 k2 => q4 k (Or.inl k2)) r3, q3⟩, fun k hk => ?_⟩
          rw [q4 k (by omega), r4 k (by omega)]
      obtain ⟨g1, r1, r2, r3, r4⟩ := ls p.2 lo g og h1 w3 (by omega)
      have mg := m.oI r2
      have k46 : 4 ≤ p.1 ∧ p.1 ≤ 6 := by
        rcases w1 with ⟨r, -⟩ | ⟨r, -⟩ <;> omega
      generalize hs : (p.2.map (sz n)).sum = s at *
      have e67 : hI g1 20 67 q = nI N := (r2.1 20 67 q rfl).trans hN0
      have in60 : hK g1 60 = 20 ∧ inb (nI (400 * q + (lo + s))) (hN g1 60) := ⟨k_60 mg, by rw [n_60 mg]; exact inbI (by omega) (by decide)⟩
      have st : fX12_satisfies_c13 45 (nI q) (nI t) (nI (lo + s)) g1 = some (.inl (nI (lo + s + 1), g1)) := by
        unfold fX12_satisfies_c13 fX12_satisfies_b60
        rw [gd_t (k_45 mg), r12_45_32 mg, gs_t, gd_t ⟨k_67 mg, by rw [n_67 mg]; exact inbI hq (by decide)⟩, show hI g1 20 67 (Int32.toNatClampNeg (nI q)) = nI N by rw [nI_clamp (by omega)]; exact e67, if_neg (nI_ge (by omega) (by omega)), r12_45_25 mg, gs_t, i400, gd_t in60, nI_clamp (by omega), show hI g1 20 60 (400 * q + (lo + s)) = nI p.1 from (r2.1 20 60 _ rfl).trans h2, if_pos (show (4 : Int32) ≤ nI p.1 from show nI 4 ≤ nI p.1 from (nI_leI (by decide) (by omega)).mpr k46.1), nI_1]
      have ez : sz (n + 1) (.inr p) = s + 1 := by rw [← hs]; rfl
      rw [ez]
      exact ⟨g1, r1.tr (goes_1 st), r2, r3, fun k hk => r4 k (by omega)⟩
