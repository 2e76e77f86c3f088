/-! THE REFERENCE NEGATES a query, third: the whole -/
/-- a ! is put on the last node -/
theorem negates_7 {g : PH} (m : MSh g) {M : Nat} (hM : M + 1 < 400) (e : hI g 20 67 7 = nI (M + 1)) : ∃ g', fX12_negates 45 7 (nI M) g = some (nI (M + 1), g') ∧ oP (fun c i k => c = 20 ∧ (60 ≤ i ∧ i ≤ 65 ∧ k = 400 * 7 + (M + 1) ∨ i = 67 ∧ k = 7 ∨ i = 65 ∧ k = 400 * 7 + M)) g g' ∧ hI g' 20 60 (400 * 7 + (M + 1)) = nI 4 ∧ hI g' 20 64 (400 * 7 + (M + 1)) = nI M ∧ hI g' 20 65 (400 * 7 + M) = -1 ∧ hI g' 20 67 7 = nI (M + 2) := by
  obtain ⟨g1, p1, p2, p3, p4, p5, p6, p7, p8⟩ := makes_q m (q := 7) (by decide) hM e 4 0 0
  have m1 := m.oP p2
  have c1 : Int32.toNatClampNeg (nI (400 * 7 + (M + 1))) = 400 * 7 + (M + 1) := nI_clamp (by omega)
  have c0 : Int32.toNatClampNeg (nI (400 * 7 + M)) = 400 * 7 + M := nI_clamp (by omega)
  have e1 : ((400 : Int32) * (7 : Int32)) + nI (M + 1) = nI (400 * 7 + (M + 1)) := i400 7 (M + 1)
  have e0 : ((400 : Int32) * (7 : Int32)) + nI M = nI (400 * 7 + M) := i400 7 M
  have o1 : oP (fun c i k => c = 20 ∧ (60 ≤ i ∧ i ≤ 65 ∧ k = 400 * 7 + (M + 1) ∨ i = 67 ∧ k = 7 ∨ i = 65 ∧ k = 400 * 7 + M)) g (sI g1 20 64 (400 * 7 + (M + 1)) (nI M)) := (p2.mono (fun c i k z => by unfold mkQ at z; omega)).sI _ ⟨rfl, Or.inl ⟨by decide, by decide, rfl⟩⟩
  have m2 := m.oP o1
  refine ⟨sI (sI g1 20 64 (400 * 7 + (M + 1)) (nI M)) 20 65 (400 * 7 + M) (-1), ?_, o1.sI _ ⟨rfl, Or.inr (Or.inr ⟨rfl, rfl⟩)⟩, ?_, ?_, ?_, ?_⟩
  · unfold fX12_negates
    rw [gd_t (k_45 m), show fX12_makes 45 (7 : Int32) 4 0 0 g = _ from p1, bd_t, gd_t (k_45 m1), r12_45_29 m1, gs_t, e1, gd_t ⟨k_64 m1, by rw [n_64 m1]; exact inbI (by omega) (by decide)⟩, lt_t, c1, r12_45_30 m2, gs_t, e0, gd_t ⟨k_65 m2, by rw [n_65 m2]; exact inbI (by omega) (by decide)⟩, lt_t, c0]
  · rw [getI, if_neg (fun z => absurd z.1 (by decide)), getI, if_neg (fun z => absurd z.1 (by decide))]; exact p3
  · rw [getI, if_neg (fun z => absurd z.1 (by decide)), getI, if_pos ⟨rfl, rfl⟩]
  · rw [getI, if_pos ⟨rfl, rfl⟩]
  · rw [getI, if_neg (fun z => absurd z.1 (by decide)), getI, if_neg (fun z => absurd z.1 (by decide))]; exact p8
theorem rq_1 (n : Nat) (Q : QT n) : rq 1 n Q = Q := rfl
theorem rq_2 (n : Nat) (Q : QT n) : rq 2 n Q = ngq n Q := rfl
theorem rq_msz {t n : Nat} {Q : QT n} (w : wfq n Q) : sz n (rq t n Q) ≤ msz n Q := by
  unfold rq
  by_cases z : t = 2
  · rw [if_pos z]
    exact Nat.le_trans (msz_bd n _ (ngq_wf n Q w)).1 (ngq_msz n Q w)
  · rw [if_neg z]
    exact (msz_bd n Q w).1
theorem map_id' {α : Type} (f : α → α) (e : ∀ x, f x = x) : ∀ cs : List α, cs.map f = cs
  | [] => rfl
  | c :: cs => by rw [List.map_cons, e, map_id' f e cs]
theorem rq_in1 (n kd : Nat) (cs : List (QT n)) : (rq 1 (n + 1) (.inr (kd, cs)) : QT (n + 1)) = .inr (kd, cs.map (rq 1 n)) := by
  have e : cs.map (rq 1 n) = cs := map_id' _ (fun _ => rfl) cs
  exact congrArg (fun l => (Sum.inr (kd, l) : QT (n + 1))) e.symm
/-- whom the node b became is noted -/
theorem c206 {h : PH} {q N b t r : Nat} (hq : q < 6) (hN0 : hI h 20 67 q = nI N) (hN1 : N ≤ 400) (hb : b < N) (ht : t = 1 ∨ t = 2) {g g1 : PH} (m : MSh h) (og : oP F3 h g) (hv : hI h 20 82 b = nI t) (st : fX12_turned 45 (nI q) (nI b) g = some (nI r, g1)) (o1 : oP F3 h g1) : fX12_turns_c206 45 (nI q) (nI b) g = some (.inl (nI (b + 1), sI g1 20 83 b (nI r))) := by
  have mg := m.oP og
  have m1 := m.oP o1
  have cq : Int32.toNatClampNeg (nI q) = q := nI_clamp (by omega)
  have cb : Int32.toNatClampNeg (nI b) = b := nI_clamp (by omega)
  have nz : ¬ nI t = (0 : Int32) := fun y => by
    have := (nI_eq (b := 0) (by omega) (by decide)).mp y
    omega
  have e67 : hI g 20 67 q = nI N := (og.1 20 67 q (fun z => by unfold F3 at z; omega)).trans hN0
  have e82 : hI g 20 82 b = nI t := (og.1 20 82 b (fun z => by unfold F3 at z; omega)).trans hv
  unfold fX12_turns_c206 fX12_turns_b237
  rw [gd_t (k_45 mg), r12_45_32 mg, gs_t, gd_t ⟨k_67 mg, by rw [n_67 mg]; exact inbI (by omega) (by decide)⟩]
  simp only [cq]
  rw [e67, if_neg (nI_ge hb (by omega)), r12_45_52 mg, gs_t, gd_t ⟨k_82 mg, by rw [n_82 mg]; exact inbI (by omega) (by decide)⟩]
  simp only [cb]
  rw [e82, if_neg nz, st, bd_t, r12_45_53 mg, gs_t, gd_t ⟨k_83 m1, by rw [n_83 m1]; exact inbI (by omega) (by decide)⟩, lt_t, nI_1]
theorem atL_P {α : Type} {S S' : α → Nat} {R : α → Nat → Prop} : ∀ {cs : List α} {lo M : Nat}, atL S R cs lo → atP S S' (fun c l _ => R c l) cs lo M
  | [], _, _, _ => trivial
  | _ :: _, _, _, a => ⟨a.1, atL_P a.2⟩
theorem trn_up {h : PH} (m : MSh h) {q N : Nat} (hq : q < 6) (hN0 : hI h 20 67 q = nI N) (hN1 : N ≤ 400) (ln : ∀ k, k < 20 → hI h 20 66 (20 * 7 + k) = hI h 20 66 (20 * q + k)) : ∀ (n : Nat) (Q : QT n) (lo M t : Nat) (g : PH), (t = 1 ∨ t = 2) → (t = 2 → gdq n Q) → oP F3 h g → QM h q n Q lo → TB h n Q lo t → wfq n Q → lo + sz n Q ≤ N → hI g 20 67 7 = nI M → M + msz n Q ≤ 400 → ∃ g', goes (fun z : Int32 × PH => fX12_turns_c206 45 (nI q) z.1 z.2) lo (lo + sz n Q) g g' ∧ oP (F3s M lo (lo + sz n Q)) g g' ∧ QM g' 7 n (rq t n Q) M ∧ hI g' 20 67 7 = nI (M + sz n (rq t n Q)) ∧ hI g' 20 83 (lo + sz n Q - 1) = nI (M + sz n (rq t n Q) - 1) := by
  -- a simple part is laid
  have lay1 : ∀ (l : L3) (lo M t : Nat) (g : PH), (t = 1 ∨ t = 2) → oP F3 h g → LfM3 h q lo l → okL3 l → lo + 1 ≤ N → hI h 20 82 lo = nI t → hI g 20 67 7 = nI M → M < 400 → ∃ g1, (∀ r, fX12_turned_b218 45 (nI lo) (nI l.1) (nI M) g1 = some r → fX12_turned 45 (nI q) (nI lo) g = some r) ∧ oP (F3s M lo (lo + 1)) g g1 ∧ LfM3 g1 7 M l ∧ hI g1 20 67 7 = nI (M + 1) := fun l lo M t g ht og L ok hl hv eM hM => by
    have kl := ok.1
    obtain ⟨g1, p1, p2, p3, p4, p5, p6, p7, p8, p9⟩ := trn_node m hq (by omega) (by omega) ht og L.1.1 hv (fun z => by omega) eM hM
    have k0 : (if t = 2 ∧ 5 ≤ l.1 then 11 - l.1 else l.1) = l.1 := if_neg (fun z => by omega)
    rw [k0] at p3
    refine ⟨g1, fun r hr => ?_, p2.mono (fun c i k z => by unfold F3s; omega), ?_, p9⟩
    · rw [p1, L.2]
      unfold fX12_turned_l122
      refine wh_done ?_
      show fX12_turned_c122 45 (nI q) (nI lo) (nI l.1) (nI M) (-1) (-1) g1 = _
      unfold fX12_turned_c122
      rw [if_pos rfl, if_pos rfl, hr, mr_t]
    · obtain ⟨⟨l1, l2, l3, l4⟩, l5⟩ := L
      refine ⟨⟨p3, fun k => p4.trans (l2 k), fun k => ⟨p5.trans (l3 k).1, p6.trans (l3 k).2⟩, fun k => ?_⟩, p7⟩
      obtain ⟨fr, f1, f2, f3, f4⟩ := l4 k
      refine ⟨fr, p4.trans f1, p5.trans f2, f3, fun i hi => ?_⟩
      have e := (p2.1 20 66 (20 * 7 + fr + i) (fun z => by omega)).trans (og.1 20 66 (20 * 7 + fr + i) (fun z => by unfold F3 at z; omega))
      rw [e, Nat.add_assoc, ln (fr + i) (by omega), ← Nat.add_assoc]
      exact f4 i hi
  have b218_1 : ∀ (g : PH) (b kd B : Nat), oP F3 h g → b < 400 → hI h 20 82 b = nI 1 → fX12_turned_b218 45 (nI b) (nI kd) (nI B) g = some (nI B, g) := fun g b kd B og hb hv => by
    have mg := m.oP og
    have e82 : hI g 20 82 b = nI 1 := (og.1 20 82 b (fun z => by unfold F3 at z; omega)).trans hv
    unfold fX12_turned_b218 fX12_turned_b245 fX12_turned_b247
    rw [gd_t (k_45 mg), r12_45_52 mg, gs_t, gd_t ⟨k_82 mg, by rw [n_82 mg]; exact inbI (by omega) (by decide)⟩, nI_clamp (by omega), e82, if_pos (show ¬ nI 1 = (2 : Int32) by decide)]
  have b218_2 : ∀ (g : PH) (b kd B : Nat), oP F3 h g → b < 400 → kd < 8 → 4 ≤ kd → hI h 20 82 b = nI 2 → fX12_turned_b218 45 (nI b) (nI kd) (nI B) g = some (nI B, g) := fun g b kd B og hb hk hk4 hv => by
    have mg := m.oP og
    have e82 : hI g 20 82 b = nI 2 := (og.1 20 82 b (fun z => by unfold F3 at z; omega)).trans hv
    unfold fX12_turned_b218 fX12_turned_b245 fX12_turned_b247
    rw [gd_t (k_45 mg), r12_45_52 mg, gs_t, gd_t ⟨k_82 mg, by rw [n_82 mg]; exact inbI (by omega) (by decide)⟩, nI_clamp (by omega), e82, if_neg (show ¬ ¬ nI 2 = (2 : Int32) from fun y => y rfl), if_pos (show (4 : Int32) ≤ nI kd from show nI 4 ≤ nI kd from (nI_leI (by decide) (by omega)).mpr hk4)]
  -- a simple part that stays
  have leaf1 : ∀ (l : L3) (lo M : Nat) (g : PH), oP F3 h g → LfM3 h q lo l → okL3 l → lo + 1 ≤ N → hI h 20 82 lo = nI 1 → hI g 20 67 7 = nI M → M + 2 ≤ 400 → ∃ g', goes (fun z : Int32 × PH => fX12_turns_c206 45 (nI q) z.1 z.2) lo (lo + 1) g g' ∧ oP (F3s M lo (lo + 1)) g g' ∧ LfM3 g' 7 M l ∧ hI g' 20 67 7 = nI (M + 1) ∧ hI g' 20 83 lo = nI M := fun l lo M g og L ok hl hv eM hM => by
    obtain ⟨g1, p1, p2, p3, p4⟩ := lay1 l lo M 1 g (Or.inl rfl) og L ok hl hv eM (by omega)
    have o1 := og.tr (p2.mono F3s_3)
    have st := p1 _ (b218_1 g1 lo l.1 M o1 (by omega) hv)
    have stp := c206 hq hN0 hN1 (show lo < N by omega) (Or.inl rfl) m og hv st o1
    refine ⟨sI g1 20 83 lo (nI M), goes_1 stp, p2.sI _ ⟨rfl, Or.inr (Or.inr ⟨rfl, Nat.le_refl _, by omega⟩)⟩, LfM3.st (fun i h1 h2 => ?_) (fun k hk => ?_) p3, ?_, ?_⟩
    · rw [getI, if_neg (fun z => by omega)]
    · rw [getI, if_neg (fun z => by omega)]
    · rw [getI, if_neg (fun z => by omega)]; exact p4
    · rw [getI, if_pos ⟨rfl, rfl⟩]
  -- a simple part that gets a !
  have leaf2 : ∀ (n : Nat) (l : L3) (lo M : Nat) (g : PH), oP F3 h g → LfM3 h q lo l → okL3 l → lo + 1 ≤ N → hI h 20 82 lo = nI 2 → hI g 20 67 7 = nI M → M + 2 ≤ 400 → ∃ g', goes (fun z : Int32 × PH => fX12_turns_c206 45 (nI q) z.1 z.2) lo (lo + 1) g g' ∧ oP (F3s M lo (lo + 1)) g g' ∧ QM g' 7 (n + 1) (.inr (4, [lf0 n l])) M ∧ hI g' 20 67 7 = nI (M + 2) ∧ hI g' 20 83 lo = nI (M + 1) := fun n l lo M g og L ok hl hv eM hM => by
    have kl := ok.1
    obtain ⟨g1, p1, p2, p3, p4⟩ := lay1 l lo M 2 g (Or.inr rfl) og L ok hl hv eM (by omega)
    have o1 := og.tr (p2.mono F3s_3)
    have m1 := m.oP o1
    obtain ⟨g2, q1, q2, q3, q4, q5, q6⟩ := negates_7 m1 (M := M) (by omega) p4
    have o2 := p2.tr (q2.mono (fun c i k z => show F3s M lo (lo + 1) c i k by unfold F3s; omega))
    have o3 := og.tr (o2.mono F3s_3)
    have e82 : hI g1 20 82 lo = nI 2 := (o1.1 20 82 lo (fun z => by unfold F3 at z; omega)).trans hv
    have bt : fX12_turned_b218 45 (nI lo) (nI l.1) (nI M) g1 = some (nI (M + 1), g2) := by
      unfold fX12_turned_b218 fX12_turned_b247
      rw [gd_t (k_45 m1), r12_45_52 m1, gs_t, gd_t ⟨k_82 m1, by rw [n_82 m1]; exact inbI (by omega) (by decide)⟩, nI_clamp (by omega), e82, if_neg (show ¬ ¬ nI 2 = (2 : Int32) from fun y => y rfl), if_neg (show ¬ (4 : Int32) ≤ nI l.1 from show ¬ nI 4 ≤ nI l.1 by rw [nI_leI (by decide) (by omega)]; omega), q1, bd_t]
    have st := p1 _ bt
    have stp := c206 hq hN0 hN1 (show lo < N by omega) (Or.inr rfl) m og hv st o3
    have s1 : sz n (lf0 n l) = 1 := by cases n <;> rfl
    have lf : QM (sI g2 20 83 lo (nI (M + 1))) 7 n (lf0 n l) M := by
      have : LfM3 (sI g2 20 83 lo (nI (M + 1))) 7 M l := LfM3.st (fun i h1 h2 => by
        rw [getI, if_neg (fun z => by omega)]
        exact q2.1 20 i _ (fun z => by omega)) (fun k hk => by
        rw [getI, if_neg (fun z => by omega)]
        exact q2.1 20 66 _ (fun z => by omega)) p3
      cases n <;> exact this
    refine ⟨sI g2 20 83 lo (nI (M + 1)), goes_1 stp, o2.sI _ ⟨rfl, Or.inr (Or.inr ⟨rfl, Nat.le_refl _, by omega⟩)⟩, ⟨⟨lf, trivial⟩, ?_, ?_, ?_⟩, ?_, ?_⟩
    · show hI _ 20 60 (400 * 7 + (M + (sz n (lf0 n l) + 0))) = nI 4
      rw [s1, getI, if_neg (fun z => by omega)]
      exact q3
    · show hI _ 20 64 (400 * 7 + (M + (sz n (lf0 n l) + 0))) = nI (M + sz n (lf0 n l) - 1)
      rw [s1, getI, if_neg (fun z => by omega), Nat.add_sub_cancel]
      exact q4
    · show hI _ 20 65 (400 * 7 + (M + sz n (lf0 n l) - 1)) = -1
      rw [s1, getI, if_neg (fun z => by omega), Nat.add_sub_cancel]
      exact q5
    · rw [getI, if_neg (fun z => by omega)]; exact q6
    · rw [getI, if_pos ⟨rfl, rfl⟩]
  intro n
  induction n with
  | zero =>
    intro Q lo M t g ht zg og L tb w hl eM hM
    have t1 : t = 1 := by
      rcases ht with y | y
      · exact y
      · exact (zg y).elim
    subst t1
    exact leaf1 Q lo M g og L w hl tb eM hM
  | succ n ih =>
    intro Q lo M t g ht zg og L tb w hl eM hM
    rcases Q with l | ⟨kd, cs⟩
    · rcases ht with y | y
      · subst y
        exact leaf1 l lo M g og L w hl tb eM hM
      · subst y
        obtain ⟨g', f1, f2, f3, f4, f5⟩ := leaf2 n l lo M g og L w hl tb eM hM
        have s1 : sz n (lf0 n l) = 1 := by cases n <;> rfl
        refine ⟨g', f1, f2, f3, ?_, ?_⟩
        · show hI g' 20 67 7 = nI (M + (sz n (lf0 n l) + 0 + 1))
          rw [s1]; exact f4
        · show hI g' 20 83 lo = nI (M + (sz n (lf0 n l) + 0 + 1) - 1)
          rw [s1]; exact f5
    · have w0 : wfq (n + 1) (.inr (kd, cs)) := w
      obtain ⟨h1, h2, h3⟩ := L
      obtain ⟨tb1, tb2⟩ := tb
      obtain ⟨w1, w2, w3⟩ := w
      have w3 : ∀ c ∈ cs, wfq n c := w3
      have h1 : atL (sz n) (QM h q n) cs lo := h1
      have h2 : hI h 20 60 (400 * q + (lo + (cs.map (sz n)).sum)) = nI kd := h2
      have h3 : lnk (sz n) (fun i => hI h 20 65 (400 * q + i)) cs lo (hI h 20 64 (400 * q + (lo + (cs.map (sz n)).sum))) := h3
      have tb1 : atL (sz n) (fun c l => TB h n c l (tw t kd)) cs lo := tb1
      have tb2 : hI h 20 82 (lo + (cs.map (sz n)).sum) = nI t := tb2
      have hl : lo + ((cs.map (sz n)).sum + 1) ≤ N := hl
      have w1 : (kd = 4 ∧ cs.length = 1) ∨ ((kd = 5 ∨ kd = 6) ∧ 2 ≤ cs.length) := w1
      have k46 : 4 ≤ kd ∧ kd ≤ 6 := by omega
      have ez : sz (n + 1) (.inr (kd, cs)) = (cs.map (sz n)).sum + 1 := rfl
      have tw12 := twv (k := kd) ht
      have zc : tw t kd = 2 → ∀ c ∈ cs, gdq n c := fun y => by
        have t2 : t = 2 ∧ kd ≠ 4 := by
          unfold tw at y
          by_cases z : t = 2 ∧ kd = 4
          · rw [if_pos z] at y; omega
          · rw [if_neg z] at y; exact ⟨y, fun x => z ⟨y, x⟩⟩
        rcases (show kd = 4 ∨ ∀ c ∈ cs, gdq n c from zg t2.1) with x | x
        · exact absurd x t2.2
        · exact x
      have hmS : (cs.map (msz n)).sum ≤ msz (n + 1) (.inr (kd, cs)) := by
        show _ ≤ (if kd = 4 ∧ cs.all (fun c => decide (knd n c < 4)) = true then 2 else (cs.map (msz n)).sum + 1)
        by_cases z : kd = 4 ∧ cs.all (fun c => decide (knd n c < 4)) = true
        · rw [if_pos z]
          obtain ⟨c, hc⟩ := List.length_eq_one_iff.mp (show cs.length = 1 by omega)
          have kc : knd n c < 4 := of_decide_eq_true (List.all_eq_true.mp z.2 c (by rw [hc]; exact List.mem_cons_self))
          rw [hc]
          show msz n c + 0 ≤ 2
          rw [(leaf_sz n c (w3 c (by rw [hc]; exact List.mem_cons_self)) kc).1]
          exact Nat.le_refl 2
        · rw [if_neg z]; exact Nat.le_succ _
      -- the parts
      have ls : ∀ (cs : List (QT n)) (lo M : Nat) (g : PH), oP F3 h g → atL (sz n) (QM h q n) cs lo → atL (sz n) (fun c l => TB h n c l (tw t kd)) cs lo → (∀ c ∈ cs, wfq n c) → (tw t kd = 2 → ∀ c ∈ cs, gdq n c) → lo + (cs.map (sz n)).sum ≤ N → hI g 20 67 7 = nI M → M + (cs.map (msz n)).sum ≤ 400 → ∃ g', goes (fun z : Int32 × PH => fX12_turns_c206 45 (nI q) z.1 z.2) lo (lo + (cs.map (sz n)).sum) g g' ∧ oP (F3s M lo (lo + (cs.map (sz n)).sum)) g g' ∧ atL (fun c => sz n (rq (tw t kd) n c)) (fun c k => QM g' 7 n (rq (tw t kd) n c) k) cs M ∧ hI g' 20 67 7 = nI (M + (cs.map (fun c => sz n (rq (tw t kd) n c))).sum) ∧ atP (sz n) (fun c => sz n (rq (tw t kd) n c)) (fun c l k => hI g' 20 83 (l + sz n c - 1) = nI (k + sz n (rq (tw t kd) n c) - 1)) cs lo M := by
        intro cs
        induction cs with
        | nil => exact fun lo M g og _ _ _ _ _ eM _ => ⟨g, fun r z => z, oP.rf _ g, trivial, eM, trivial⟩
        | cons c cs ihc =>
          intro lo M g og L tb w zc hl eM hM
          rw [sum_cons] at hl hM
          rw [sum_cons, sum_cons]
          have sp := sz_pos n c
          have rm := rq_msz (t := tw t kd) (w c List.mem_cons_self)
          have sr := sz_pos n (rq (tw t kd) n c)
          obtain ⟨g1, r1, r2, r3, r4, r5⟩ := ih c lo M (tw t kd) g tw12 (fun y => zc y c List.mem_cons_self) og L.1 tb.1 (w c List.mem_cons_self) (by omega) eM (by omega)
          obtain ⟨g2, q1, q2, q3, q4, q5⟩ := ihc (lo + sz n c) (M + sz n (rq (tw t kd) n c)) g1 (og.tr (r2.mono F3s_3)) L.2 tb.2 (fun d hd => w d (List.mem_cons_of_mem _ hd)) (fun y d hd => zc y d (List.mem_cons_of_mem _ hd)) (by omega) r4 (by omega)
          rw [Nat.add_assoc] at q1 q2 q4
          refine ⟨g2, r1.tr q1, (r2.mono (fun c' i k z => ?_)).tr (q2.mono (fun c' i k z => ?_)), ⟨QM.st (fun k hk => q2.1 20 66 _ (fun z => by unfold F3s at z; omega)) n _ M (fun i k i1 i2 k1 k2 _ => q2.1 20 i _ (fun z => by unfold F3s at z; omega)) r3, q3⟩, q4, ⟨?_, q5⟩⟩
          · unfold F3s at z ⊢; omega
          · unfold F3s at z ⊢; omega
          · show hI g2 20 83 (lo + sz n c - 1) = nI (M + sz n (rq (tw t kd) n c) - 1)
            rw [q2.1 20 83 _ (fun z => by unfold F3s at z; omega)]
            exact r5
      obtain ⟨g1, r1, r2, r3, r4, r5⟩ := ls cs lo M g og h1 tb1 w3 zc (by omega) eM (by omega)
      have o1 := og.tr (r2.mono F3s_3)
      have m1 := m.oP o1
      have szp := sum_le (fun c => sz n (rq (tw t kd) n c)) (msz n) cs (fun c hc => rq_msz (w3 c hc))
      rw [ez]
      by_cases zn : t = 2 ∧ kd = 4
      · -- a ! goes
        obtain ⟨rfl, rfl⟩ := zn
        obtain ⟨c, hc⟩ := List.length_eq_one_iff.mp (show cs.length = 1 by omega)
        subst hc
        have e1 : tw 2 4 = 1 := rfl
        rw [e1] at r3 r4 r5
        have sp := sz_pos n c
        have r3 : QM g1 7 n c M := r3.1
        have r4 : hI g1 20 67 7 = nI (M + (sz n c + 0)) := r4
        have r5 : hI g1 20 83 (lo + sz n c - 1) = nI (M + sz n c - 1) := r5.1
        have h3' : hI h 20 64 (400 * q + (lo + (sz n c + 0))) = nI (lo + sz n c - 1) := h3.1
        have h2 : hI h 20 60 (400 * q + (lo + (sz n c + 0))) = nI 4 := h2
        have tb2 : hI h 20 82 (lo + (sz n c + 0)) = nI 2 := tb2
        have r1 : goes (fun z : Int32 × PH => fX12_turns_c206 45 (nI q) z.1 z.2) lo (lo + (sz n c + 0)) g g1 := r1
        have r2 : oP (F3s M lo (lo + (sz n c + 0))) g g1 := r2
        have hl : lo + (sz n c + 0 + 1) ≤ N := hl
        show ∃ g', goes (fun z : Int32 × PH => fX12_turns_c206 45 (nI q) z.1 z.2) lo (lo + (sz n c + 0 + 1)) g g' ∧ oP (F3s M lo (lo + (sz n c + 0 + 1))) g g' ∧ QM g' 7 (n + 1) (lft n c) M ∧ hI g' 20 67 7 = nI (M + sz (n + 1) (lft n c)) ∧ hI g' 20 83 (lo + (sz n c + 0 + 1) - 1) = nI (M + sz (n + 1) (lft n c) - 1)
        rw [lft_sz]
        rw [Nat.add_zero] at r4 h3' h2 tb2 r1 r2 hl ⊢
        have cq : Int32.toNatClampNeg (nI (400 * q + (lo + sz n c))) = 400 * q + (lo + sz n c) := nI_clamp (by omega)
        have cb : Int32.toNatClampNeg (nI (lo + sz n c)) = lo + sz n c := nI_clamp (by omega)
        have ck : Int32.toNatClampNeg (nI (lo + sz n c - 1)) = lo + sz n c - 1 := nI_clamp (by omega)
        have st : fX12_turned 45 (nI q) (nI (lo + sz n c)) g1 = some (nI (M + sz n c - 1), g1) := by
          have nF : ∀ i k, i ≠ 67 → i ≠ 83 → k < 2800 → hI g1 20 i k = hI h 20 i k := fun i k a1 a2 a3 => o1.1 20 i k (fun z => by unfold F3 at z; omega)
          have iq : ∀ a, hN g1 a = 3200 → inb (nI (400 * q + (lo + sz n c))) (hN g1 a) := fun a e => by rw [e]; exact inbI (by omega) (by decide)
          unfold fX12_turned
          rw [gd_t (k_45 m1), r12_45_25 m1, gs_t, i400, gd_t ⟨k_60 m1, iq 60 (n_60 m1)⟩, r12_45_52 m1, gs_t, gd_t ⟨k_82 m1, by rw [n_82 m1]; exact inbI (by omega) (by decide)⟩]
          simp only [cb, cq]
          rw [nF 82 _ (by decide) (by decide) (by omega), tb2, if_neg (show ¬ ¬ nI 2 = (2 : Int32) from fun y => y rfl), nF 60 _ (by decide) (by decide) (by omega), h2, if_neg (show ¬ ¬ nI 4 = (4 : Int32) from fun y => y rfl), r12_45_29 m1, gs_t, gd_t ⟨k_64 m1, iq 64 (n_64 m1)⟩, nF 64 _ (by decide) (by decide) (by omega), h3', r12_45_53 m1, gs_t, gd_t ⟨k_83 m1, by rw [n_83 m1]; exact inbI (by omega) (by decide)⟩, ck, r5]
        have stp := c206 hq hN0 hN1 (show lo + sz n c < N by omega) (Or.inr rfl) m o1 tb2 st o1
        refine ⟨sI g1 20 83 (lo + sz n c) (nI (M + sz n c - 1)), r1.tr (goes_1 stp), (r2.mono (fun c' i k z => ?_)).sI _ ⟨rfl, Or.inr (Or.inr ⟨rfl, by omega, by omega⟩)⟩, lft_QM n c M (QM.st (fun k hk => ?_) n c M (fun i k i1 i2 k1 k2 _ => ?_) r3), ?_, ?_⟩
        · unfold F3s at z ⊢; omega
        · rw [getI, if_neg (fun z => by omega)]
        · rw [getI, if_neg (fun z => by omega)]
        · rw [getI, if_neg (fun z => by omega)]; exact r4
        · rw [getI, if_pos ⟨by rfl, by omega⟩]
      · -- a node over the parts
        have e1 : tw t kd = t := if_neg zn
        rw [e1] at r3 r4 r5 szp
        generalize hb : lo + (cs.map (sz n)).sum = b at *
        have hbN : b < N := by omega
        generalize hB : (cs.map (fun c => sz n (rq t n c))).sum = sB at *
        have hBl : M + sB < 400 := by
          by_cases z : kd = 4 ∧ cs.all (fun c => decide (knd n c < 4)) = true
          · have hM : M + (if kd = 4 ∧ cs.all (fun c => decide (knd n c < 4)) = true then 2 else (cs.map (msz n)).sum + 1) ≤ 400 := hM
            rw [if_pos z] at hM
            obtain ⟨c, hc⟩ := List.length_eq_one_iff.mp (show cs.length = 1 by omega)
            have t1 : t = 1 := by omega
            have kc : knd n c < 4 := of_decide_eq_true (List.all_eq_true.mp z.2 c (by rw [hc]; exact List.mem_cons_self))
            have s1 := (leaf_sz n c (w3 c (by rw [hc]; exact List.mem_cons_self)) kc).2
            rw [hc, t1] at hB
            have hB : sz n c + 0 = sB := hB
            omega
          · have hM : M + (if kd = 4 ∧ cs.all (fun c => decide (knd n c < 4)) = true then 2 else (cs.map (msz n)).sum + 1) ≤ 400 := hM
            rw [if_neg z] at hM
            omega
        obtain ⟨g2, p1, p2, p3, p4, p5, p6, p7, p8, p9⟩ := trn_node m hq (by omega) (by omega) ht o1 h2 tb2 zn r4 hBl
        have o2 := o1.tr (p2.mono (fun c i k z => show F3 c i k by unfold F3; omega))
        cases hcs : cs with
        | nil => exfalso; rw [hcs] at w1; simp at w1
        | cons c0 cs0 =>
          rw [hcs] at h3 r5 r3 hb hB
          obtain ⟨g3, j1, j2, j3⟩ := trn_links m (b := b) (kd := kd) hq (sz n) (fun c => sz n (rq t n c)) c0 cs0 lo M g2 _ o2 h3 (fun d _ => ⟨sz_pos n d, sz_pos n _⟩) (by omega) (by rw [hB]; exact Nat.le_refl _) hBl (atP.imp (fun d _ l k _ _ y => by
            rw [p2.1 20 83 _ (fun z => by omega)]
            exact y) r5)
          have o3 := o2.tr (j2.mono (fun c i k z => show F3 c i k by
            obtain ⟨z1, z2⟩ := z
            unfold F3
            rcases z2 with y | y <;> omega))
          have bt : fX12_turned_b218 45 (nI b) (nI kd) (nI (M + sB)) g3 = some (nI (M + sB), g3) := by
            rcases ht with y | y
            · subst y; exact b218_1 g3 b kd _ o3 (by omega) tb2
            · subst y; exact b218_2 g3 b kd _ o3 (by omega) (by omega) k46.1 tb2
          have st : fX12_turned 45 (nI q) (nI b) g1 = some (nI (M + sB), g3) := by
            rw [p1]
            exact j1 _ bt
          have stp := c206 hq hN0 hN1 hbN ht m o1 tb2 st o3
          have kof : (rq t (n + 1) (.inr (kd, cs)) : QT (n + 1)) = .inr (if t = 2 ∧ 5 ≤ kd then 11 - kd else kd, cs.map (rq t n)) := by
            rcases ht with y | y
            · subst y
              exact (rq_in1 n kd cs).trans (congrArg (fun k => (Sum.inr (k, cs.map (rq 1 n)) : QT (n + 1))) (if_neg (fun z => by omega)).symm)
            · subst y
              have hk : (if kd = 5 then 6 else 5 : Nat) = (if 2 = 2 ∧ 5 ≤ kd then 11 - kd else kd) := by
                have r : (if 2 = 2 ∧ 5 ≤ kd then 11 - kd else kd) = 11 - kd := if_pos ⟨rfl, by omega⟩
                rw [r]
                by_cases x : kd = 5
                · rw [if_pos x]; omega
                · rw [if_neg x]; omega
              exact (ngq_j n (fun z => zn ⟨rfl, z⟩) cs).trans (congrArg (fun k => (Sum.inr (k, cs.map (ngq n)) : QT (n + 1))) hk)
          have es : ((cs.map (rq t n)).map (sz n)).sum = sB := by
            rw [List.map_map, ← hB, hcs]
            rfl
          rw [← hcs, kof]
          have eB : sz (n + 1) (.inr (if t = 2 ∧ 5 ≤ kd then 11 - kd else kd, cs.map (rq t n))) = sB + 1 := by
            show ((cs.map (rq t n)).map (sz n)).sum + 1 = _
            rw [es]
          rw [eB]
          have hb' : lo + ((cs.map (sz n)).sum + 1) = b + 1 := by rw [hcs]; omega
          rw [hb']
          refine ⟨sI g3 20 83 b (nI (M + sB)), ?_, ?_, ⟨?_, ?_, ?_⟩, ?_, ?_⟩
          · exact r1.tr (goes_1 stp)
          · refine (((r2.mono (fun c i k z => ?_)).tr (p2.mono (fun c i k z => ?_))).tr (j2.mono (fun c i k z => ?_))).sI _ ⟨rfl, Or.inr (Or.inr ⟨rfl, by omega, by omega⟩)⟩
            · unfold F3s at z ⊢; omega
            · unfold F3s; omega
            · obtain ⟨z1, z2⟩ := z
              unfold F3s
              rcases z2 with y | y <;> omega
          · rw [hcs]
            refine atL_map (S := fun c => sz n (rq t n c)) (f := rq t n) (fun c _ => rfl) (fun c _ l r => r) (atL.impR (fun d _ => sz_pos n _) (fun c _ l l1 l2 nr y => ?_) r3)
            rw [hB] at l2
            have j66 : ∀ i k, 66 ≤ i → hI g3 20 i k = hI g2 20 i k := fun i k hi => j2.1 20 i k (fun z => by
              rcases z.2 with y | y <;> omega)
            refine QM.st (fun k hk => ?_) n _ l (fun i k i1 i2 k1 k2 k3 => ?_) y
            · rw [getI, if_neg (fun z => by omega), j66 66 _ (by decide)]
              exact p2.1 20 66 _ (fun z => by omega)
            · rw [getI, if_neg (fun z => by omega), j2.1 20 i (400 * 7 + k) (fun z => by
                rcases z.2 with x | x
                · omega
                · have x4 := x.2.2.2
                  rw [Nat.add_sub_cancel_left] at x4
                  have := k3 x.1
                  exact nr k k1 (by omega) x4)]
              exact p2.1 20 i _ (fun z => by omega)
          · show hI _ 20 60 (400 * 7 + (M + ((cs.map (rq t n)).map (sz n)).sum)) = _
            rw [es, getI, if_neg (fun z => by omega), j2.1 20 60 _ (fun z => by
              rcases z.2 with y | y <;> omega)]
            exact p3
          · show lnk (sz n) _ (cs.map (rq t n)) M (hI _ 20 64 (400 * 7 + (M + ((cs.map (rq t n)).map (sz n)).sum)))
            rw [es, getI, if_neg (fun z => by omega), hcs]
            refine lnk_map (S := fun c => sz n (rq t n c)) (fun c _ => rfl) (lnk_of (fun i => ?_) j3)
            rw [getI, if_neg (fun z => by omega)]
          · rw [getI, if_neg (fun z => by omega), j2.1 20 67 7 (fun z => by
              rcases z.2 with y | y <;> omega)]
            exact p9
          · rw [getI, if_pos ⟨rfl, by omega⟩]
            rfl
