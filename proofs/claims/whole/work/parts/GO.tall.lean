/-! THE REFERENCE NEGATES a query, fourth: turns -/
def FTn (c i k : Nat) : Prop := c = 20 ∧ (60 ≤ i ∧ i ≤ 65 ∧ 2800 ≤ k ∧ k < 3200 ∨ i = 66 ∧ 140 ≤ k ∧ k < 160 ∨ 67 ≤ i ∧ i ≤ 69 ∧ k = 7 ∨ i = 82 ∨ i = 83)
theorem FTn_82 : ∀ c i k, F82 c i k → FTn c i k := fun c i k z => by unfold F82 at z; unfold FTn; omega
theorem FTn_3 : ∀ c i k, F3 c i k → FTn c i k := fun c i k z => by unfold F3 at z; unfold FTn; omega
theorem FTn_s {h g : PH} {q : Nat} (hq : q < 6) (o : oP FTn h g) : sameQ q h g := ⟨fun a k h1 h2 h3 => o.1 20 a _ (fun z => by unfold FTn at z; omega), fun k hk => o.1 20 66 _ (fun z => by unfold FTn at z; omega), o.1 20 67 q (fun z => by unfold FTn at z; omega), o.1 20 69 q (fun z => by unfold FTn at z; omega)⟩
theorem tline_step {g : PH} (m : MSh g) {q k : Nat} (hq : q < 6) (hk : k < 20) : fX12_turns_c171 45 (nI q) (nI k) g = some (.inl (nI (k + 1), sI g 20 66 (20 * 7 + k) (hI g 20 66 (20 * q + k)))) := by
  have c1 : Int32.toNatClampNeg (nI (20 * q + k)) = 20 * q + k := nI_clamp (by omega)
  have c2 : Int32.toNatClampNeg (nI (20 * 7 + k)) = 20 * 7 + k := nI_clamp (by omega)
  have i14 : (140 : Int32) + nI k = nI (20 * 7 + k) := nI_add 140 k
  unfold fX12_turns_c171
  rw [if_neg (show ¬ (20 : Int32) ≤ nI k from nI_ge (b := 20) hk (by decide)), gd_t (k_45 m), r12_45_31 m, gs_t, i20q, i14, gd_t ⟨k_66 m, by rw [n_66 m]; exact inbI (by omega) (by decide)⟩, gd_t (by rw [n_66 m]; exact inbI (by omega) (by decide)), lt_t, c1, c2, nI_1]
theorem turns_eq {h : PH} (m : MSh h) {q : Nat} (hq : q < 6) {Q : QT 27} (B : BM h q 27 Q) (K : OKK Q) : ∃ g', fX12_turns 45 (nI q) h = some g' ∧ oP FTn h g' ∧ BM g' 7 27 (ngq 27 Q) := by
  obtain ⟨b1, b2, b3, b4, b5⟩ := id B
  have sp := sz_pos 27 Q
  generalize hNq : sz 27 Q = N at b1 b2 b3 sp
  have cq : Int32.toNatClampNeg (nI q) = q := nI_clamp (by omega)
  have iq : ∀ {u : PH} (a : Nat), hN u a = 8 → inb (nI q) (hN u a) := fun a e => by rw [e]; exact inbI (by omega) (by decide)
  have i7 : ∀ {u : PH} (a : Nat), hN u a = 8 → inb (7 : Int32) (hN u a) := fun a e => by rw [e]; decide
  have c7 : Int32.toNatClampNeg (7 : Int32) = 7 := rfl
  -- the last: the root
  have fin : ∀ (g : PH), oP FTn h g → hI g 20 83 (N - 1) = nI (sz 27 (ngq 27 Q) - 1) → hI g 20 67 7 = nI (sz 27 (ngq 27 Q)) → QM g 7 27 (ngq 27 Q) 0 → ∃ g', fX12_turns_c206 45 (nI q) (nI N) g = some (.inr g') ∧ oP FTn h g' ∧ BM g' 7 27 (ngq 27 Q) := fun g o e83 e67 qm => by
    have mg := m.oP o
    have sn := sz_pos 27 (ngq 27 Q)
    have s4 := (K.neg b5).szl (ngq_wf 27 Q b5)
    have e69 : hI g 20 69 q = nI (N - 1) := (FTn_s hq o).2.2.2.trans b2
    have e67q : hI g 20 67 q = nI N := (FTn_s hq o).2.2.1.trans b1
    have cn : Int32.toNatClampNeg (nI (N - 1)) = N - 1 := nI_clamp (by omega)
    have cr : Int32.toNatClampNeg (nI (400 * 7 + (sz 27 (ngq 27 Q) - 1))) = 400 * 7 + (sz 27 (ngq 27 Q) - 1) := nI_clamp (by omega)
    have o1 : oP FTn h (sI g 20 69 7 (nI (sz 27 (ngq 27 Q) - 1))) := o.sI _ ⟨rfl, Or.inr (Or.inr (Or.inl ⟨by decide, by decide, rfl⟩))⟩
    have m1 := m.oP o1
    have e7 : hI (sI g 20 69 7 (nI (sz 27 (ngq 27 Q) - 1))) 20 69 7 = nI (sz 27 (ngq 27 Q) - 1) := by rw [getI, if_pos ⟨rfl, rfl⟩]
    refine ⟨sI (sI g 20 69 7 (nI (sz 27 (ngq 27 Q) - 1))) 20 65 (400 * 7 + (sz 27 (ngq 27 Q) - 1)) (-1), ?_, o1.sI _ ⟨rfl, Or.inl ⟨by decide, by decide, by omega, by omega⟩⟩, ?_, ?_, s4, QM.st (fun k hk => ?_) 27 _ 0 (fun i k i1 i2 k1 k2 k3 => ?_) qm, ngq_wf 27 Q b5⟩
    · unfold fX12_turns_c206
      rw [gd_t (k_45 mg), r12_45_32 mg, gs_t, gd_t ⟨k_67 mg, iq 67 (n_67 mg)⟩]
      simp only [cq]
      rw [e67q, if_pos (Int32.le_refl _), r12_45_34 mg, gs_t, gd_t ⟨k_69 mg, iq 69 (n_69 mg)⟩, r12_45_53 mg, gs_t]
      simp only [e69, cn, c7]
      rw [gd_t ⟨k_83 mg, by rw [n_83 mg]; exact inbI (by omega) (by decide)⟩, gd_t (i7 69 (n_69 mg)), lt_t, e83, r12_45_34 m1, gs_t, gd_t ⟨k_69 m1, i7 69 (n_69 m1)⟩, e7, r12_45_30 m1, gs_t, i28, gd_t ⟨k_65 m1, by rw [n_65 m1]; exact inbI (by omega) (by decide)⟩, lt_t, cr, mr_t]
    · rw [getI, if_neg (fun z => absurd z.1 (by decide)), getI, if_neg (fun z => absurd z.1 (by decide))]; exact e67
    · rw [getI, if_neg (fun z => absurd z.1 (by decide)), getI, if_pos ⟨rfl, rfl⟩]
    · rw [getI, if_neg (fun z => absurd z.1 (by decide)), getI, if_neg (fun z => absurd z.1 (by decide))]
    · rw [getI, if_neg (fun z => by have := k3 z.1; omega), getI, if_neg (fun z => by omega)]
  -- the nodes
  have up : ∀ (g : PH), oP FTn h g → TB g 27 Q 0 2 → (∀ k, k < 20 → hI g 20 66 (20 * 7 + k) = hI g 20 66 (20 * q + k)) → hI g 20 67 7 = nI 0 → ∃ g', fX12_turns_l206 45 (nI q) (nI 0) g = some g' ∧ oP FTn h g' ∧ BM g' 7 27 (ngq 27 Q) := fun g o tb ln e67 => by
    have mg := m.oP o
    have s := FTn_s hq o
    obtain ⟨g1, r1, r2, r3, r4, r5⟩ := trn_up mg hq (s.2.2.1.trans b1) b3 ln 27 Q 0 0 2 g (Or.inr rfl) (fun _ => K.2.2) (oP.rf _ g) (QM.ofq s 27 Q 0 (by omega) b4) tb b5 (by omega) e67 (by have := K.2.1; omega)
    have o1 : oP FTn h g1 := o.tr (r2.mono (fun c i k z => FTn_3 c i k (F3s_3 c i k z)))
    rw [rq_2] at r3 r4 r5
    rw [Nat.zero_add] at r1 r4 r5
    rw [hNq] at r1 r5
    rw [Nat.zero_add] at r5
    obtain ⟨g', f1, f2, f3⟩ := fin g1 o1 r5 r4 r3
    exact ⟨g', r1 g' (wh_done f1), f2, f3⟩
  -- the line
  have lines : ∀ f k (g : PH), k + f = 20 → oP FTn h g → TB g 27 Q 0 2 → (∀ j, j < k → hI g 20 66 (20 * 7 + j) = hI g 20 66 (20 * q + j)) → hI g 20 67 7 = nI 0 → ∃ g', fX12_turns_l171 45 (nI q) (nI k) g = some g' ∧ oP FTn h g' ∧ BM g' 7 27 (ngq 27 Q) := by
    intro f
    induction f with
    | zero =>
      intro k g hk o tb r e67
      have hk : k = 20 := by omega
      subst hk
      obtain ⟨g', f1, f2, f3⟩ := up g o tb r e67
      refine ⟨g', wh_done ?_, f2, f3⟩
      show fX12_turns_c171 45 (nI q) (nI 20) g = _
      unfold fX12_turns_c171
      rw [if_pos (show (20 : Int32) ≤ nI 20 by decide), show fX12_turns_l206 45 (nI q) (0 : Int32) g = some g' from f1, mr_t]
    | succ f ih =>
      intro k g hk o tb r e67
      have st := tline_step (m.oP o) hq (show k < 20 by omega)
      have rd : ∀ i j, hI (sI g 20 66 (20 * 7 + k) (hI g 20 66 (20 * q + k))) 20 i j = if i = 66 ∧ j = 20 * 7 + k then hI g 20 66 (20 * q + k) else hI g 20 i j := fun i j => getI _ _ _ _ _ _
      obtain ⟨g', a1, a2⟩ := ih (k + 1) (sI g 20 66 (20 * 7 + k) (hI g 20 66 (20 * q + k))) (by omega) (o.sI _ ⟨rfl, Or.inr (Or.inl ⟨rfl, by omega, by omega⟩)⟩) (TB.of 27 Q 0 2 (fun j _ _ => by rw [rd, if_neg (fun z => absurd z.1 (by decide))]) tb) (fun j hj => by
        rw [rd, rd, if_neg (c := 66 = 66 ∧ 20 * q + j = 20 * 7 + k) (fun z => by omega)]
        by_cases d : j = k
        · rw [if_pos ⟨rfl, by omega⟩, d]
        · rw [if_neg (fun z => d (by omega))]
          exact r j (by omega)) (by rw [rd, if_neg (fun z => absurd z.1 (by decide))]; exact e67)
      exact ⟨g', wh_step st a1, a2⟩
  -- down: what each becomes
  have down1 : ∀ (g : PH), oP F82 h g → hI g 20 82 (N - 1) = nI 2 → ∃ g', fX12_turns_l46 45 (nI q) (nI (N - 1)) g = some g' ∧ oP FTn h g' ∧ BM g' 7 27 (ngq 27 Q) := fun g o e82 => by
    obtain ⟨g1, r1, r2, r3, r4⟩ := turnb_dn m (show q < 8 by omega) 27 Q 0 g 2 (Or.inr rfl) o b4 b5 (by omega) (by rw [Nat.zero_add, hNq]; exact e82)
    have m1 := m.oP r2
    have o1 : oP FTn h g1 := r2.mono FTn_82
    have o2 : oP FTn h (sI g1 20 67 7 0) := o1.sI _ ⟨rfl, Or.inr (Or.inr (Or.inl ⟨by decide, by decide, rfl⟩))⟩
    have m2 := m.oP o2
    obtain ⟨g', f1, f2, f3⟩ := lines 20 0 (sI (sI g1 20 67 7 0) 20 68 7 (hI (sI g1 20 67 7 0) 20 68 q)) rfl (o2.sI _ ⟨rfl, Or.inr (Or.inr (Or.inl ⟨by decide, by decide, rfl⟩))⟩) (TB.of 27 Q 0 2 (fun j _ _ => by rw [getI, if_neg (fun z => absurd z.1 (by decide)), getI, if_neg (fun z => absurd z.1 (by decide))]) r3) (fun j hj => absurd hj (Nat.not_lt_zero _)) (by rw [getI, if_neg (fun z => absurd z.1 (by decide)), getI, if_pos ⟨rfl, rfl⟩]; rfl)
    have e0 : nI (N - 1) = nI (0 + sz 27 Q) + (-1) := by
      rw [Nat.zero_add, hNq]
      obtain ⟨b, rfl⟩ : ∃ b, N = b + 1 := ⟨N - 1, by omega⟩
      rw [pk_m1]
      rfl
    refine ⟨g', ?_, f2, f3⟩
    rw [e0]
    unfold fX12_turns_l46
    refine r1 g' (wh_done ?_)
    show fX12_turns_c46 45 (nI q) (nI 0 + (-1)) g1 = _
    unfold fX12_turns_c46
    rw [if_pos (show nI 0 + (-1) < (0 : Int32) by decide), gd_t (k_45 m1), r12_45_32 m1, gs_t, gd_t ⟨k_67 m1, i7 67 (n_67 m1)⟩, lt_t]
    simp only [c7, cq]
    rw [r12_45_33 m2, gs_t, gd_t ⟨k_68 m2, iq 68 (n_68 m2)⟩, gd_t (i7 68 (n_68 m2)), lt_t, show fX12_turns_l171 45 (nI q) (0 : Int32) _ = some g' from f1, mr_t]
  -- none becomes anything yet
  have none0 : ∀ f k (g : PH), k + f = N → oP F82 h g → ∃ g', fX12_turns_l2 45 (nI q) (nI k) g = some g' ∧ oP FTn h g' ∧ BM g' 7 27 (ngq 27 Q) := by
    intro f
    induction f with
    | zero =>
      intro k g hk o
      have hk : k = N := by omega
      subst hk
      have mg := m.oP o
      have e67 : hI g 20 67 q = nI k := (o.1 20 67 q (fun z => absurd z.2 (by decide))).trans b1
      have e69 : hI g 20 69 q = nI (k - 1) := (o.1 20 69 q (fun z => absurd z.2 (by decide))).trans b2
      have cn : Int32.toNatClampNeg (nI (k - 1)) = k - 1 := nI_clamp (by omega)
      have o1 : oP F82 h (sI g 20 82 (k - 1) 2) := o.sI _ ⟨rfl, rfl⟩
      have m1 := m.oP o1
      obtain ⟨g', f1, f2, f3⟩ := down1 (sI g 20 82 (k - 1) 2) o1 (by rw [getI, if_pos ⟨rfl, rfl⟩]; rfl)
      have e67' : hI (sI g 20 82 (k - 1) 2) 20 67 q = nI k := by rw [getI, if_neg (fun z => absurd z.1 (by decide))]; exact e67
      refine ⟨g', wh_done ?_, f2, f3⟩
      show fX12_turns_c2 45 (nI q) (nI k) g = _
      unfold fX12_turns_c2
      rw [gd_t (k_45 mg), r12_45_32 mg, gs_t, gd_t ⟨k_67 mg, iq 67 (n_67 mg)⟩]
      simp only [cq]
      rw [e67, if_pos (Int32.le_refl _), r12_45_34 mg, gs_t, gd_t ⟨k_69 mg, iq 69 (n_69 mg)⟩, r12_45_52 mg, gs_t]
      simp only [e69, cn]
      rw [gd_t ⟨k_82 mg, by rw [n_82 mg]; exact inbI (by omega) (by decide)⟩, lt_t, r12_45_32 m1, gs_t, gd_t ⟨k_67 m1, iq 67 (n_67 m1)⟩, e67', show (1 : Int32) = nI 1 from rfl, pk_sub (by omega), f1, mr_t]
    | succ f ih =>
      intro k g hk o
      have mg := m.oP o
      have e67 : hI g 20 67 q = nI N := (o.1 20 67 q (fun z => absurd z.2 (by decide))).trans b1
      obtain ⟨g', f1, f2⟩ := ih (k + 1) (sI g 20 82 k 0) (by omega) (o.sI _ ⟨rfl, rfl⟩)
      refine ⟨g', wh_step (t := (nI (k + 1), sI g 20 82 k 0)) ?_ f1, f2⟩
      show fX12_turns_c2 45 (nI q) (nI k) g = _
      have ck : Int32.toNatClampNeg (nI k) = k := nI_clamp (by omega)
      unfold fX12_turns_c2
      rw [gd_t (k_45 mg), r12_45_32 mg, gs_t, gd_t ⟨k_67 mg, iq 67 (n_67 mg)⟩]
      simp only [cq]
      rw [e67, if_neg (nI_ge (by omega) (by omega)), r12_45_52 mg, gs_t, gd_t ⟨k_82 mg, by rw [n_82 mg]; exact inbI (by omega) (by decide)⟩, lt_t, ck, nI_1]
  unfold fX12_turns
  exact none0 N 0 h (Nat.zero_add _) (oP.rf _ h)
