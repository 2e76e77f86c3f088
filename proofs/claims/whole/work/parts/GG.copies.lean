/-! THE REFERENCE COPIES a block -/
def cpF (p c i k : Nat) : Prop := c = 20 ∧ (67 ≤ i ∧ i ≤ 69 ∧ k = p ∨ 60 ≤ i ∧ i ≤ 65 ∧ 400 * p ≤ k ∧ k < 400 * p + 400 ∨ i = 66 ∧ 20 * p ≤ k ∧ k < 20 * p + 20)
theorem i20q (q n : Nat) : ((20 : Int32) * nI q) + nI n = nI (20 * q + n) := by
  rw [show (20 : Int32) = nI 20 from rfl, pk_mul, nI_add]
theorem copy_step {g : PH} (m : MSh g) {q p N k : Nat} (hq : q < 8) (hp : p < 8) (hk : k < N) (hN0 : N ≤ 400) (e67 : hI g 20 67 q = nI N) : ∃ G, fX12_copies_c38 45 (nI q) (nI p) (nI k) g = some (.inl (nI (k + 1), G)) ∧ oP (fun c i j => c = 20 ∧ 60 ≤ i ∧ i ≤ 65 ∧ j = 400 * p + k) g G ∧ (p ≠ q → ∀ i, 60 ≤ i → i ≤ 65 → hI G 20 i (400 * p + k) = hI g 20 i (400 * q + k)) := by
  have cq : Int32.toNatClampNeg (nI q) = q := nI_clamp (by omega)
  have c1 : Int32.toNatClampNeg (nI (400 * q + k)) = 400 * q + k := nI_clamp (by omega)
  have c2 : Int32.toNatClampNeg (nI (400 * p + k)) = 400 * p + k := nI_clamp (by omega)
  have b1 : ∀ a, hN g a = 3200 → inb (nI (400 * q + k)) (hN g a) := fun a e => by rw [e]; exact inbI (by omega) (by decide)
  have b2 : ∀ a, hN g a = 3200 → inb (nI (400 * p + k)) (hN g a) := fun a e => by rw [e]; exact inbI (by omega) (by decide)
  unfold fX12_copies_c38
  rw [gd_t (k_45 m), r12_45_32 m, gs_t, gd_t ⟨k_67 m, by rw [n_67 m]; exact inbI hq (by decide)⟩]
  simp only [cq, i400, c1, c2, nI_1]
  rw [e67, if_neg (nI_ge hk (by omega))]
  refine ⟨_, gs_i (r12_45_25 m) (gd_i ⟨k_60 m, b1 _ (n_60 m)⟩ (gd_i (b2 _ (n_60 m)) (gs_i (r12_45_26 m) (gd_i ⟨k_61 m, b1 _ (n_61 m)⟩ (gd_i (b2 _ (n_61 m)) (gs_i (r12_45_27 m) (gd_i ⟨k_62 m, b1 _ (n_62 m)⟩ (gd_i (b2 _ (n_62 m)) (gs_i (r12_45_28 m) (gd_i ⟨k_63 m, b1 _ (n_63 m)⟩ (gd_i (b2 _ (n_63 m)) (gs_i (r12_45_29 m) (gd_i ⟨k_64 m, b1 _ (n_64 m)⟩ (gd_i (b2 _ (n_64 m)) (gs_i (r12_45_30 m) (gd_i ⟨k_65 m, b1 _ (n_65 m)⟩ (gd_i (b2 _ (n_65 m)) rfl))))))))))))))))), ?_, fun pq i i1 i2 => ?_⟩
  · exact ((((((oP.rf _ g).sI _ ⟨rfl, by decide, by decide, rfl⟩).sI _ ⟨rfl, by decide, by decide, rfl⟩).sI _ ⟨rfl, by decide, by decide, rfl⟩).sI _ ⟨rfl, by decide, by decide, rfl⟩).sI _ ⟨rfl, by decide, by decide, rfl⟩).sI _ ⟨rfl, by decide, by decide, rfl⟩
  · have : i = 60 ∨ i = 61 ∨ i = 62 ∨ i = 63 ∨ i = 64 ∨ i = 65 := by omega
    rcases this with rfl | rfl | rfl | rfl | rfl | rfl <;> simp [getI]
theorem line_step {g : PH} (m : MSh g) {q p k : Nat} (hq : q < 8) (hp : p < 8) (hk : k < 20) : fX12_copies_c200 45 (nI q) (nI p) (nI k) g = some (.inl (nI (k + 1), sI g 20 66 (20 * p + k) (hI g 20 66 (20 * q + k)))) := by
  have c1 : Int32.toNatClampNeg (nI (20 * q + k)) = 20 * q + k := nI_clamp (by omega)
  have c2 : Int32.toNatClampNeg (nI (20 * p + k)) = 20 * p + k := nI_clamp (by omega)
  have b1 : inb (nI (20 * q + k)) (hN g 66) := by rw [n_66 m]; exact inbI (by omega) (by decide)
  have b2 : inb (nI (20 * p + k)) (hN g 66) := by rw [n_66 m]; exact inbI (by omega) (by decide)
  unfold fX12_copies_c200
  rw [if_neg (show ¬ (20 : Int32) ≤ nI k from nI_ge (b := 20) hk (by decide)), gd_t (k_45 m), r12_45_31 m, gs_t, i20q, i20q, gd_t ⟨k_66 m, b1⟩, gd_t b2, c1, c2, lt_t, nI_1]
theorem copies_eq {g : PH} (m : MSh g) {q p N : Nat} (hq : q < 8) (hp : p < 8) (pq : p ≠ q) (hN0 : N ≤ 400) (e67 : hI g 20 67 q = nI N) : ∃ g', fX12_copies 45 (nI q) (nI p) g = some g' ∧ oP (cpF p) g g' ∧ hI g' 20 67 p = nI N ∧ hI g' 20 69 p = hI g 20 69 q ∧ (∀ i k, 60 ≤ i → i ≤ 65 → k < N → hI g' 20 i (400 * p + k) = hI g 20 i (400 * q + k)) ∧ (∀ k, k < 20 → hI g' 20 66 (20 * p + k) = hI g 20 66 (20 * q + k)) := by
  have lines : ∀ f k (g1 : PH), k + f = 20 → oP (cpF p) g g1 → (∀ j, j < k → hI g1 20 66 (20 * p + j) = hI g 20 66 (20 * q + j)) → ∃ g', fX12_copies_l200 45 (nI q) (nI p) (nI k) g1 = some g' ∧ oP (fun c i k => cpF p c i k ∧ i = 66) g1 g' ∧ oP (cpF p) g g' ∧ (∀ j, j < 20 → hI g' 20 66 (20 * p + j) = hI g 20 66 (20 * q + j)) := by
    intro f
    induction f with
    | zero =>
      intro k g1 hk x r
      have hk : k = 20 := by omega
      subst hk
      refine ⟨g1, wh_done ?_, oP.rf _ g1, x, r⟩
      show fX12_copies_c200 45 (nI q) (nI p) (nI 20) g1 = _
      unfold fX12_copies_c200
      rw [if_pos (show (20 : Int32) ≤ nI 20 by decide), mr_t]
    | succ f ih =>
      intro k g1 hk x r
      have st := line_step (m.oP x) hq hp (show k < 20 by omega)
      have y : oP (fun c i k => cpF p c i k ∧ i = 66) g1 (sI g1 20 66 (20 * p + k) (hI g1 20 66 (20 * q + k))) := (oP.rf _ g1).sI _ ⟨⟨rfl, Or.inr (Or.inr ⟨rfl, by omega, by omega⟩)⟩, rfl⟩
      obtain ⟨g', a1, a2, a3, a4⟩ := ih (k + 1) _ (by omega) (x.tr (y.mono (fun _ _ _ z => z.1))) (fun j hj => by
        rw [getI]
        by_cases d : j = k
        · rw [if_pos ⟨rfl, by rw [d]⟩, d]
          exact x.1 20 66 (20 * q + k) (fun z => by unfold cpF at z; omega)
        · rw [if_neg (fun z => d (by omega))]
          exact r j (by omega))
      exact ⟨g', wh_step st a1, y.tr a2, a3, a4⟩
  have nodes : ∀ f k (g1 : PH), k + f = N → oP (cpF p) g g1 → (∀ i j, 60 ≤ i → i ≤ 65 → j < k → hI g1 20 i (400 * p + j) = hI g 20 i (400 * q + j)) → ∃ g', fX12_copies_l38 45 (nI q) (nI p) (nI k) g1 = some g' ∧ oP (fun c i k => cpF p c i k ∧ i ≤ 66) g1 g' ∧ oP (cpF p) g g' ∧ (∀ i j, 60 ≤ i → i ≤ 65 → j < N → hI g' 20 i (400 * p + j) = hI g 20 i (400 * q + j)) ∧ (∀ j, j < 20 → hI g' 20 66 (20 * p + j) = hI g 20 66 (20 * q + j)) := by
    intro f
    induction f with
    | zero =>
      intro k g1 hk x r
      have hk : k = N := by omega
      subst hk
      have m1 := m.oP x
      obtain ⟨g', a1, a2, a3, a4⟩ := lines 20 0 g1 rfl x (fun j hj => absurd hj (Nat.not_lt_zero _))
      refine ⟨g', wh_done ?_, a2.mono (fun c i k z => ⟨z.1, Nat.le_of_eq z.2⟩), a3, fun i j i1 i2 hj => (a2.1 _ _ _ (fun z => by have := z.2; omega)).trans (r i j i1 i2 hj), a4⟩
      show fX12_copies_c38 45 (nI q) (nI p) (nI k) g1 = _
      have cq : Int32.toNatClampNeg (nI q) = q := nI_clamp (by omega)
      have e : hI g1 20 67 q = nI k := (x.1 20 67 q (fun z => by unfold cpF at z; omega)).trans e67
      unfold fX12_copies_c38
      rw [gd_t (k_45 m1), r12_45_32 m1, gs_t, gd_t ⟨k_67 m1, by rw [n_67 m1]; exact inbI hq (by decide)⟩, cq, e, if_pos (Int32.le_refl _)]
      rw [show fX12_copies_l200 45 (nI q) (nI p) (0 : Int32) g1 = some g' from a1, mr_t]
    | succ f ih =>
      intro k g1 hk x r
      obtain ⟨G, s1, s2, s3⟩ := copy_step (m.oP x) hq hp (show k < N by omega) hN0 ((x.1 20 67 q (fun z => by unfold cpF at z; omega)).trans e67)
      have y : oP (fun c i k => cpF p c i k ∧ i ≤ 66) g1 G := s2.mono (fun c i j z => by
        obtain ⟨z1, z2, z3, z4⟩ := z
        exact ⟨⟨z1, Or.inr (Or.inl ⟨z2, z3, by omega, by omega⟩)⟩, by omega⟩)
      obtain ⟨g', a1, a2, a3, a4, a5⟩ := ih (k + 1) G (by omega) (x.tr (y.mono (fun _ _ _ z => z.1))) (fun i j i1 i2 hj => by
        by_cases d : j = k
        · rw [d, s3 pq i i1 i2]
          exact x.1 20 i (400 * q + k) (fun z => by unfold cpF at z; omega)
        · rw [s2.1 20 i (400 * p + j) (fun z => by omega)]
          exact r i j i1 i2 (by omega))
      exact ⟨g', wh_step s1 a1, y.tr a2, a3, a4, a5⟩
  have cq : Int32.toNatClampNeg (nI q) = q := nI_clamp (by omega)
  have cp : Int32.toNatClampNeg (nI p) = p := nI_clamp (by omega)
  have x0 : oP (cpF p) g (sI (sI (sI g 20 67 p (hI g 20 67 q)) 20 68 p (hI g 20 68 q)) 20 69 p (hI g 20 69 q)) := (((oP.rf _ g).sI _ ⟨rfl, Or.inl ⟨by decide, by decide, rfl⟩⟩).sI _ ⟨rfl, Or.inl ⟨by decide, by decide, rfl⟩⟩).sI _ ⟨rfl, Or.inl ⟨by decide, by decide, rfl⟩⟩
  obtain ⟨g', a1, a2, a3, a4, a5⟩ := nodes N 0 _ (Nat.zero_add _) x0 (fun i j _ _ hj => absurd hj (Nat.not_lt_zero _))
  refine ⟨g', ?_, a3, ?_, ?_, fun i k i1 i2 hk => a4 i k i1 i2 hk, a5⟩
  · have i8 : ∀ a j, j < 8 → hN g a = 8 → inb (nI j) (hN g a) := fun a j hj e => by rw [e]; exact inbI hj (by decide)
    unfold fX12_copies
    rw [gd_t (k_45 m), r12_45_32 m, gs_t]
    simp only [cq, cp]
    refine gd_i ⟨k_67 m, i8 67 q hq (n_67 m)⟩ (gd_i (i8 67 p hp (n_67 m)) (gs_i (r12_45_33 m) (gd_i ⟨k_68 m, i8 68 q hq (n_68 m)⟩ (gd_i (i8 68 p hp (n_68 m)) (gs_i (r12_45_34 m) (gd_i ⟨k_69 m, i8 69 q hq (n_69 m)⟩ (gd_i (i8 69 p hp (n_69 m)) ?_)))))))
    show fX12_copies_l38 45 (nI q) (nI p) (nI 0) (sI (sI (sI g 20 67 p (hI g 20 67 q)) 20 68 p (hI (sI g 20 67 p (hI g 20 67 q)) 20 68 q)) 20 69 p (hI (sI (sI g 20 67 p (hI g 20 67 q)) 20 68 p (hI (sI g 20 67 p (hI g 20 67 q)) 20 68 q)) 20 69 q)) = _
    have e1 : hI (sI g 20 67 p (hI g 20 67 q)) 20 68 q = hI g 20 68 q := by rw [getI, if_neg (by simp)]
    rw [e1, show hI (sI (sI g 20 67 p (hI g 20 67 q)) 20 68 p (hI g 20 68 q)) 20 69 q = hI g 20 69 q by rw [getI, if_neg (by simp), getI, if_neg (by simp)]]
    exact a1
  · rw [a2.1 20 67 p (fun z => by have := z.2; omega), getI, if_neg (by simp), getI, if_neg (by simp), getI, if_pos ⟨rfl, rfl⟩]
    exact e67
  · rw [a2.1 20 69 p (fun z => by have := z.2; omega), getI, if_pos ⟨rfl, rfl⟩]
