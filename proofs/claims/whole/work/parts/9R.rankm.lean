theorem rank_m {h : PH} (c : MSh h) {n : Nat} (hn : n < 100) {r s : Nat → Int32} (t x v1 : Int32) : ∀ k : Nat, ∀ g : PH, k ≤ n → onlyI isFM h g → (∀ i, i < k → hI g 20 80 i = r i ∧ hI g 20 81 i = s i) → (∀ i, k < i → i ≤ n → hI g 20 80 i = r (i - 1) ∧ hI g 20 81 i = s (i - 1)) → ∃ h', fX12_asks_l58 45 v1 t x (nI k) g = some (.inl (t + 1, h')) ∧ onlyI isFM h h' ∧ hI h' 12 45 51 = hI g 12 45 51 ∧ (∀ i, i ≤ n → hI h' 20 80 i = putF r (ip s x k) t i ∧ hI h' 20 81 i = putF s (ip s x k) x i) ∧ ∀ i, hI h' 20 79 i = hI g 20 79 i := by
  have stop : ∀ (k : Nat) (g : PH), k ≤ n → onlyI isFM h g → (∀ i, i < k → hI g 20 80 i = r i ∧ hI g 20 81 i = s i) → (∀ i, k < i → i ≤ n → hI g 20 80 i = r (i - 1) ∧ hI g 20 81 i = s (i - 1)) → ∃ h', fX12_asks_b114 45 v1 t x (nI k) g = some (.inl (t + 1, h')) ∧ onlyI isFM h h' ∧ hI h' 12 45 51 = hI g 12 45 51 ∧ (∀ i, i ≤ n → hI h' 20 80 i = putF r k t i ∧ hI h' 20 81 i = putF s k x i) ∧ ∀ i, hI h' 20 79 i = hI g 20 79 i := fun k g hk og lo hi => by
    have cg := c.oI og
    have o2 : onlyI isFM h (sI g 20 80 k t) := og.tr (onlyI_sI _ _ (fm80 k))
    have c2 := c.oI o2
    have o3 : onlyI isFM h (sI (sI g 20 80 k t) 20 81 k x) := o2.tr (onlyI_sI _ _ (fm81 k))
    have c3 := c.oI o3
    have ck : Int32.toNatClampNeg (nI k) = k := nI_clamp (by omega)
    have c2' : MSh (sI g 20 80 (Int32.toNatClampNeg (nI k)) t) := by rw [ck]; exact c2
    refine ⟨sI (sI g 20 80 k t) 20 81 k x, ?_, o3, by rw [c20 _ _ _ _ (by decide), c20 _ _ _ _ (by decide)], fun i hi' => ?_, fun i => ?_⟩
    · unfold fX12_asks_b114 fX12_asks_b130
      rw [gd_t (k_45 cg), r12_45_49 cg, gs_t, gd_t ⟨k_80 cg, by rw [n_80 cg]; exact inbI (by omega) (by decide)⟩, lt_t, r12_45_50 c2', gs_t, gd_t ⟨k_81 c2', by rw [n_81 c2']; exact inbI (by omega) (by decide)⟩, lt_t, ck]
    · obtain ⟨q1, q2, -⟩ := two_rd g (A := 80) (B := 81) (by decide) k t x i
      rw [q1, q2]
      unfold putF
      by_cases d : i = k
      · have e0 : ¬ i < k := by omega
        rw [if_pos d, if_pos d, if_neg e0, if_pos d, if_neg e0, if_pos d]
        exact ⟨rfl, rfl⟩
      · simp only [if_neg d]
        by_cases q : i < k
        · simp only [if_pos q]; exact lo i q
        · simp only [if_neg q]; exact hi i (by omega) hi'
    · exact (two_rd g (A := 80) (B := 81) (by decide) k t x i).2.2 79 (by decide) (by decide)
  intro k
  induction k with
  | zero =>
    intro g hk og lo hi
    obtain ⟨h', f1, f2⟩ := stop 0 g hk og lo hi
    refine ⟨h', ?_, f2⟩
    unfold fX12_asks_l58
    refine wh_done ?_
    show fX12_asks_c58 45 v1 t x (nI 0) g = _
    unfold fX12_asks_c58
    rw [if_pos (by decide), f1, mr_t]
  | succ k ih =>
    intro g hk og lo hi
    have cg := c.oI og
    have ck : Int32.toNatClampNeg (nI k) = k := nI_clamp (by omega)
    have ck1 : Int32.toNatClampNeg (nI (k + 1)) = k + 1 := nI_clamp (by omega)
    have i37 : hK g 81 = 20 ∧ inb (nI k) (hN g 81) := ⟨k_81 cg, by rw [n_81 cg]; exact inbI (by omega) (by decide)⟩
    have i36 : hK g 80 = 20 ∧ inb (nI k) (hN g 80) := ⟨k_80 cg, by rw [n_80 cg]; exact inbI (by omega) (by decide)⟩
    have j36 : inb (nI (k + 1)) (hN g 80) := by rw [n_80 cg]; exact inbI (by omega) (by decide)
    have o2 : onlyI isFM h (sI g 20 80 (k + 1) (r k)) := og.tr (onlyI_sI _ _ (fm80 _))
    have c2 := c.oI o2
    have o3 : onlyI isFM h (sI (sI g 20 80 (k + 1) (r k)) 20 81 (k + 1) (s k)) := o2.tr (onlyI_sI _ _ (fm81 _))
    have sk : hI g 20 81 (Int32.toNatClampNeg (nI k)) = s k := by rw [ck]; exact (lo k (by omega)).2
    have rk : hI g 20 80 (Int32.toNatClampNeg (nI k)) = r k := by rw [ck]; exact (lo k (by omega)).1
    have c2' : MSh (sI g 20 80 (Int32.toNatClampNeg (nI (k + 1))) (r k)) := by rw [ck1]; exact c2
    have st : fX12_asks_c58 45 v1 t x (nI (k + 1)) g = (if x ≤ s k then mr (fX12_asks_b114 45 v1 t x (nI (k + 1)) g) else some (.inl (nI k, sI (sI g 20 80 (k + 1) (r k)) 20 81 (k + 1) (s k)))) := by
      unfold fX12_asks_c58
      rw [if_neg (show ¬ nI (k + 1) ≤ (0 : Int32) from show ¬ nI (k + 1) ≤ nI 0 by rw [nI_leI (by omega) (by decide)]; omega), gd_t (k_45 cg), r12_45_50 cg, gs_t, nI_pred, gd_t i37, sk, r12_45_49 cg, gs_t, gd_t i36, gd_t j36, lt_t, rk, r12_45_50 c2', gs_t, gd_t ⟨k_81 c2', by rw [n_81 c2']; exact inbI (by omega) (by decide)⟩, gd_t (by rw [n_81 c2']; exact inbI (by omega) (by decide)), lt_t, ck1, show hI (sI g 20 80 (k + 1) (r k)) 20 81 (Int32.toNatClampNeg (nI k)) = s k by rw [hI_sI, if_neg (by simp)]; exact sk, pk_m1]
    rw [ip]
    unfold fX12_asks_l58 at ih ⊢
    by_cases z : x ≤ s k
    · rw [if_pos z] at st
      rw [if_pos z]
      obtain ⟨h', f1, f2⟩ := stop (k + 1) g hk og lo hi
      refine ⟨h', wh_done ?_, f2⟩
      show fX12_asks_c58 45 v1 t x (nI (k + 1)) g = _
      rw [st, f1, mr_t]
    · rw [if_neg z] at st
      rw [if_neg z]
      obtain ⟨h', f1, f2, f3, f4, f5⟩ := ih (sI (sI g 20 80 (k + 1) (r k)) 20 81 (k + 1) (s k)) (by omega) o3 (fun i hi' => by
        obtain ⟨q1, q2, -⟩ := two_rd g (A := 80) (B := 81) (by decide) (k + 1) (r k) (s k) i
        have d : ¬ i = k + 1 := by omega
        rw [q1, q2, if_neg d, if_neg d]
        exact lo i (by omega)) (fun i h1 h2 => by
        obtain ⟨q1, q2, -⟩ := two_rd g (A := 80) (B := 81) (by decide) (k + 1) (r k) (s k) i
        rw [q1, q2]
        by_cases d : i = k + 1
        · rw [if_pos d, if_pos d, d]
          exact ⟨rfl, rfl⟩
        · rw [if_neg d, if_neg d]
          exact hi i (by omega) h2)
      refine ⟨h', wh_step (t := (nI k, sI (sI g 20 80 (k + 1) (r k)) 20 81 (k + 1) (s k))) ?_ f1, f2, f3.trans (by rw [c20 _ _ _ _ (by decide), c20 _ _ _ _ (by decide)]), f4, fun i => ?_⟩
      · show fX12_asks_c58 45 v1 t x (nI (k + 1)) g = _
        exact st
      · rw [f5]
        exact (two_rd g (A := 80) (B := 81) (by decide) (k + 1) (r k) (s k) i).2.2 79 (by decide) (by decide)
