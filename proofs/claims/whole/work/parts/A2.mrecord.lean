/-! ONE EVENT MORE in the reference's row -/
theorem recordm_add {g : PH} (c : MSh g) {E : EVT} (V : EVM E g) (hn : E.1 < 100) (t : Int32) (p : Nat) (b : Bool) : ∃ h', fX12_tells_b131 45 t (nI p) (bI b) g = some (.inl (nI (p + 1), h')) ∧ EVM (addE E (nI p) t (bI b)) h' ∧ onlyI isEM g h' := by
  obtain ⟨n, q, f0, f1, f2⟩ := E
  obtain ⟨v4, v5⟩ := V
  have hn : n < 100 := hn
  have v4 : hI g 12 45 18 = nI n := v4
  have ck : Int32.toNatClampNeg (nI n) = n := nI_clamp (by omega)
  have o1 : onlyI isEM g (sI g 20 56 n (nI p)) := onlyI_sI _ _ (em56 _)
  have c1 := c.oI o1
  have o2 : onlyI isEM g (sI (sI g 20 56 n (nI p)) 20 57 n t) := o1.tr (onlyI_sI _ _ (em57 _))
  have c2 := c.oI o2
  have o3 : onlyI isEM g (sI (sI (sI g 20 56 n (nI p)) 20 57 n t) 20 58 n (bI b)) := o2.tr (onlyI_sI _ _ (em58 _))
  have c3 := c.oI o3
  have e1 : hI (sI g 20 56 n (nI p)) 12 45 18 = nI n := by rw [c20 _ _ _ _ (by decide)]; exact v4
  have e2 : hI (sI (sI g 20 56 n (nI p)) 20 57 n t) 12 45 18 = nI n := by rw [c20 _ _ _ _ (by decide)]; exact e1
  have e3 : hI (sI (sI (sI g 20 56 n (nI p)) 20 57 n t) 20 58 n (bI b)) 12 45 18 = nI n := by rw [c20 _ _ _ _ (by decide)]; exact e2
  refine ⟨sI (sI (sI (sI g 20 56 n (nI p)) 20 57 n t) 20 58 n (bI b)) 12 45 18 (nI (n + 1)), ?_, ⟨?_, fun i hi => ?_⟩, o3.tr (onlyI_sI _ _ rfl)⟩
  · unfold fX12_tells_b131
    rw [gd_t (k_45 c), r12_45_15 c, gs_t, v4, gd_t ⟨k_56 c, by rw [n_56 c]; exact inbI hn (by decide)⟩, lt_t]
    simp only [ck]
    rw [r12_45_16 c1, gs_t, e1, gd_t ⟨k_57 c1, by rw [n_57 c1]; exact inbI hn (by decide)⟩, lt_t, ck, r12_45_17 c2, e2, bIf b (fun z => fX12_tells_b168 45 t (nI p) (some 58) (nI n) z _)]
    unfold fX12_tells_b168 fX12_tells_b179
    rw [gs_t, gd_t ⟨k_58 c2, by rw [n_58 c2]; exact inbI hn (by decide)⟩, lt_t]
    simp only [ck]
    rw [gd_t (k_45 c3), lt_t, e3, nI_1, nI_1]
  · rw [hI_sI, if_pos ⟨rfl, rfl, rfl⟩]
    rfl
  · have hi : i < n + 1 := hi
    rw [n20 (c := 12) _ _ (by decide), n20 (c := 12) _ _ (by decide), n20 (c := 12) _ _ (by decide)]
    show hI (sI (sI (sI g 20 56 n (nI p)) 20 57 n t) 20 58 n (bI b)) 20 56 i = (if i = n then nI p else f0 i) ∧ hI (sI (sI (sI g 20 56 n (nI p)) 20 57 n t) 20 58 n (bI b)) 20 57 i = (if i = n then t else f1 i) ∧ hI (sI (sI (sI g 20 56 n (nI p)) 20 57 n t) 20 58 n (bI b)) 20 58 i = (if i = n then bI b else f2 i)
    rw [rdN _ _ (by decide), rdN _ _ (by decide), rdA, rdN _ _ (by decide), rdA, rdN _ _ (by decide), rdA, rdN _ _ (by decide), rdN _ _ (by decide)]
    by_cases d : i = n
    · subst d
      rw [if_pos rfl, if_pos rfl, if_pos rfl, if_pos rfl, if_pos rfl, if_pos rfl]
      exact ⟨rfl, rfl, rfl⟩
    · rw [if_neg d, if_neg d, if_neg d, if_neg d, if_neg d, if_neg d]
      exact v5 i (by show i < n; omega)
theorem recordm_sh {h : PH} (m : MSh h) {E : EVT} (t : Int32) (p : Nat) (b : Bool) : ∀ f k : Nat, ∀ g : PH, k + f = 99 → onlyI isEM h g → hI g 12 45 18 = nI 99 → (∀ i, i < 100 → hI g 20 56 i = E.2.2.1 (if i < k then i + 1 else i) ∧ hI g 20 57 i = E.2.2.2.1 (if i < k then i + 1 else i) ∧ hI g 20 58 i = E.2.2.2.2 (if i < k then i + 1 else i)) → ∃ h', fX12_tells_l68 45 t (nI p) (bI b) (nI k) g = some (.inl (nI (p + 1), h')) ∧ EVM (addE (dropE E) (nI p) t (bI b)) h' ∧ onlyI isEM h h' := by
  intro f
  induction f with
  | zero =>
    intro k g hk og e4 R
    have hk : k = 99 := by omega
    subst hk
    have mg := m.oI og
    obtain ⟨h', f1, f2, f3⟩ := recordm_add mg (E := dropE E) ⟨e4, fun i hi => by
      have hi : i < 99 := hi
      have := R i (by omega)
      rw [if_pos hi] at this
      exact this⟩ (by show 99 < 100; decide) t p b
    refine ⟨h', wh_done ?_, f2, og.tr f3⟩
    show fX12_tells_c68 45 t (nI p) (bI b) (nI 99) g = _
    unfold fX12_tells_c68
    rw [gd_t (k_45 mg), e4, if_pos (Int32.le_refl _), f1, mr_t]
  | succ f ih =>
    intro k g hk og e4 R
    have mg := m.oI og
    have hk1 : k < 99 := by omega
    have ck : Int32.toNatClampNeg (nI k) = k := nI_clamp (by omega)
    have ck1 : Int32.toNatClampNeg (nI (k + 1)) = k + 1 := nI_clamp (by omega)
    have o1 : onlyI isEM g (sI g 20 56 k (hI g 20 56 (k + 1))) := onlyI_sI _ _ (em56 _)
    have m1 := mg.oI o1
    have o2 : onlyI isEM g (sI (sI g 20 56 k (hI g 20 56 (k + 1))) 20 57 k (hI g 20 57 (k + 1))) := o1.tr (onlyI_sI _ _ (em57 _))
    have m2 := mg.oI o2
    have o3 : onlyI isEM g (sI (sI (sI g 20 56 k (hI g 20 56 (k + 1))) 20 57 k (hI g 20 57 (k + 1))) 20 58 k (hI g 20 58 (k + 1))) := o2.tr (onlyI_sI _ _ (em58 _))
    obtain ⟨h', f1, f2, f3⟩ := ih (k + 1) _ (by omega) (og.tr o3) (by rw [c20 _ _ _ _ (by decide), c20 _ _ _ _ (by decide), c20 _ _ _ _ (by decide)]; exact e4) (fun i hi => by
      have a1 := R i hi
      have a2 := R (k + 1) (by omega)
      rw [if_neg (show ¬ k + 1 < k by omega)] at a2
      rw [rdN _ _ (by decide), rdN _ _ (by decide), rdA, rdN _ _ (by decide), rdA, rdN _ _ (by decide), rdA, rdN _ _ (by decide), rdN _ _ (by decide)]
      by_cases d : i = k
      · subst d
        rw [if_pos rfl, if_pos rfl, if_pos rfl, if_pos (Nat.lt_succ_self _)]
        exact a2
      · rw [if_neg d, if_neg d, if_neg d]
        by_cases z : i < k
        · rw [if_pos z] at a1
          rw [if_pos (by omega)]
          exact a1
        · rw [if_neg z] at a1
          rw [if_neg (by omega)]
          exact a1)
    refine ⟨h', wh_step (t := (nI (k + 1), sI (sI (sI g 20 56 k (hI g 20 56 (k + 1))) 20 57 k (hI g 20 57 (k + 1))) 20 58 k (hI g 20 58 (k + 1)))) ?_ f1, f2, f3⟩
    show fX12_tells_c68 45 t (nI p) (bI b) (nI k) g = _
    unfold fX12_tells_c68
    rw [gd_t (k_45 mg), e4, if_neg (nI_ge hk1 (by decide)), r12_45_15 mg, gs_t, nI_1, gd_t ⟨k_56 mg, by rw [n_56 mg]; exact inbI (by omega) (by decide)⟩, gd_t (by rw [n_56 mg]; exact inbI (by omega) (by decide)), lt_t]
    simp only [ck, ck1]
    rw [r12_45_16 m1, gs_t, gd_t ⟨k_57 m1, by rw [n_57 m1]; exact inbI (by omega) (by decide)⟩, gd_t (by rw [n_57 m1]; exact inbI (by omega) (by decide)), lt_t, rdN _ _ (show (57 : Nat) ≠ 56 by decide), r12_45_17 m2, gs_t, gd_t ⟨k_58 m2, by rw [n_58 m2]; exact inbI (by omega) (by decide)⟩, gd_t (by rw [n_58 m2]; exact inbI (by omega) (by decide)), lt_t, rdN _ _ (show (58 : Nat) ≠ 57 by decide), rdN _ _ (show (58 : Nat) ≠ 56 by decide)]
theorem record_m {h : PH} (m : MSh h) {E : EVT} (V : EVM E h) (hn : E.1 ≤ 100) (t : Int32) {p : Nat} (hp : p < 6) {a b : Bool} (w : hI h 21 55 p = bI a) : ∃ h', fX12_tells_b32 45 t (nI p) (bI b) h = some (.inl (nI (p + 1), h')) ∧ EVM (if a = b then E else pushE E (nI p) t (bI b)) h' ∧ onlyI isEM h h' := by
  have ck : Int32.toNatClampNeg (nI p) = p := nI_clamp (by omega)
  have st : fX12_tells_b32 45 t (nI p) (bI b) h = (if a = b then some (.inl (nI (p + 1), h)) else if ¬ hI h 12 45 18 = (100 : Int32) then fX12_tells_b131 45 t (nI p) (bI b) h else fX12_tells_l68 45 t (nI p) (bI b) 0 (sI h 12 45 18 (hI h 12 45 18 - 1))) := by
    unfold fX12_tells_b32 fX12_tells_b179
    rw [gd_t (k_45 m), r12_45_13 m, gs_t, gd_t ⟨k_55 m, by rw [n_55 m]; exact inbI hp (by decide)⟩, ck, w, nI_1]
    cases a <;> cases b
    · rw [if_neg (fun z => z rfl), if_pos rfl]
    · rw [if_pos (show ¬ bI true = bI false by decide), if_neg (show ¬ (false = true) by decide)]
      rfl
    · rw [if_pos (show ¬ bI false = bI true by decide), if_neg (show ¬ (true = false) by decide)]
      rfl
    · rw [if_neg (fun z => z rfl), if_pos rfl]
  rw [st]
  by_cases d : a = b
  · rw [if_pos d, if_pos d]
    exact ⟨h, rfl, V, onlyI.rf _ _⟩
  · rw [if_neg d, if_neg d, V.1]
    unfold pushE
    by_cases z : E.1 = 100
    · rw [if_pos z, z, if_neg (fun y => y rfl)]
      have o1 : onlyI isEM h (sI h 12 45 18 (nI 99)) := onlyI_sI _ _ rfl
      obtain ⟨h', f1, f2, f3⟩ := recordm_sh (m.oI o1) (E := E) t p b 99 0 (sI h 12 45 18 (nI 99)) rfl (onlyI.rf _ _) (by rw [hI_sI, if_pos ⟨rfl, rfl, rfl⟩]) (fun i hi => by
        rw [n20 _ _ (by decide), n20 _ _ (by decide), n20 _ _ (by decide), if_neg (Nat.not_lt_zero _)]
        exact V.2 i (by omega))
      exact ⟨h', f1, f2, o1.tr f3⟩
    · rw [if_neg z, if_pos (show ¬ nI E.1 = 100 from fun y => z ((nI_eq (b := 100) (by omega) (by decide)).mp y))]
      exact recordm_add m V (by omega) t p b
