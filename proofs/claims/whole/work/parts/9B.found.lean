/-! CALLS THAT ONLY ASK, of what was found, of events, of changes -/
/-- what was found at last: n texts, numbers f, by rank r with scores s -/
def FDn (n : Nat) (f r s : Nat → Int32) (h : PH) : Prop := n ≤ 100 ∧ hI h 2 34 3 = nI n ∧ hI h 12 45 51 = nI n ∧ ∀ i, i < n → hI h 20 35 i = f i ∧ hI h 20 79 i = f i ∧ hI h 20 36 i = r i ∧ hI h 20 80 i = r i ∧ hI h 20 37 i = s i ∧ hI h 20 81 i = s i
/-- the least text by which two queries differ -/
def DFn (n : Option Nat) (f : Nat → Int32) (h : PH) : Prop := (∀ k, n = some k → k ≤ 10) ∧ hI h 0 38 4 = optI n ∧ hI h 12 45 59 = optI n ∧ ∀ k, n = some k → ∀ i, i < k → hI h 20 42 i = f i ∧ hI h 20 86 i = f i
theorem FDn.scr {n : Nat} {f r s : Nat → Int32} {h h' : PH} (T : FDn n f r s h) (q : scr h h') : FDn n f r s h' := ⟨T.1, (q.1 2 34 3 rfl).trans T.2.1, (q.1 12 45 51 rfl).trans T.2.2.1, fun i hi => by
  rw [q.1 20 35 i rfl, q.1 20 79 i rfl, q.1 20 36 i rfl, q.1 20 80 i rfl, q.1 20 37 i rfl, q.1 20 81 i rfl]
  exact T.2.2.2 i hi⟩
theorem DFn.scr {n : Option Nat} {f : Nat → Int32} {h h' : PH} (T : DFn n f h) (q : scr h h') : DFn n f h' := ⟨T.1, (q.1 0 38 4 rfl).trans T.2.1, (q.1 12 45 59 rfl).trans T.2.2.1, fun k hk i hi => by
  rw [q.1 20 42 i rfl, q.1 20 86 i rfl]
  exact T.2.2.2 k hk i hi⟩
theorem X12_foundAt_n {h : PH} (m : MSh h) {n : Nat} (hn : n ≤ 100) (e : hI h 12 45 51 = nI n) {x : Int32} (hx : x < 0 ∨ ¬ x < nI n) : fX12_foundAt 45 x h = some (-1, sI h 12 45 0 0) := by
  unfold fX12_foundAt fX12_foundAt_b29
  rw [gd_t (k_45 m), lt_t, hI_sI, if_neg (by simp), e, inIdx_n (by omega) hx, bd_t, if_pos rfl]
theorem X12_foundAt_s {h : PH} (m : MSh h) {n : Nat} (hn : n ≤ 100) (e : hI h 12 45 51 = nI n) {i : Nat} (hi : i < n) : fX12_foundAt 45 (nI i) h = some (hI h 20 79 i, sI h 12 45 0 0) := by
  have m1 := m.scr (scr_thr h 0)
  unfold fX12_foundAt fX12_foundAt_b29
  rw [gd_t (k_45 m), lt_t, hI_sI, if_neg (by simp), e, inIdx_s (by omega) hi, bd_t, if_neg (by decide), r12_45_48 m1, gs_t, gd_t ⟨k_79 m1, by rw [n_79 m1]; exact inbI (by omega) (by decide)⟩, nI_clamp (by omega), hI_sI, if_neg (by simp)]
theorem X12_rankAt_n {h : PH} (m : MSh h) {n : Nat} (hn : n ≤ 100) (e : hI h 12 45 51 = nI n) {x : Int32} (hx : x < 0 ∨ ¬ x < nI n) : fX12_rankAt 45 x h = some (-1, sI h 12 45 0 0) := by
  unfold fX12_rankAt fX12_rankAt_b29
  rw [gd_t (k_45 m), lt_t, hI_sI, if_neg (by simp), e, inIdx_n (by omega) hx, bd_t, if_pos rfl]
theorem X12_rankAt_s {h : PH} (m : MSh h) {n : Nat} (hn : n ≤ 100) (e : hI h 12 45 51 = nI n) {i : Nat} (hi : i < n) : fX12_rankAt 45 (nI i) h = some (hI h 20 80 i, sI h 12 45 0 0) := by
  have m1 := m.scr (scr_thr h 0)
  unfold fX12_rankAt fX12_rankAt_b29
  rw [gd_t (k_45 m), lt_t, hI_sI, if_neg (by simp), e, inIdx_s (by omega) hi, bd_t, if_neg (by decide), r12_45_49 m1, gs_t, gd_t ⟨k_80 m1, by rw [n_80 m1]; exact inbI (by omega) (by decide)⟩, nI_clamp (by omega), hI_sI, if_neg (by simp)]
theorem X12_scoreAt_n {h : PH} (m : MSh h) {n : Nat} (hn : n ≤ 100) (e : hI h 12 45 51 = nI n) {x : Int32} (hx : x < 0 ∨ ¬ x < nI n) : fX12_scoreAt 45 x h = some (-1, sI h 12 45 0 0) := by
  unfold fX12_scoreAt fX12_scoreAt_b29
  rw [gd_t (k_45 m), lt_t, hI_sI, if_neg (by simp), e, inIdx_n (by omega) hx, bd_t, if_pos rfl]
theorem X12_scoreAt_s {h : PH} (m : MSh h) {n : Nat} (hn : n ≤ 100) (e : hI h 12 45 51 = nI n) {i : Nat} (hi : i < n) : fX12_scoreAt 45 (nI i) h = some (hI h 20 81 i, sI h 12 45 0 0) := by
  have m1 := m.scr (scr_thr h 0)
  unfold fX12_scoreAt fX12_scoreAt_b29
  rw [gd_t (k_45 m), lt_t, hI_sI, if_neg (by simp), e, inIdx_s (by omega) hi, bd_t, if_neg (by decide), r12_45_50 m1, gs_t, gd_t ⟨k_81 m1, by rw [n_81 m1]; exact inbI (by omega) (by decide)⟩, nI_clamp (by omega), hI_sI, if_neg (by simp)]
theorem ls_foundAt {h : PH} {P : PH → Prop} {n : Nat} {f r s : Nat → Int32} (c : CSh h) (m : MSh h) (T : FDn n f r s h) (a1 a2 a3 a4 a5 : Int32) (hP : ∀ h', scr h h' → P h') : LS_35 10 45 87 88 a1 a2 a3 a4 a5 h P := by
  obtain ⟨t0, t1, t2, t3⟩ := T
  rcases idx_or (n := n) (by omega) a1 with hx | ⟨i, hi, rfl⟩
  · refine ⟨-1, ?_, k_10 c, (-1, sI h 12 45 0 0), k_45 m, X12_foundAt_n m t0 t2 hx, rfl, hP _ (scr_thr h 0)⟩
    unfold fX11_foundAt fX2_numberAt fX2_numberAt_b12 fX2_numberAt_b22
    rw [gd_t (k_10 c), r11_10_8 c, gs_t, gd_t (k_34 c), gd_t (k_34 c), t1]
    by_cases h0 : a1 < 0
    · rw [if_pos h0, bd_t]
    · rw [if_neg h0, if_neg (hx.resolve_left h0), bd_t]
  · obtain ⟨e1, e2, e3, e4, e5, e6⟩ := t3 i hi
    refine ⟨f i, ?_, k_10 c, (f i, sI h 12 45 0 0), k_45 m, by rw [X12_foundAt_s m t0 t2 hi, e2], rfl, hP _ (scr_thr h 0)⟩
    unfold fX11_foundAt fX2_numberAt fX2_numberAt_b22
    rw [gd_t (k_10 c), r11_10_8 c, gs_t, gd_t (k_34 c), if_neg (nI_pos (by omega)), gd_t (k_34 c), t1, if_pos (nI_lt hi (by omega)), r2_34_0 c, gs_t, gd_t ⟨k_35 c, by rw [n_35 c]; exact inbI (by omega) (by decide)⟩, nI_clamp (by omega), e1, bd_t]
theorem ls_rankAt {h : PH} {P : PH → Prop} {n : Nat} {f r s : Nat → Int32} (c : CSh h) (m : MSh h) (T : FDn n f r s h) (a1 a2 a3 a4 a5 : Int32) (hP : ∀ h', scr h h' → P h') : LS_36 10 45 87 88 a1 a2 a3 a4 a5 h P := by
  obtain ⟨t0, t1, t2, t3⟩ := T
  rcases idx_or (n := n) (by omega) a1 with hx | ⟨i, hi, rfl⟩
  · refine ⟨-1, ?_, k_10 c, (-1, sI h 12 45 0 0), k_45 m, X12_rankAt_n m t0 t2 hx, rfl, hP _ (scr_thr h 0)⟩
    unfold fX11_rankAt fX2_rankedAt fX2_rankedAt_b12 fX2_rankedAt_b22
    rw [gd_t (k_10 c), r11_10_8 c, gs_t, gd_t (k_34 c), gd_t (k_34 c), t1]
    by_cases h0 : a1 < 0
    · rw [if_pos h0, bd_t]
    · rw [if_neg h0, if_neg (hx.resolve_left h0), bd_t]
  · obtain ⟨e1, e2, e3, e4, e5, e6⟩ := t3 i hi
    refine ⟨r i, ?_, k_10 c, (r i, sI h 12 45 0 0), k_45 m, by rw [X12_rankAt_s m t0 t2 hi, e4], rfl, hP _ (scr_thr h 0)⟩
    unfold fX11_rankAt fX2_rankedAt fX2_rankedAt_b22
    rw [gd_t (k_10 c), r11_10_8 c, gs_t, gd_t (k_34 c), if_neg (nI_pos (by omega)), gd_t (k_34 c), t1, if_pos (nI_lt hi (by omega)), r2_34_1 c, gs_t, gd_t ⟨k_36 c, by rw [n_36 c]; exact inbI (by omega) (by decide)⟩, nI_clamp (by omega), e3, bd_t]
theorem ls_scoreAt {h : PH} {P : PH → Prop} {n : Nat} {f r s : Nat → Int32} (c : CSh h) (m : MSh h) (T : FDn n f r s h) (a1 a2 a3 a4 a5 : Int32) (hP : ∀ h', scr h h' → P h') : LS_37 10 45 87 88 a1 a2 a3 a4 a5 h P := by
  obtain ⟨t0, t1, t2, t3⟩ := T
  rcases idx_or (n := n) (by omega) a1 with hx | ⟨i, hi, rfl⟩
  · refine ⟨-1, ?_, k_10 c, (-1, sI h 12 45 0 0), k_45 m, X12_scoreAt_n m t0 t2 hx, rfl, hP _ (scr_thr h 0)⟩
    unfold fX11_scoreAt fX2_scoreOf fX2_scoreOf_b12 fX2_scoreOf_b22
    rw [gd_t (k_10 c), r11_10_8 c, gs_t, gd_t (k_34 c), gd_t (k_34 c), t1]
    by_cases h0 : a1 < 0
    · rw [if_pos h0, bd_t]
    · rw [if_neg h0, if_neg (hx.resolve_left h0), bd_t]
  · obtain ⟨e1, e2, e3, e4, e5, e6⟩ := t3 i hi
    refine ⟨s i, ?_, k_10 c, (s i, sI h 12 45 0 0), k_45 m, by rw [X12_scoreAt_s m t0 t2 hi, e6], rfl, hP _ (scr_thr h 0)⟩
    unfold fX11_scoreAt fX2_scoreOf fX2_scoreOf_b22
    rw [gd_t (k_10 c), r11_10_8 c, gs_t, gd_t (k_34 c), if_neg (nI_pos (by omega)), gd_t (k_34 c), t1, if_pos (nI_lt hi (by omega)), r2_34_2 c, gs_t, gd_t ⟨k_37 c, by rw [n_37 c]; exact inbI (by omega) (by decide)⟩, nI_clamp (by omega), e5, bd_t]
/-- an index against a number that may be -1 -/
theorem idx_orO {n : Option Nat} (hn : ∀ k, n = some k → k ≤ 10) (x : Int32) : ((x < 0 ∨ ¬ x < optI n) ∧ fX12_in x 0 (optI n - 1) = some 0) ∨ ∃ k i, n = some k ∧ i < k ∧ x = nI i := by
  cases n with
  | none =>
    left
    have h1 : x < 0 ∨ ¬ x < -1 := by
      by_cases h0 : x < 0
      · exact Or.inl h0
      · right
        intro q
        exact h0 (Int32.lt_of_lt_of_le q (by decide))
    refine ⟨h1, ?_⟩
    rw [in_eq]
    show some (bI (decide (0 ≤ x) && decide (x ≤ -1 - 1))) = some (bI false)
    congr 2
    by_cases h0 : x < 0
    · rw [decide_eq_false (Int32.not_le.mpr h0), Bool.false_and]
    · have : ¬ x ≤ -1 - 1 := fun q => h0 (Int32.lt_of_le_of_lt q (by decide))
      rw [decide_eq_false this, Bool.and_false]
  | some k =>
    have hk := hn k rfl
    rcases idx_or (n := k) (by omega) x with hx | ⟨i, hi, rfl⟩
    · left
      exact ⟨hx, inIdx_n (by omega) hx⟩
    · right
      exact ⟨k, i, rfl, hi, rfl⟩
theorem ls_differAt {h : PH} {P : PH → Prop} {n : Option Nat} {f : Nat → Int32} (c : CSh h) (m : MSh h) (T : DFn n f h) (a1 a2 a3 a4 a5 : Int32) (hP : ∀ h', scr h h' → P h') : LS_48 10 45 87 88 a1 a2 a3 a4 a5 h P := by
  obtain ⟨t0, t1, t2, t3⟩ := T
  have m1 := m.scr (scr_thr h 0)
  rcases idx_orO t0 a1 with ⟨hx, hin⟩ | ⟨k, i, rfl, hi, rfl⟩
  · refine ⟨-1, ?_, k_10 c, (-1, sI h 12 45 0 0), k_45 m, ?_, rfl, hP _ (scr_thr h 0)⟩
    · unfold fX11_differAt fX0_leastAt fX0_leastAt_b12 fX0_leastAt_b22
      rw [gd_t (k_10 c), r11_10_9 c, gs_t, gd_t (k_38 c), gd_t (k_38 c), t1]
      by_cases h0 : a1 < 0
      · rw [if_pos h0, bd_t]
      · rw [if_neg h0, if_neg (hx.resolve_left h0), bd_t]
    · unfold fX12_differAt fX12_differAt_b29
      rw [gd_t (k_45 m), lt_t, hI_sI, if_neg (by simp), t2, hin, bd_t, if_pos rfl]
  · have h10 := t0 k rfl
    obtain ⟨e1, e2⟩ := t3 k rfl i hi
    refine ⟨f i, ?_, k_10 c, (f i, sI h 12 45 0 0), k_45 m, ?_, rfl, hP _ (scr_thr h 0)⟩
    · unfold fX11_differAt fX0_leastAt fX0_leastAt_b22
      rw [gd_t (k_10 c), r11_10_9 c, gs_t, gd_t (k_38 c), if_neg (nI_pos (by omega)), gd_t (k_38 c), t1, if_pos (show nI i < optI (some k) from nI_lt hi (by omega)), r0_38_3 c, gs_t, gd_t ⟨k_42 c, by rw [n_42 c]; exact inbI (by omega) (by decide)⟩, nI_clamp (by omega), e1, bd_t]
    · unfold fX12_differAt fX12_differAt_b29
      rw [gd_t (k_45 m), lt_t, hI_sI, if_neg (by simp), t2, show optI (some k) = nI k from rfl, inIdx_s (by omega) hi, bd_t, if_neg (by decide), r12_45_58 m1, gs_t, gd_t ⟨k_86 m1, by rw [n_86 m1]; exact inbI (by omega) (by decide)⟩, nI_clamp (by omega), hI_sI, if_neg (by simp), e2]
