/-! CALLS THAT ONLY ASK, of the index: words, indexWord, firstWord, lastWord -/
theorem nI_nm1 {w : Nat} (h : w < 2 ^ 31) : ¬ nI w = -1 := fun e => by
  have e1 : (nI w).toInt = (-1 : Int32).toInt := congrArg Int32.toInt e
  rw [nI_toInt h] at e1
  have : (-1 : Int32).toInt = -1 := by decide
  omega
theorem finds_thr {u : PH} (m : MSh u) {tx : TX} (o : okX tx) (T : MT tx u) {ks : List Nat} (a : allW tx ks) : ∃ w, fX12_finds 45 (sI u 12 45 0 0) = some w ∧ KN ks w ∧ scr u w ∧ MSh w ∧ MT tx w ∧ hI w 12 45 0 = 0 ∧ hL w 23 87 0 = hL u 23 87 0 ∧ ks.length ≤ 4000 := by
  have s1 := scr_thr u 0
  obtain ⟨w, h1, h2, h3, h4⟩ := finds_eq (m.scr s1) o (T.scr s1) a
  have s2 : scr u w := s1.tr (h3.scr (fun _ _ _ => isKn_scr))
  exact ⟨w, h1, h2, s2, m.scr s2, T.scr s2, (h3.1 12 45 0 rfl).trans (thr0 u), by rw [h3.2.2.1]; rfl, h4⟩
theorem ls_words {h : PH} {P : PH → Prop} {tx : TX} {ks : List Nat} {e : Nat} {wa wb : Nat → Nat} (c : CSh h) (m : MSh h) (o : okX tx) (T2 : MT tx h) (X : IX tx ks e wa wb h) (a1 a2 a3 a4 a5 : Int32) (hP : ∀ h', scr h h' → P h') : LS_16 10 45 87 88 a1 a2 a3 a4 a5 h P := by
  obtain ⟨w, h1, h2, h3, h4, h5, h6, h7, h8⟩ := finds_thr m o T2 X.1
  refine ⟨nI ks.length, ?_, k_10 c, (nI ks.length, w), k_45 m, ?_, rfl, hP _ h3⟩
  · unfold fX11_words
    rw [gd_t (k_10 c), r11_10_3 c, gs_t, gd_t (k_16 c), X3_size_eq c X, bd_t]
  · unfold fX12_words
    rw [gd_t (k_45 m), lt_t, h1, bd_t, gd_t (k_45 h4), h2.1]
theorem inIdx_n {n : Nat} (hn : n < 2 ^ 31) {x : Int32} (hx : x < 0 ∨ ¬ x < nI n) : fX12_in x 0 (nI n - 1) = some 0 := by
  rw [in_eq]
  show some (bI _) = some (bI false)
  congr 2
  by_cases h0 : x < 0
  · rw [decide_eq_false (Int32.not_le.mpr h0), Bool.false_and]
  · have h3 : ¬ x < nI n := hx.resolve_left h0
    obtain ⟨j, hj, rfl⟩ := nI_of h0
    have h4 : n ≤ j := by
      apply Nat.le_of_not_lt
      intro q
      exact h3 (nI_lt q hn)
    have h5 : ¬ nI j ≤ nI n - 1 := by
      by_cases h6 : n = 0
      · rw [h6, show nI 0 - 1 = (-1 : Int32) from rfl]
        intro q
        exact absurd (Int32.lt_of_le_of_lt q (by decide : (-1 : Int32) < 0)) (nI_pos hj)
      · rw [show (1 : Int32) = nI 1 from rfl, pk_sub (by omega), nI_leI hj (by omega)]
        omega
    rw [decide_eq_false h5, Bool.and_false]
theorem inIdx_s {n : Nat} (hn : n < 2 ^ 31) {i : Nat} (hi : i < n) : fX12_in (nI i) 0 (nI n - 1) = some 1 := by
  rw [in_eq]
  show some (bI _) = some (bI true)
  have h5 : nI i ≤ nI n - 1 := by
    rw [show (1 : Int32) = nI 1 from rfl, pk_sub (by omega), nI_leI (by omega) (by omega)]
    omega
  rw [decide_eq_true h5, decide_eq_true (nI_pos' (by omega))]
  rfl
/-- an asking call that throws nothing, or one code, in the reference behind finds -/
theorem ls_indexWord {h : PH} {P : PH → Prop} {tx : TX} {ks : List Nat} {e : Nat} {wa wb : Nat → Nat} (c : CSh h) (m : MSh h) (o : okX tx) (T2 : MT tx h) (X : IX tx ks e wa wb h) (a1 a2 a3 a4 a5 : Int32) (hP : ∀ h', scr h h' → P h') : LS_17 10 45 87 88 a1 a2 a3 a4 a5 h P := by
  show LBody (fX11_indexWord 10 a1 h) (fX12_indexWord 45 a1) (fun c => c = 2) (fun c v => c = 2 ∧ v = some (.int 1)) h P
  have hb := X.2.1
  rcases idx_or (n := ks.length) (by omega) a1 with hx | ⟨i, hi, rfl⟩
  · refine lb_exc c m (e := 2) (code := 1) ?_ rfl (fun v hv => hv.2) (by decide) (fun u su => ?_) hP
    · unfold fX11_indexWord fX11_indexWord_b0
      rw [gd_t (k_10 c), r11_10_3 c, gs_t, gd_t (k_16 c), numberAt_n c X hx, bd_t, if_neg (fun q => q rfl)]
    · obtain ⟨w, h1, h2, h3, h4, h5, h6, h7, h8⟩ := finds_thr (m.scr su) o (T2.scr su) X.1
      refine ⟨(0, sI w 12 45 0 1), ?_, h3.tr (scr_thr _ 1), (hI_sI _ _ _ _ _ _ _ _).trans (if_pos ⟨rfl, rfl, rfl⟩)⟩
      unfold fX12_indexWord fX12_indexWord_b38
      rw [gd_t (k_45 (m.scr su)), lt_t, h1, bd_t, gd_t (k_45 h4), h2.1, inIdx_n (by omega) hx, bd_t, fails_f h4 h6 (by decide), bd_t]
      exact if_neg (show ¬ (1 : Int32) = 0 by decide)
  · have hv := X.1.1.2 _ (mem_getD hi)
    have ok : ∀ u, scr h u → ∃ w, fX12_indexWord 45 (nI i) u = some (nI (ks.getD i 0), w) ∧ scr u w ∧ hI w 12 45 0 = 0 ∧ hL w 23 87 0 = hL u 23 87 0 := fun u su => by
      obtain ⟨w, h1, h2, h3, h4, h5, h6, h7, h8⟩ := finds_thr (m.scr su) o (T2.scr su) X.1
      refine ⟨w, ?_, h3, h6, h7⟩
      unfold fX12_indexWord fX12_indexWord_b38
      rw [gd_t (k_45 (m.scr su)), lt_t, h1, bd_t, gd_t (k_45 h4), h2.1, inIdx_s (by omega) hi, bd_t, fails_t h4 h6, bd_t]
      show (if (0 : Int32) = 0 then gd (hK w 45 = 12) (gs (hR w 12 45 19) (fun a8 => gd (hK w a8 = 20 ∧ inb (nI i) (hN w a8)) (some (hI w 20 a8 (Int32.toNatClampNeg (nI i)), w)))) else _) = _
      rw [if_pos rfl, gd_t (k_45 h4), r12_45_19 h4, gs_t, gd_t ⟨k_59 h4, by rw [n_59 h4]; exact inbI (by omega) (by decide)⟩, h2.c h8 hi]
    refine lb_val c m (v0 := nI (ks.getD i 0)) ?_ ok hP
    unfold fX11_indexWord fX11_indexWord_b0
    rw [gd_t (k_10 c), r11_10_3 c, gs_t, gd_t (k_16 c), numberAt_s c X hi, bd_t, if_pos (nI_nm1 (vw31 hv))]
theorem ls_firstWord {h : PH} {P : PH → Prop} {tx : TX} {ks : List Nat} {e : Nat} {wa wb : Nat → Nat} (c : CSh h) (m : MSh h) (o : okX tx) (T2 : MT tx h) (X : IX tx ks e wa wb h) (a1 a2 a3 a4 a5 : Int32) (hP : ∀ h', scr h h' → P h') : LS_18 10 45 87 88 a1 a2 a3 a4 a5 h P := by
  show LBody (fX11_firstWord 10 h) (fX12_firstWord 45) (fun c => c = 3) (fun c v => c = 3 ∧ v = some (.int 1)) h P
  have hb := X.2.1
  by_cases hi : 0 < ks.length
  · have hv := X.1.1.2 _ (mem_getD hi)
    refine lb_val c m (v0 := nI (ks.getD 0 0)) ?_ (fun u su => ?_) hP
    · unfold fX11_firstWord fX11_firstWord_b0
      rw [gd_t (k_10 c), r11_10_3 c, gs_t, gd_t (k_16 c), show (0 : Int32) = nI 0 from rfl, numberAt_s c X hi, bd_t, if_pos (nI_nm1 (vw31 hv))]
    · obtain ⟨w, h1, h2, h3, h4, h5, h6, h7, h8⟩ := finds_thr (m.scr su) o (T2.scr su) X.1
      refine ⟨w, ?_, h3, h6, h7⟩
      unfold fX12_firstWord fX12_firstWord_b22 fX12_firstWord_b39
      rw [gd_t (k_45 (m.scr su)), lt_t, h1, bd_t, gd_t (k_45 h4), h2.1, if_neg (show ¬ nI ks.length ≤ (0 : Int32) from show ¬ nI ks.length ≤ nI 0 from nI_ge hi (by omega)), gs_t, gd_t (k_45 h4), fails_t h4 h6, bd_t]
      show (if (0 : Int32) = 0 then gd (hK w 45 = 12) (gs (hR w 12 45 19) (fun a8 => gd (hK w a8 = 20 ∧ inb (nI 0) (hN w a8)) (some (hI w 20 a8 (Int32.toNatClampNeg (nI 0)), w)))) else _) = _
      rw [if_pos rfl, gd_t (k_45 h4), r12_45_19 h4, gs_t, gd_t ⟨k_59 h4, by rw [n_59 h4]; exact inbI (by omega) (by decide)⟩, h2.c h8 hi]
  · refine lb_exc c m (e := 3) (code := 1) ?_ rfl (fun v hv => hv.2) (by decide) (fun u su => ?_) hP
    · unfold fX11_firstWord fX11_firstWord_b0
      rw [gd_t (k_10 c), r11_10_3 c, gs_t, gd_t (k_16 c), numberAt_n c X (x := 0) (Or.inr (by rw [show ks.length = 0 by omega]; decide)), bd_t, if_neg (fun q => q rfl)]
    · obtain ⟨w, h1, h2, h3, h4, h5, h6, h7, h8⟩ := finds_thr (m.scr su) o (T2.scr su) X.1
      refine ⟨(0, sI w 12 45 0 1), ?_, h3.tr (scr_thr _ 1), (hI_sI _ _ _ _ _ _ _ _).trans (if_pos ⟨rfl, rfl, rfl⟩)⟩
      unfold fX12_firstWord fX12_firstWord_b22 fX12_firstWord_b39
      rw [gd_t (k_45 (m.scr su)), lt_t, h1, bd_t, gd_t (k_45 h4), h2.1, if_pos (show nI ks.length ≤ 0 by rw [show ks.length = 0 by omega]; decide), gs_t, gd_t (k_45 h4), fails_f h4 h6 (by decide), bd_t]
      exact if_neg (show ¬ (1 : Int32) = 0 by decide)
theorem ls_lastWord {h : PH} {P : PH → Prop} {tx : TX} {ks : List Nat} {e : Nat} {wa wb : Nat → Nat} (c : CSh h) (m : MSh h) (o : okX tx) (T2 : MT tx h) (X : IX tx ks e wa wb h) (a1 a2 a3 a4 a5 : Int32) (hP : ∀ h', scr h h' → P h') : LS_19 10 45 87 88 a1 a2 a3 a4 a5 h P := by
  show LBody (fX11_lastWord 10 h) (fX12_lastWord 45) (fun c => c = 3) (fun c v => c = 3 ∧ v = some (.int 1)) h P
  have hb := X.2.1
  by_cases hi : 0 < ks.length
  · have hl : ks.length - 1 < ks.length := by omega
    have hs : nI ks.length - 1 = nI (ks.length - 1) := by rw [show (1 : Int32) = nI 1 from rfl, pk_sub (by omega)]
    have hv := X.1.1.2 _ (mem_getD hl)
    refine lb_val c m (v0 := nI (ks.getD (ks.length - 1) 0)) ?_ (fun u su => ?_) hP
    · unfold fX11_lastWord fX11_lastWord_b0
      rw [gd_t (k_10 c), r11_10_3 c, gs_t, gd_t (k_16 c), X3_size_eq c X, bd_t, hs, numberAt_s c X hl, bd_t, if_pos (nI_nm1 (vw31 hv))]
    · obtain ⟨w, h1, h2, h3, h4, h5, h6, h7, h8⟩ := finds_thr (m.scr su) o (T2.scr su) X.1
      refine ⟨w, ?_, h3, h6, h7⟩
      unfold fX12_lastWord fX12_lastWord_b22 fX12_lastWord_b44
      rw [gd_t (k_45 (m.scr su)), lt_t, h1, bd_t, gd_t (k_45 h4), h2.1, if_neg (show ¬ nI ks.length ≤ (0 : Int32) from show ¬ nI ks.length ≤ nI 0 from nI_ge hi (by omega)), gs_t, gd_t (k_45 h4), fails_t h4 h6, bd_t]
      show (if (0 : Int32) = 0 then gd (hK w 45 = 12) (gs (hR w 12 45 19) (fun a8 => gd (hK w a8 = 20 ∧ inb (hI w 12 45 20 - 1) (hN w a8)) (some (hI w 20 a8 (Int32.toNatClampNeg (hI w 12 45 20 - 1)), w)))) else _) = _
      rw [if_pos rfl, gd_t (k_45 h4), r12_45_19 h4, gs_t, h2.1, hs, gd_t ⟨k_59 h4, by rw [n_59 h4]; exact inbI (by omega) (by decide)⟩, h2.c h8 hl]
  · refine lb_exc c m (e := 3) (code := 1) ?_ rfl (fun v hv => hv.2) (by decide) (fun u su => ?_) hP
    · unfold fX11_lastWord fX11_lastWord_b0
      rw [gd_t (k_10 c), r11_10_3 c, gs_t, gd_t (k_16 c), X3_size_eq c X, bd_t, numberAt_n c X (x := nI ks.length - 1) (Or.inl (by rw [show ks.length = 0 by omega]; decide)), bd_t, if_neg (fun q => q rfl)]
    · obtain ⟨w, h1, h2, h3, h4, h5, h6, h7, h8⟩ := finds_thr (m.scr su) o (T2.scr su) X.1
      refine ⟨(0, sI w 12 45 0 1), ?_, h3.tr (scr_thr _ 1), (hI_sI _ _ _ _ _ _ _ _).trans (if_pos ⟨rfl, rfl, rfl⟩)⟩
      unfold fX12_lastWord fX12_lastWord_b22 fX12_lastWord_b44
      rw [gd_t (k_45 (m.scr su)), lt_t, h1, bd_t, gd_t (k_45 h4), h2.1, if_pos (show nI ks.length ≤ 0 by rw [show ks.length = 0 by omega]; decide), gs_t, gd_t (k_45 h4), fails_f h4 h6 (by decide), bd_t]
      exact if_neg (show ¬ (1 : Int32) = 0 by decide)
