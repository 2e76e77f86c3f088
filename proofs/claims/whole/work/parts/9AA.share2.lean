def shV (tx : TX) (w : Nat) : UInt32 := if cnt (fun t => (tx t).isSome) 100 = 0 then fcn 0 else FP.fdiv (FP.i2f (nI (cnt (fun t => hasT tx t w) 100))) (FP.i2f (nI (cnt (fun t => (tx t).isSome) 100)))
theorem shV_ok (tx : TX) (w : Nat) : okQ (shV tx w) = true := by
  unfold shV
  split
  · exact okQ_0
  · rename_i z
    have h1 := cnt_le (fun t => (tx t).isSome) 100
    have h2 := cnt_le (fun t => hasT tx t w) 100
    exact (okQ_all _ (by omega) _ (by omega)).resolve_left z
theorem okQ_1 {x : UInt32} (h : okQ x = true) : n32 x ∧ n64 (FP.f2d x) ∧ Op.cmpValue (FP.dcmp (FP.f2d x) (FP.f2d x)) .l = 0 := by
  unfold okQ at h
  rw [Bool.and_eq_true, Bool.and_eq_true, decide_eq_true_eq, decide_eq_true_eq, decide_eq_true_eq] at h
  exact h
theorem X11_textsWith_s {tx : TX} {ks : List Nat} {e : Nat} {wa wb : Nat → Nat} {h : PH} (c : CSh h) (o : okX tx) (X : IX tx ks e wa wb h) {w : Nat} (hw : vword w = true) : fX11_textsWith 10 (nI w) h = some (.inl (nI (cnt (fun t => hasT tx t w) 100), h)) := by
  unfold fX11_textsWith fX11_textsWith_b0 fX11_textsWith_b4 fX11_textsWith_b28
  rw [demandWord_s (vI_nI hw), bx_l, gd_t (k_10 c), r11_10_3 c, gs_t, gd_t (k_16 c), find_eq c X hw, bd_t]
  by_cases q : w ∈ ks
  · have W := ix_word X q
    rw [if_pos q, mq_st, gd_t W.2.2.1, W.2.2.2.2.2.1, gs_t, gd_t W.2.2.2.2.2.2.1, X9_size_eq W.2.2.2.2.2.2.1 W.2.2.2.2.2.2.2 (fun i hi => hasT_100 o hi w), bd_t]
  · rw [if_neg q, mq_nt, cnt_none (p := fun t => hasT tx t w) 100 (fun i _ => hasT_no o X.1 q i)]
    rfl
theorem ls_share {h : PH} {P : PH → Prop} {tx : TX} {ks : List Nat} {e : Nat} {wa wb : Nat → Nat} (c : CSh h) (m : MSh h) (o : okX tx) (T1 : CT tx h) (T2 : MT tx h) (X : IX tx ks e wa wb h) (a1 a2 a3 a4 a5 : Int32) (hP : ∀ h', scr h h' → P h') : LS_53 10 45 87 88 a1 a2 a3 a4 a5 h P := by
  rcases word_or a1 with e | ⟨w, hw, rfl, e⟩
  · have f : fX11_share 10 a1 h = some (.inr (1, h)) := by
      unfold fX11_share fX11_share_b0 fX11_textsWith fX11_textsWith_b0
      rw [gd_t (k_10 c), demandWord_n e, bx_r, bx_r]
    refine ⟨_, f, k_10 c, (fun z hz => by cases hz), (fun z hz => by cases hz; rfl), (fun z hz => by cases hz), ?_, ?_, ?_⟩
    · show hX h + 1 - hX h ≤ 1150; omega
    · show hV h + 6 - hV h ≤ 14000; omega
    · rintro v u (⟨z, hz, -⟩ | ⟨z, n, hz, hn, rfl, hc⟩)
      · cases hz
      · cases hz
        have su := scr_bump h hn
        have mu := m.scr su
        have s2 : scr (hbump h n) (sI (sI (hbump h n) 12 45 0 0) 12 45 0 1) := (scr_thr _ 0).tr (scr_thr _ 1)
        refine ⟨1, (fcn 0, sI (sI (hbump h n) 12 45 0 0) 12 45 0 1), hc.2, k_45 mu, ?_, k_45 (mu.scr s2), (thrown_eq (mu.scr s2)).trans (congrArg some ((hI_sI _ _ _ _ _ _ _ _).trans (if_pos ⟨rfl, rfl, rfl⟩))), fun q => absurd q (by decide), hP _ (su.tr s2)⟩
        unfold fX12_share
        rw [gd_t (k_45 mu), lt_t, noWord_n (mu.scr (scr_thr _ 0)) (thr0 _) e, bd_t]
        exact if_neg (show ¬ (1 : Int32) = 0 by decide)
  · obtain ⟨q1, q2, q3⟩ := okQ_1 (shV_ok tx w)
    have hc := cnt_le (fun t => (tx t).isSome) 100
    have gq : ¬ cnt (fun t => (tx t).isSome) 100 = 0 → shV tx w = FP.fdiv (FP.i2f (nI (cnt (fun t => hasT tx t w) 100))) (FP.i2f (nI (cnt (fun t => (tx t).isSome) 100))) := fun z => by
      unfold shV
      rw [if_neg z]
    have g0 : cnt (fun t => (tx t).isSome) 100 = 0 → shV tx w = fcn 0 := fun z => by
      unfold shV
      rw [if_pos z]
    have f : fX11_share 10 (nI w) h = some (.inl (shV tx w, h)) := by
      unfold fX11_share fX11_share_b0 fX11_share_b5 fX11_share_b24
      rw [gd_t (k_10 c), X11_textsWith_s c o X hw, bx_l]
      show gd (hK h 10 = 11) (bd (fX11_texts 10 h) _) = _
      rw [gd_t (k_10 c), X11_texts_eq c T1, bd_t]
      by_cases z : cnt (fun t => (tx t).isSome) 100 = 0
      · rw [if_neg (fun q => q ((nI0 (by omega)).mpr z)), g0 z]
      · rw [if_pos (fun q => z ((nI0 (by omega)).mp q)), ← gq z, gd_t q1]
    refine ⟨_, f, k_10 c, (fun z hz => by cases hz; exact ⟨k_88 c, by rw [n_88 c]; decide⟩), (fun z hz => by cases hz), (fun z hz => by cases hz; exact q2), ?_, ?_, ?_⟩
    · show hX h - hX h ≤ 1150; omega
    · show hV h - hV h ≤ 14000; omega
    · rintro v u (⟨z, hz, hv, rfl⟩ | ⟨z, n, hz, -⟩)
      · cases hz
        have su := scr_outD h 88 (Int32.toNatClampNeg 0) (FP.f2d (shV tx w))
        have s1 := scr_thr (sD h 88 (Int32.toNatClampNeg 0) (FP.f2d (shV tx w))) 0
        have mu := m.scr su
        have m1 := mu.scr s1
        have t1 := (T2.scr su).scr s1
        have s2 := su.tr s1
        refine ⟨0, (shV tx w, sI (sD h 88 (Int32.toNatClampNeg 0) (FP.f2d (shV tx w))) 12 45 0 0), hv, k_45 mu, ?_, k_45 m1, (thrown_eq m1).trans (congrArg some (thr0 _)), fun _ => ⟨k_88 (c.scr s2), by rw [n_88 (c.scr s2)]; decide, ?_, q2, q3⟩, hP _ s2⟩
        · unfold fX12_share fX12_share_b38
          rw [gd_t (k_45 mu), lt_t, noWord_s m1 (thr0 _) e, bd_t]
          generalize sI (sD h 88 (Int32.toNatClampNeg 0) (FP.f2d (shV tx w))) 12 45 0 0 = g at m1 t1 ⊢
          show (if (0 : Int32) = 0 then gd (hK g 45 = 12) (bd (fX12_countTexts 45 g) (fun z5 => if ¬ z5 = 0 then bd (fX12_manyWith 45 (nI w) g) (fun z6 => bd (fX12_countTexts 45 g) (fun z7 => gd (n32 (FP.fdiv (FP.i2f z6) (FP.i2f z7))) (some (FP.fdiv (FP.i2f z6) (FP.i2f z7), g)))) else some (fcn 0, g))) else _) = _
          rw [if_pos rfl, gd_t (k_45 m1), countTexts_eq m1 t1, bd_t]
          by_cases z : cnt (fun t => (tx t).isSome) 100 = 0
          · rw [if_neg (fun q => q ((nI0 (by omega)).mpr z)), g0 z]
          · rw [if_pos (fun q => z ((nI0 (by omega)).mp q)), manyWith_eq m1 t1 o (vw31 hw), bd_t, bd_t, ← gq z, gd_t q1]
        · show hD (sI (sD h 88 (Int32.toNatClampNeg 0) (FP.f2d (shV tx w))) 12 45 0 0) 88 (Int32.toNatClampNeg 0) = FP.f2d (shV tx w)
          rw [hD_sI, hD_sD, if_pos ⟨rfl, rfl⟩]
      · cases hz
