theorem ls_neighbours {h : PH} {P : PH → Prop} {tx : TX} {ks : List Nat} {e : Nat} {wa wb : Nat → Nat} (c : CSh h) (m : MSh h) (o : okX tx) (T2 : MT tx h) (X : IX tx ks e wa wb h) (a1 a2 a3 a4 a5 : Int32) (hP : ∀ h', scr h h' → P h') : LS_31 10 45 87 88 a1 a2 a3 a4 a5 h P := by
  show LBody (fX11_neighbours 10 a1 h) (fX12_neighbours 45 a1) (fun c => c = 1) (fun c v => c = 1 ∧ v = some (.int 1)) h P
  refine lb_word c m (x := a1) rfl (fun v hv => hv.2) hP (fun e => ⟨?_, fun u mu => ?_⟩) (fun w hw ew e => ?_)
  · unfold fX11_neighbours fX11_neighbours_b0
    rw [demandWord_n e, bx_r]
  · unfold fX12_neighbours
    rw [gd_t (k_45 mu), lt_t, noWord_n (mu.scr (scr_thr u 0)) (thr0 u) e, bd_t]
    exact if_neg (show ¬ (1 : Int32) = 0 by decide)
  · subst ew
    refine lb_val c m (v0 := nI (ks.countP (nb w))) ?_ (fun u su => ?_) hP
    · unfold fX11_neighbours fX11_neighbours_b0 fX11_neighbours_b4
      rw [demandWord_s e, bx_l, gd_t (k_10 c), r11_10_3 c, gs_t, gd_t (k_16 c), cneigh_count c X hw, bd_t]
    · have mu := m.scr su
      have m1 := mu.scr (scr_thr u 0)
      obtain ⟨w0, h1, h2, h3, h4, h5, h6, h7, h8⟩ := finds_thr mu o (T2.scr su) X.1
      refine ⟨w0, ?_, h3, h6, h7⟩
      unfold fX12_neighbours
      rw [gd_t (k_45 mu), lt_t, noWord_s m1 (thr0 u) e, bd_t]
      show (if (0 : Int32) = 0 then gd (hK (sI u 12 45 0 0) 45 = 12) (bd (fX12_finds 45 (sI u 12 45 0 0)) (fun z5 => fX12_neighbours_l23 45 (nI w) 0 0 z5)) else _) = _
      rw [if_pos rfl, gd_t (k_45 m1), h1, bd_t, mneigh_st h4 X.1.1 h2 h8 hw]
theorem ls_neighbourAt {h : PH} {P : PH → Prop} {tx : TX} {ks : List Nat} {e : Nat} {wa wb : Nat → Nat} (c : CSh h) (m : MSh h) (o : okX tx) (T2 : MT tx h) (X : IX tx ks e wa wb h) (a1 a2 a3 a4 a5 : Int32) (hP : ∀ h', scr h h' → P h') : LS_32 10 45 87 88 a1 a2 a3 a4 a5 h P := by
  show LBody (fX11_neighbourAt 10 a1 a2 h) (fX12_neighbourAt 45 a1 a2) (fun c => c = 1) (fun c v => c = 1 ∧ v = some (.int 1)) h P
  refine lb_word c m (x := a1) rfl (fun v hv => hv.2) hP (fun e => ⟨?_, fun u mu => ?_⟩) (fun w hw ew e => ?_)
  · unfold fX11_neighbourAt fX11_neighbourAt_b0
    rw [demandWord_n e, bx_r]
  · unfold fX12_neighbourAt
    rw [gd_t (k_45 mu), lt_t, noWord_n (mu.scr (scr_thr u 0)) (thr0 u) e, bd_t]
    exact if_neg (show ¬ (1 : Int32) = 0 by decide)
  · subst ew
    refine lb_val c m (v0 := naV ks w a2) ?_ (fun u su => ?_) hP
    · unfold fX11_neighbourAt fX11_neighbourAt_b0 fX11_neighbourAt_b4
      rw [demandWord_s e, bx_l, gd_t (k_10 c), r11_10_3 c, gs_t, gd_t (k_16 c), cneigh_at c X hw, bd_t]
    · have mu := m.scr su
      have m1 := mu.scr (scr_thr u 0)
      obtain ⟨w0, h1, h2, h3, h4, h5, h6, h7, h8⟩ := finds_thr mu o (T2.scr su) X.1
      refine ⟨w0, ?_, h3, h6, h7⟩
      unfold fX12_neighbourAt
      rw [gd_t (k_45 mu), lt_t, noWord_s m1 (thr0 u) e, bd_t]
      show (if (0 : Int32) = 0 then gd (hK (sI u 12 45 0 0) 45 = 12) (bd (fX12_finds 45 (sI u 12 45 0 0)) (fun z5 => fX12_neighbourAt_l24 45 (nI w) a2 0 z5)) else _) = _
      rw [if_pos rfl, gd_t (k_45 m1), h1, bd_t, mneigh_at h4 X.1.1 h2 h8 hw]
/-! companion -/
def tg (tx : TX) (w v : Nat) : Nat := cnt (fun t => hasT tx t w && hasT tx t v) 100
/-- the best of the first j words: it, and how many texts -/
def cst (tx : TX) (ks : List Nat) (w : Nat) : Nat → Int32 × Nat
  | 0 => (-1, 0)
  | j + 1 => if ¬ ks.getD j 0 = w ∧ (cst tx ks w j).2 < tg tx w (ks.getD j 0) then (nI (ks.getD j 0), tg tx w (ks.getD j 0)) else cst tx ks w j
theorem cst_le (tx : TX) (ks : List Nat) (w : Nat) : ∀ j, (cst tx ks w j).2 ≤ 100
  | 0 => Nat.zero_le _
  | j + 1 => by
    rw [cst]
    split
    · exact cnt_le _ _
    · exact cst_le tx ks w j
theorem cst_none {tx : TX} (o : okX tx) {ks : List Nat} (a : allW tx ks) {w : Nat} (hw : ¬ w ∈ ks) : ∀ j, cst tx ks w j = (-1, 0)
  | 0 => rfl
  | j + 1 => by
    rw [cst, cst_none o a hw j, if_neg]
    rintro ⟨-, h⟩
    have h : 0 < tg tx w (ks.getD j 0) := h
    unfold tg at h
    rw [cnt_none 100 (fun i _ => by rw [hasT_no o a hw i, Bool.false_and])] at h
    exact Nat.lt_irrefl 0 h
theorem ccompanion {tx : TX} {ks : List Nat} {e : Nat} {wa wb : Nat → Nat} {h : PH} (c : CSh h) (o : okX tx) (X : IX tx ks e wa wb h) {w : Nat} (hw : vword w = true) : fX3_companionOf 16 (nI w) h = some (cst tx ks w ks.length).1 := by
  have hl := X.2.1
  unfold fX3_companionOf
  rw [gd_t (k_16 c), find_eq c X hw, bd_t]
  by_cases q : w ∈ ks
  · have W := ix_word X q
    rw [if_pos q]
    unfold fX3_companionOf_l14
    refine wh_out (fun j => ((cst tx ks w j).1, nI (cst tx ks w j).2, nI j)) ks.length rfl (fun j hj => ?_) ?_
    · show fX3_companionOf_c14 16 (some (wa w)) (cst tx ks w j).1 (nI (cst tx ks w j).2) (nI j) h = some (.inl ((cst tx ks w (j + 1)).1, nI (cst tx ks w (j + 1)).2, nI (j + 1)))
      have V := ix_word X (mem_getD hj)
      have b := cst_le tx ks w j
      have t100 : tg tx w (ks.getD j 0) ≤ 100 := cnt_le _ _
      have ac : acg (some (wa (ks.getD j 0))) (some (wa w)) = true := by
        have h1 := V.1
        have h2 := W.1
        generalize wa (ks.getD j 0) = x at h1
        generalize wa w = y at h2
        have g : ∀ z, 89 ≤ z → okc (some z) = true := fun z hz => by
          show (z == 3 || decide (10 ≤ z)) = true
          rw [decide_eq_true (show 10 ≤ z by omega), Bool.or_true]
        unfold acg
        rw [g x h1, g y h2]
        exact Bool.or_true _
      have ad : (some (wa (ks.getD j 0)) = some (wa w)) = (ks.getD j 0 = w) := by
        rw [Option.some.injEq]
        exact propext ⟨fun z => X.2.2.2.2.2.2.2.2.1 _ _ (mem_getD hj) q z, fun z => by rw [z]⟩
      unfold fX3_companionOf_c14 fX3_companionOf_b81
      rw [mq_st, gd_t (k_16 c), r3_16_0 c, gs_t, gd_t (k_17 c), ix_size c X, bd_t, if_neg (nI_ge hj (by omega)), gs_t, gd_t (k_17 c), ix_get c X hj, bd_t, gs_t, gd_t V.2.2.1, gd_t W.2.2.1, W.2.2.2.2.2.1, gs_t, gd_t W.2.2.2.2.2.2.1, V.2.2.2.2.2.1, X9_shared_eq W.2.2.2.2.2.2.1 W.2.2.2.2.2.2.2 V.2.2.2.2.2.2.1 V.2.2.2.2.2.2.2 (fun i hi => hasT_100 o hi w), bd_t, gd_t ac, ifp ad, V.2.2.2.1, nI_1, cst]
      show (if ks.getD j 0 = w then _ else if nI (tg tx w (ks.getD j 0)) ≤ nI (cst tx ks w j).2 then _ else _) = _
      by_cases d : ks.getD j 0 = w
      · rw [if_pos d, if_neg (fun z => z.1 d)]
      · rw [if_neg d]
        by_cases f : (cst tx ks w j).2 < tg tx w (ks.getD j 0)
        · rw [if_neg (by rw [nI_leI (by omega) (by omega)]; omega), if_pos ⟨d, f⟩]
          rfl
        · rw [if_pos ((nI_leI (by omega) (by omega)).mpr (by omega)), if_neg (fun z => f z.2)]
    · show fX3_companionOf_c14 16 (some (wa w)) (cst tx ks w ks.length).1 _ (nI ks.length) h = _
      unfold fX3_companionOf_c14 fX3_companionOf_b87
      rw [mq_st, gd_t (k_16 c), r3_16_0 c, gs_t, gd_t (k_17 c), ix_size c X, bd_t, if_pos (nI_le (Nat.le_refl _) (by omega)), mr_t]
  · rw [if_neg q, cst_none o X.1 q]
    unfold fX3_companionOf_l14
    refine wh_done ?_
    show fX3_companionOf_c14 16 none (-1) 0 0 h = _
    unfold fX3_companionOf_c14 fX3_companionOf_b87
    rw [mq_nt, mr_t]
theorem mcompanion {h : PH} (m : MSh h) {tx : TX} (o : okX tx) (T : MT tx h) {ks : List Nat} (s : SK ks) (K : KN ks h) (hl : ks.length ≤ 4000) {w : Nat} (hw : vword w = true) : fX12_companion_l26 45 (nI w) (-1) 0 0 h = some ((cst tx ks w ks.length).1, h) := by
  have hin : ∀ j, j < ks.length → inb (nI j) (hN h 59) := fun j hj => by rw [n_59 m]; exact inbI (by omega) (by decide)
  unfold fX12_companion_l26
  refine wh_out (fun j => ((cst tx ks w j).1, nI (cst tx ks w j).2, nI j)) ks.length rfl (fun j hj => ?_) ?_
  · show fX12_companion_c26 45 (nI w) (cst tx ks w j).1 (nI (cst tx ks w j).2) (nI j) h = some (.inl ((cst tx ks w (j + 1)).1, nI (cst tx ks w (j + 1)).2, nI (j + 1)))
    have b := cst_le tx ks w j
    have t100 : tg tx w (ks.getD j 0) ≤ 100 := cnt_le _ _
    have hv := s.2 _ (mem_getD hj)
    unfold fX12_companion_c26 fX12_companion_b62 fX12_companion_b84
    rw [gd_t (k_45 m), K.1, if_neg (nI_ge hj (by omega)), r12_45_19 m, gs_t, gd_t ⟨k_59 m, hin j hj⟩, K.c hl hj, gs_t, gd_t ⟨k_59 m, hin j hj⟩, K.c hl hj, manyTogether_eq m T o (vw31 hw) (vw31 hv), bd_t, ifn (nIe (vw31 hv) (vw31 hw)), nI_1, cst]
    show (if ¬ ks.getD j 0 = w then (if nI (cst tx ks w j).2 < nI (tg tx w (ks.getD j 0)) then _ else _) else _) = _
    by_cases d : ks.getD j 0 = w
    · rw [if_neg (fun z => z d), if_neg (show ¬ nI (cst tx ks w j).2 < 0 from nI_pos (by omega)), if_neg (fun z => z.1 d)]
    · rw [if_pos d]
      by_cases f : (cst tx ks w j).2 < tg tx w (ks.getD j 0)
      · rw [if_pos ((nI_ltI (by omega) (by omega)).mpr f), if_pos ⟨d, f⟩, gd_t (k_45 m), gs_t, gd_t ⟨k_59 m, hin j hj⟩, K.c hl hj]
        rfl
      · rw [if_neg (fun z => f ((nI_ltI (by omega) (by omega)).mp z)), if_neg (fun z => f z.2)]
  · show fX12_companion_c26 45 (nI w) (cst tx ks w ks.length).1 _ (nI ks.length) h = _
    unfold fX12_companion_c26
    rw [gd_t (k_45 m), K.1, if_pos (nI_le (Nat.le_refl _) (by omega)), mr_t]
theorem ls_companion {h : PH} {P : PH → Prop} {tx : TX} {ks : List Nat} {e : Nat} {wa wb : Nat → Nat} (c : CSh h) (m : MSh h) (o : okX tx) (T2 : MT tx h) (X : IX tx ks e wa wb h) (a1 a2 a3 a4 a5 : Int32) (hP : ∀ h', scr h h' → P h') : LS_30 10 45 87 88 a1 a2 a3 a4 a5 h P := by
  show LBody (fX11_companion 10 a1 h) (fX12_companion 45 a1) (fun c => c = 1) (fun c v => c = 1 ∧ v = some (.int 1)) h P
  refine lb_word c m (x := a1) rfl (fun v hv => hv.2) hP (fun e => ⟨?_, fun u mu => ?_⟩) (fun w hw ew e => ?_)
  · unfold fX11_companion fX11_companion_b0
    rw [demandWord_n e, bx_r]
  · unfold fX12_companion
    rw [gd_t (k_45 mu), lt_t, noWord_n (mu.scr (scr_thr u 0)) (thr0 u) e, bd_t]
    exact if_neg (show ¬ (1 : Int32) = 0 by decide)
  · subst ew
    refine lb_val c m (v0 := (cst tx ks w ks.length).1) ?_ (fun u su => ?_) hP
    · unfold fX11_companion fX11_companion_b0 fX11_companion_b4
      rw [demandWord_s e, bx_l, gd_t (k_10 c), r11_10_3 c, gs_t, gd_t (k_16 c), ccompanion c o X hw, bd_t]
    · have mu := m.scr su
      have m1 := mu.scr (scr_thr u 0)
      obtain ⟨w0, h1, h2, h3, h4, h5, h6, h7, h8⟩ := finds_thr mu o (T2.scr su) X.1
      refine ⟨w0, ?_, h3, h6, h7⟩
      unfold fX12_companion
      rw [gd_t (k_45 mu), lt_t, noWord_s m1 (thr0 u) e, bd_t]
      show (if (0 : Int32) = 0 then gd (hK (sI u 12 45 0 0) 45 = 12) (bd (fX12_finds 45 (sI u 12 45 0 0)) (fun z5 => fX12_companion_l26 45 (nI w) (-1) 0 0 z5)) else _) = _
      rw [if_pos rfl, gd_t (k_45 m1), h1, bd_t, mcompanion h4 o h5 X.1.1 h2 h8 hw]
