/-- the next text with the word, of a number that is 0 or more -/
def nwV (tx : TX) (w : Nat) (x : Int32) : Int32 := if (100 : Int32) ≤ x then -1 else optI (fst1 (fun t => hasT tx t w) (100 - x.toNatClampNeg) x.toNatClampNeg)
theorem fst_none {p : Nat → Bool} : ∀ f j, (∀ i, p i = false) → fst1 p f j = none
  | 0, _, _ => rfl
  | f + 1, j, h => by rw [fst1, h j, if_neg (by decide), fst_none f (j + 1) h]
theorem mnext_l {h : PH} (m : MSh h) {tx : TX} (o : okX tx) (T : MT tx h) {w : Nat} (hw : vword w = true) {x : Int32} (h0 : ¬ x < 0) : fX12_nextWith_l34 45 (nI w) x h = some (nwV tx w x, h) := by
  unfold nwV
  by_cases z : (100 : Int32) ≤ x
  · rw [if_pos z]
    unfold fX12_nextWith_l34
    refine wh_done ?_
    show fX12_nextWith_c34 45 (nI w) x h = _
    unfold fX12_nextWith_c34
    rw [if_pos z, mr_t]
  · obtain ⟨t, ht, rfl⟩ := nI_of h0
    have ht' : t < 100 := by
      apply Nat.lt_of_not_le
      intro y
      exact z ((nI_leI (a := 100) (by decide) ht).mpr y)
    rw [if_neg z, nI_clamp ht]
    unfold fX12_nextWith_l34
    refine fst_loop (ρ := Int32 × PH) (fun t => hasT tx t w) 100 (fun r => (optI r, h)) (fun j hj e => ?_) (fun j hj e => ?_) ?_ (100 - t) t (by omega)
    · unfold fX12_nextWith_c34
      rw [if_neg (i100 hj), gd_t (k_45 m), mhas_eq m T o hj (vw31 hw), bd_t, e, if_neg (show ¬ bI true = 0 by decide), mr_t]
      rfl
    · unfold fX12_nextWith_c34
      rw [if_neg (i100 hj), gd_t (k_45 m), mhas_eq m T o hj (vw31 hw), bd_t, e, if_pos (show bI false = 0 from rfl), nI_1]
    · unfold fX12_nextWith_c34
      rw [if_pos (by decide)]
      rfl
theorem ls_nextWith {h : PH} {P : PH → Prop} {tx : TX} {ks : List Nat} {e : Nat} {wa wb : Nat → Nat} (c : CSh h) (m : MSh h) (o : okX tx) (T2 : MT tx h) (X : IX tx ks e wa wb h) (a1 a2 a3 a4 a5 : Int32) (hP : ∀ h', scr h h' → P h') : LS_25 10 45 87 88 a1 a2 a3 a4 a5 h P := by
  show LBody (fX11_nextWith 10 a1 a2 h) (fX12_nextWith 45 a1 a2) (fun c => c = 1 ∨ c = 2) (fun c v => (c = 1 ∧ v = some (.int 1)) ∨ (c = 2 ∧ v = some (.int 2))) h P
  refine lb_word c m (x := a1) (Or.inl rfl) (fun v hv => hv.elim (fun q => q.2) (fun q => absurd q.1 (by decide))) hP (fun e => ⟨?_, fun u mu => ?_⟩) (fun w hw ew e => ?_)
  · unfold fX11_nextWith fX11_nextWith_b0
    rw [demandWord_n e, bx_r]
  · unfold fX12_nextWith fX12_nextWith_b30
    rw [gd_t (k_45 mu), lt_t, noWord_n (mu.scr (scr_thr u 0)) (thr0 u) e, bd_t]
    exact if_pos (show ¬ (1 : Int32) = 0 by decide)
  · subst ew
    by_cases h0 : a2 < 0
    · refine lb_exc c m (e := 2) (code := 2) ?_ (Or.inr rfl) (fun v hv => hv.elim (fun q => absurd q.1 (by decide)) (fun q => q.2)) (by decide) (fun u su => ⟨(0, sI (sI u 12 45 0 0) 12 45 0 2), ?_, (scr_thr _ 0).tr (scr_thr _ 2), (hI_sI _ _ _ _ _ _ _ _).trans (if_pos ⟨rfl, rfl, rfl⟩)⟩) hP
      · unfold fX11_nextWith fX11_nextWith_b0 fX11_nextWith_b4
        rw [demandWord_s e, bx_l, if_neg (Int32.not_le.mpr h0)]
      · have mu := m.scr su
        have m1 := mu.scr (scr_thr u 0)
        unfold fX12_nextWith fX12_nextWith_b23 fX12_nextWith_b30
        rw [gd_t (k_45 mu), lt_t, noWord_s m1 (thr0 u) e, bd_t]
        show (if ¬ (0 : Int32) = 0 then _ else if a2 < 0 then gs (some 45) (fun a4 => gd (hK (sI u 12 45 0 0) a4 = 12) (bd (fX12_fails a4 0 2 (sI u 12 45 0 0)) _)) else _) = _
        rw [if_neg (by decide), if_pos h0, gs_t, gd_t (k_45 m1), fails_f m1 (thr0 u) (by decide), bd_t]
        exact if_neg (show ¬ (1 : Int32) = 0 by decide)
    · refine lb_val c m (v0 := nwV tx w a2) ?_ (fun u su => ⟨_, ?_, scr_thr u 0, thr0 u, rfl⟩) hP
      · unfold fX11_nextWith fX11_nextWith_b0 fX11_nextWith_b4 fX11_nextWith_b41
        rw [demandWord_s e, bx_l, if_pos (Int32.not_lt.mp h0), gd_t (k_10 c), r11_10_3 c, gs_t, gd_t (k_16 c), find_eq c X hw, bd_t]
        unfold nwV
        by_cases q : w ∈ ks
        · have W := ix_word X q
          rw [if_pos q, mq_st, gd_t W.2.2.1, W.2.2.2.2.2.1, gs_t, gd_t W.2.2.2.2.2.2.1]
          by_cases z : (100 : Int32) ≤ a2
          · rw [if_pos z, X9_next_out z, bd_t]
          · obtain ⟨t, ht, rfl⟩ := nI_of h0
            have ht' : t < 100 := by
              apply Nat.lt_of_not_le
              intro y
              exact z ((nI_leI (a := 100) (by decide) ht).mpr y)
            rw [if_neg z, X9_next_eq W.2.2.2.2.2.2.1 W.2.2.2.2.2.2.2 (100 - t) t (by omega), bd_t, nI_clamp ht]
        · rw [if_neg q, mq_nt, fst_none _ _ (fun i => hasT_no o X.1 q i)]
          split <;> rfl
      · have mu := m.scr su
        have m1 := mu.scr (scr_thr u 0)
        have t1 := (T2.scr su).scr (scr_thr u 0)
        unfold fX12_nextWith fX12_nextWith_b23
        rw [gd_t (k_45 mu), lt_t, noWord_s m1 (thr0 u) e, bd_t]
        show (if ¬ (0 : Int32) = 0 then _ else if a2 < 0 then _ else gs (some 45) (fun a4 => gd (hK (sI u 12 45 0 0) a4 = 12) (bd (fX12_fails a4 1 2 (sI u 12 45 0 0)) _))) = _
        rw [if_neg (by decide), if_neg h0, gs_t, gd_t (k_45 m1), fails_t m1 (thr0 u), bd_t]
        show (if (0 : Int32) = 0 then fX12_nextWith_l34 45 (nI w) a2 (sI u 12 45 0 0) else _) = _
        rw [if_pos rfl, mnext_l m1 o t1 hw h0]
theorem manyTogether_eq {h : PH} (m : MSh h) {tx : TX} (T : MT tx h) (o : okX tx) {w v : Nat} (hw : w < 2 ^ 31) (hv : v < 2 ^ 31) : fX12_manyTogether 45 (nI w) (nI v) h = some (nI (cnt (fun t => hasT tx t w && hasT tx t v) 100)) := by
  unfold fX12_manyTogether fX12_manyTogether_l5
  refine wh_out (fun j => (nI (cnt (fun t => hasT tx t w && hasT tx t v) j), nI j)) 100 rfl (fun j hj => ?_) ?_
  · show fX12_manyTogether_c5 45 (nI w) (nI v) (nI (cnt (fun t => hasT tx t w && hasT tx t v) j)) (nI j) h = _
    unfold fX12_manyTogether_c5 fX12_manyTogether_b37 fX12_manyTogether_b38
    rw [if_neg (i100 hj), gd_t (k_45 m), mhas_eq m T o hj hw, bd_t]
    cases e : hasT tx j w with
    | false => rw [if_pos (show bI false = 0 from rfl), cnt_neg (p := fun t => hasT tx t w && hasT tx t v) (by rw [e]; rfl), nI_1]
    | true =>
      rw [if_neg (show ¬ bI true = 0 by decide), mhas_eq m T o hj hv, bd_t]
      cases e' : hasT tx j v with
      | false => rw [if_pos (show bI false = 0 from rfl), cnt_neg (p := fun t => hasT tx t w && hasT tx t v) (by rw [e, e']; rfl), nI_1]
      | true => rw [if_neg (show ¬ bI true = 0 by decide), cnt_pos (p := fun t => hasT tx t w && hasT tx t v) (by rw [e, e']; rfl), nI_1]
  · show fX12_manyTogether_c5 45 (nI w) (nI v) _ (nI 100) h = _
    unfold fX12_manyTogether_c5
    rw [if_pos (by decide)]
    rfl
theorem X12_together_v {u : PH} (m : MSh u) {x y : Int32} (e : vI x = true) (e' : vI y = false) : fX12_together 45 x y u = some (0, sI (sI u 12 45 0 0) 12 45 0 1) := by
  have m1 := m.scr (scr_thr u 0)
  unfold fX12_together fX12_together_b21 fX12_together_b31
  rw [gd_t (k_45 m), lt_t, noWord_s m1 (thr0 u) e, bd_t]
  show (if ¬ (0 : Int32) = 0 then _ else gd (hK (sI u 12 45 0 0) 45 = 12) (bd (fX12_noWord 45 y (sI u 12 45 0 0)) _)) = _
  rw [if_neg (by decide), gd_t (k_45 m1), noWord_n m1 (thr0 u) e', bd_t]
  exact if_neg (show ¬ (1 : Int32) = 0 by decide)
theorem ls_together {h : PH} {P : PH → Prop} {tx : TX} {ks : List Nat} {e : Nat} {wa wb : Nat → Nat} (c : CSh h) (m : MSh h) (o : okX tx) (T2 : MT tx h) (X : IX tx ks e wa wb h) (a1 a2 a3 a4 a5 : Int32) (hP : ∀ h', scr h h' → P h') : LS_29 10 45 87 88 a1 a2 a3 a4 a5 h P := by
  show LBody (fX11_together 10 a1 a2 h) (fX12_together 45 a1 a2) (fun c => c = 1) (fun c v => c = 1 ∧ v = some (.int 1)) h P
  refine lb_word c m (x := a1) rfl (fun v hv => hv.2) hP (fun e => ⟨?_, fun u mu => ?_⟩) (fun w hw ew e => ?_)
  · unfold fX11_together fX11_together_b0
    rw [demandWord_n e, bx_r]
  · unfold fX12_together fX12_together_b21 fX12_together_b31
    rw [gd_t (k_45 mu), lt_t, noWord_n (mu.scr (scr_thr u 0)) (thr0 u) e, bd_t]
    exact if_pos (show ¬ (1 : Int32) = 0 by decide)
  · refine lb_word c m (x := a2) rfl (fun v hv => hv.2) hP (fun e' => ⟨?_, fun u mu => X12_together_v mu e e'⟩) (fun v hv ew' e' => ?_)
    · unfold fX11_together fX11_together_b0 fX11_together_b4
      rw [demandWord_s e, bx_l, demandWord_n e', bx_r]
    · subst ew; subst ew'
      refine lb_val c m (v0 := nI (cnt (fun t => hasT tx t w && hasT tx t v) 100)) ?_ (fun u su => ⟨_, ?_, scr_thr u 0, thr0 u, rfl⟩) hP
      · unfold fX11_together fX11_together_b0 fX11_together_b4 fX11_together_b8 fX11_together_b36 fX11_together_b52
        rw [demandWord_s e, bx_l, demandWord_s e', bx_l, gd_t (k_10 c), r11_10_3 c, gs_t, gd_t (k_16 c), find_eq c X hw, bd_t, gs_t, gd_t (k_16 c), find_eq c X hv, bd_t]
        by_cases q : w ∈ ks
        · have W := ix_word X q
          rw [if_pos q, mq_st]
          by_cases q' : v ∈ ks
          · have V := ix_word X q'
            rw [if_pos q', mq_st, gd_t W.2.2.1, gd_t V.2.2.1, W.2.2.2.2.2.1, gs_t, gd_t W.2.2.2.2.2.2.1, V.2.2.2.2.2.1, X9_shared_eq W.2.2.2.2.2.2.1 W.2.2.2.2.2.2.2 V.2.2.2.2.2.2.1 V.2.2.2.2.2.2.2 (fun i hi => hasT_100 o hi w), bd_t]
          · rw [if_neg q', mq_nt, cnt_none (p := fun t => hasT tx t w && hasT tx t v) 100 (fun i _ => by rw [hasT_no o X.1 q' i, Bool.and_false])]
            rfl
        · rw [if_neg q, mq_nt, cnt_none (p := fun t => hasT tx t w && hasT tx t v) 100 (fun i _ => by rw [hasT_no o X.1 q i, Bool.false_and])]
          rfl
      · have mu := m.scr su
        have m1 := mu.scr (scr_thr u 0)
        unfold fX12_together fX12_together_b31
        rw [gd_t (k_45 mu), lt_t, noWord_s m1 (thr0 u) e, bd_t]
        show (if ¬ (0 : Int32) = 0 then _ else gd (hK (sI u 12 45 0 0) 45 = 12) (bd (fX12_noWord 45 (nI v) (sI u 12 45 0 0)) _)) = _
        rw [if_neg (by decide), gd_t (k_45 m1), noWord_s m1 (thr0 u) e', bd_t]
        show (if (0 : Int32) = 0 then gd (hK (sI u 12 45 0 0) 45 = 12) (bd (fX12_manyTogether 45 (nI w) (nI v) (sI u 12 45 0 0)) (fun z7 => some ((z7, sI u 12 45 0 0)))) else _) = _
        rw [if_pos rfl, gd_t (k_45 m1), manyTogether_eq m1 ((T2.scr su).scr (scr_thr u 0)) o (vw31 hw) (vw31 hv), bd_t]
