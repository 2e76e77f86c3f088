theorem X12_nearest_eq {h : PH} (m : MSh h) {tx : TX} (o : okX tx) (T : MT tx h) {t : Nat} (ht : t < 100) {ws : List Nat} (q : tx t = some ws) : fX12_nearest_l25 45 (nI t) (-1) 0 1 0 h = some (optI (nst tx t ws 100).1, h) := by
  have ot := (o t ws q).2
  unfold fX12_nearest_l25
  refine wh_out (fun j => (optI (nst tx t ws j).1, nI (nst tx t ws j).2.1, nI (nst tx t ws j).2.2, nI j)) 100 rfl (fun j hj => ?_) ?_
  · obtain ⟨b1, b2, b3⟩ := nst_bd o t ot.1 j
    show fX12_nearest_c25 45 (nI t) (optI (nst tx t ws j).1) (nI (nst tx t ws j).2.1) (nI (nst tx t ws j).2.2) (nI j) h = some (.inl (optI (nst tx t ws (j + 1)).1, nI (nst tx t ws (j + 1)).2.1, nI (nst tx t ws (j + 1)).2.2, nI (j + 1)))
    have hs : fX12_nearest_b118 45 (nI t) (optI (nst tx t ws j).1) (nI (nst tx t ws j).2.1) (nI (nst tx t ws j).2.2) (nI j) h = some (.inl (optI (nst tx t ws j).1, nI (nst tx t ws j).2.1, nI (nst tx t ws j).2.2, nI (j + 1))) := by
      unfold fX12_nearest_b118
      rw [nI_1]
    unfold fX12_nearest_c25
    rw [if_neg (i100 hj), gd_t (k_45 m), r12_45_4 m, gs_t, gd_t ⟨k_47 m, by rw [n_47 m]; exact inbI hj (by decide)⟩]
    cases e : tx j with
    | none => rw [T.nc hj e, if_pos rfl, hs, nst_n e]
    | some vs =>
      rw [(T.sc hj e).1, if_neg (by decide)]
      by_cases d : j = t
      · rw [if_neg (fun z => z (by rw [d])), hs, nst_t d]
      · rw [if_pos (by rw [nI_eq (by omega) (by omega)]; exact d)]
        have ov := (o j vs e).2
        have m1 := cm_mono ws (fun w => decide (w ∈ vs))
        have l1 := cm_le ws (fun _ => true)
        have l2 := cm_le vs (fun _ => true)
        have l3 := ot.1
        have l4 := ov.1
        have u1 : nI (cm ws (fun _ => true)) + nI (cm vs (fun _ => true)) - nI (cm ws (fun w => decide (w ∈ vs))) = nI (nU ws vs) := by
          rw [nI_add, pk_sub (by omega)]
          rfl
        have hu : nU ws vs ≤ 80 := by unfold nU; omega
        have hb : (if (¬ nI (nU ws vs) = 0) then (fX12_nearest_b88 45 (nI t) (optI (nst tx t ws j).1) (nI (nst tx t ws j).2.1) (nI (nst tx t ws j).2.2) (nI j) (nI (cm ws (fun w => decide (w ∈ vs)))) (nI (nU ws vs)) h) else fX12_nearest_b88 45 (nI t) (optI (nst tx t ws j).1) (nI (nst tx t ws j).2.1) (nI (nst tx t ws j).2.2) (nI j) (nI (cm ws (fun w => decide (w ∈ vs)))) (1 : Int32) h) = fX12_nearest_b88 45 (nI t) (optI (nst tx t ws j).1) (nI (nst tx t ws j).2.1) (nI (nst tx t ws j).2.2) (nI j) (nI (cm ws (fun w => decide (w ∈ vs)))) (nI (nA ws vs)) h := by
          unfold nA
          by_cases z : nU ws vs = 0
          · rw [if_neg (fun w => w (by rw [z]; rfl)), if_pos z]
            rfl
          · rw [if_pos (fun w => z ((nI0 (by omega)).mp w)), if_neg z]
        rw [shared_two m o T ht q hj e, bd_t, shared_self m o T ht q, bd_t, shared_self m o T hj e, bd_t, u1, hb]
        have hy : fX12_nearest_b108 45 (nI t) (nI j) (nI (cm ws (fun w => decide (w ∈ vs)))) (nI (nA ws vs)) h = some (.inl (nI j, nI (cm ws (fun w => decide (w ∈ vs))), nI (nA ws vs), nI (j + 1))) := by
          unfold fX12_nearest_b108 fX12_nearest_b118
          rw [nI_1]
        unfold fX12_nearest_b88
        rw [hy, hs]
        by_cases z1 : (nst tx t ws j).1 = none
        · rw [if_pos (by rw [z1]; rfl), nst_y e d (Or.inl z1)]
          rfl
        · rw [if_neg (fun w => z1 ((optI_m1 (fun i hi => by have := b1 i hi; omega)).mp w)), pk_mul, pk_mul]
          have hna := nA_le l3 l4
          generalize hM : cm ws (fun w => decide (w ∈ vs)) = M at *
          have k1 : M * (nst tx t ws j).2.2 ≤ 40 * 80 := Nat.mul_le_mul (by omega) b3
          have k2 : (nst tx t ws j).2.1 * nA ws vs ≤ 40 * 80 := Nat.mul_le_mul b2 hna
          by_cases z2 : (nst tx t ws j).2.1 * nA ws vs < M * (nst tx t ws j).2.2
          · rw [if_pos ((nI_ltI (by omega) (by omega)).mpr z2), nst_y e d (Or.inr (by rw [hM]; exact z2)), hM]
            rfl
          · rw [if_neg (fun w => z2 ((nI_ltI (by omega) (by omega)).mp w)), nst_k e d (by rw [hM]; exact fun w => w.elim z1 z2)]
  · show fX12_nearest_c25 45 (nI t) _ _ _ (nI 100) h = _
    unfold fX12_nearest_c25
    rw [if_pos (by decide)]
    rfl
theorem ls_nearest {h : PH} {P : PH → Prop} {tx : TX} (c : CSh h) (m : MSh h) (o : okX tx) (T1 : CT tx h) (T2 : MT tx h) (a1 a2 a3 a4 a5 : Int32) (hP : ∀ h', scr h h' → P h') : LS_51 10 45 87 88 a1 a2 a3 a4 a5 h P := by
  show LBody (fX11_nearest 10 a1 h) (fX12_nearest 45 a1) (fun c => c = 2) (fun c v => c = 2 ∧ v = some (.int 1)) h P
  refine lb_text c m T1 a1 rfl (fun v hv => hv.2) hP (fun e f => ⟨?_, fun u su => ?_⟩) (fun t ws a b ht ex q e h4 f => ?_)
  · unfold fX11_nearest fX11_nearest_b0
    rw [gd_t (k_10 c), f, bx_r]
  · have mu := m.scr su
    unfold fX12_nearest
    rw [gd_t (k_45 mu), lt_t, noText_n (mu.scr (scr_thr u 0)) (thr0 u) ((T2.scr su).scr (scr_thr u 0)) e, bd_t]
    exact if_neg (show ¬ (1 : Int32) = 0 by decide)
  · have ot := (o t ws q).2
    refine lb_val c m (v0 := optI (nst tx t ws 100).1) ?_ (fun u su => ⟨_, ?_, scr_thr u 0, thr0 u, rfl⟩) hP
    · unfold fX11_nearest fX11_nearest_b0 fX11_nearest_b5
      rw [gd_t (k_10 c), f, bx_l, gs_t, gd_t h4.1, X8_countUnlike_eq h4 ot, bd_t, ex]
      exact X11_nearest_eq c o T1 ht q h4
    · have mu := m.scr su
      have m1 := mu.scr (scr_thr u 0)
      have t1 := (T2.scr su).scr (scr_thr u 0)
      unfold fX12_nearest
      rw [gd_t (k_45 mu), lt_t, noText_s m1 (thr0 u) t1 e, bd_t]
      show (if (0 : Int32) = 0 then fX12_nearest_l25 45 a1 (-1) 0 1 0 (sI u 12 45 0 0) else _) = _
      rw [if_pos rfl, ex, X12_nearest_eq m1 o t1 ht q]
