theorem noText_n {h : PH} (m : MSh h) (h0 : hI h 12 45 0 = 0) {tx : TX} (T : MT tx h) {x : Int32} (e : txI tx x = none) : fX12_noText 45 x h = some (1, sI h 12 45 0 1) := by
  rw [noText_eq m h0 T, e]
theorem noText_s {h : PH} (m : MSh h) (h0 : hI h 12 45 0 = 0) {tx : TX} (T : MT tx h) {x : Int32} {ws : List Nat} (e : txI tx x = some ws) : fX12_noText 45 x h = some (0, h) := by
  rw [noText_eq m h0 T, e]
/-- a call that only asks, of a text -/
theorem lb_text {fc : Option ((Int32 × PH) ⊕ (Nat × PH))} {fm : PH → Option (Int32 × PH)} {Cd : Nat → Prop} {Cv : Nat → Option Value → Prop} {h : PH} {P : PH → Prop} (c : CSh h) (m : MSh h) {tx : TX} (T : CT tx h) (x : Int32)
    (hd : Cd 2) (hv : ∀ v, Cv 2 v → v = some (.int 1)) (hP : ∀ h', scr h h' → P h')
    (no : txI tx x = none → fX11_demandText 10 x h = some (.inr (2, h)) → fc = some (.inr (2, h)) ∧ ∀ u, scr h u → fm u = some (0, sI (sI u 12 45 0 0) 12 45 0 1))
    (yes : ∀ t ws a b, t < 100 → x = nI t → tx t = some ws → txI tx x = some ws → TextAt h a b ws → fX11_demandText 10 x h = some (.inl (some a, h)) → LBody fc fm Cd Cv h P) : LBody fc fm Cd Cv h P := by
  rcases demandText_eq c T x with ⟨e, f⟩ | ⟨t, ws, a, b, ht, e1, q, e, h1, h2, h3, h4, f⟩
  · obtain ⟨f, g⟩ := no e f
    refine lb_exc c m (e := 2) (code := 1) f hd hv (by decide) (fun u su => ⟨_, g u su, ?_, ?_⟩) hP
    · exact (scr_thr _ 0).tr (scr_thr _ 1)
    · exact (hI_sI _ _ _ _ _ _ _ _).trans (if_pos ⟨rfl, rfl, rfl⟩)
  · exact yes t ws a b ht e1 q e h4 f
theorem ls_unlike {h : PH} {P : PH → Prop} {tx : TX} (c : CSh h) (m : MSh h) (o : okX tx) (T1 : CT tx h) (T2 : MT tx h) (a1 a2 a3 a4 a5 : Int32) (hP : ∀ h', scr h h' → P h') : LS_49 10 45 87 88 a1 a2 a3 a4 a5 h P := by
  show LBody (fX11_unlike 10 a1 h) (fX12_unlike 45 a1) (fun c => c = 2) (fun c v => c = 2 ∧ v = some (.int 1)) h P
  refine lb_text c m T1 a1 rfl (fun v hv => hv.2) hP (fun e f => ⟨?_, fun u su => ?_⟩) (fun t ws a b ht ex q e h4 f => ?_)
  · unfold fX11_unlike fX11_unlike_b0
    rw [gd_t (k_10 c), f, bx_r]
  · have mu := m.scr su
    unfold fX12_unlike fX12_unlike_b23
    rw [gd_t (k_45 mu), lt_t, noText_n (mu.scr (scr_thr u 0)) (thr0 u) ((T2.scr su).scr (scr_thr u 0)) e, bd_t]
    exact if_neg (show ¬ (1 : Int32) = 0 by decide)
  · have ot := (o t ws q).2
    refine lb_val c m (v0 := nI (cm ws (fun _ => true))) ?_ (fun u su => ⟨_, ?_, scr_thr u 0, thr0 u, rfl⟩) hP
    · unfold fX11_unlike fX11_unlike_b0 fX11_unlike_b5
      rw [gd_t (k_10 c), f, bx_l, gs_t, gd_t h4.1, X8_countUnlike_eq h4 ot, bd_t]
    · have mu := m.scr su
      have m1 := mu.scr (scr_thr u 0)
      have t1 := (T2.scr su).scr (scr_thr u 0)
      unfold fX12_unlike fX12_unlike_b23
      rw [gd_t (k_45 mu), lt_t, noText_s m1 (thr0 u) t1 e, bd_t]
      show (if (0 : Int32) = 0 then gd (hK (sI u 12 45 0 0) 45 = 12) (bd (fX12_shared 45 a1 a1 (sI u 12 45 0 0)) (fun z5 => some ((z5, sI u 12 45 0 0)))) else _) = _
      rw [if_pos rfl, gd_t (k_45 m1), ex, shared_self m1 o t1 ht q, bd_t]
theorem ls_common {h : PH} {P : PH → Prop} {tx : TX} (c : CSh h) (m : MSh h) (o : okX tx) (T1 : CT tx h) (T2 : MT tx h) (a1 a2 a3 a4 a5 : Int32) (hP : ∀ h', scr h h' → P h') : LS_50 10 45 87 88 a1 a2 a3 a4 a5 h P := by
  show LBody (fX11_common 10 a1 a2 h) (fX12_common 45 a1 a2) (fun c => c = 2) (fun c v => c = 2 ∧ v = some (.int 1)) h P
  refine lb_text c m T1 a1 rfl (fun v hv => hv.2) hP (fun e f => ⟨?_, fun u su => ?_⟩) (fun t ws a b ht ex q e h4 f => ?_)
  · unfold fX11_common fX11_common_b0
    rw [gd_t (k_10 c), f, bx_r]
  · have mu := m.scr su
    unfold fX12_common fX12_common_b21 fX12_common_b31
    rw [gd_t (k_45 mu), lt_t, noText_n (mu.scr (scr_thr u 0)) (thr0 u) ((T2.scr su).scr (scr_thr u 0)) e, bd_t]
    exact if_pos (show ¬ (1 : Int32) = 0 by decide)
  · have ot := (o t ws q).2
    refine lb_text c m T1 a2 rfl (fun v hv => hv.2) hP (fun e' f' => ⟨?_, fun u su => ?_⟩) (fun t' vs a' b' ht' ex' q' e' h4' f' => ?_)
    · unfold fX11_common fX11_common_b0 fX11_common_b5
      rw [gd_t (k_10 c), f, bx_l]
      show gd (hK h 10 = 11) (bx (fX11_demandText 10 a2 h) _) = _
      rw [gd_t (k_10 c), f', bx_r]
    · have mu := m.scr su
      have m1 := mu.scr (scr_thr u 0)
      have t1 := (T2.scr su).scr (scr_thr u 0)
      unfold fX12_common fX12_common_b21 fX12_common_b31
      rw [gd_t (k_45 mu), lt_t, noText_s m1 (thr0 u) t1 e, bd_t]
      show (if ¬ (0 : Int32) = 0 then _ else gd (hK (sI u 12 45 0 0) 45 = 12) (bd (fX12_noText 45 a2 (sI u 12 45 0 0)) _)) = _
      rw [if_neg (by decide), gd_t (k_45 m1), noText_n m1 (thr0 u) t1 e', bd_t]
      exact if_neg (show ¬ (1 : Int32) = 0 by decide)
    · have ot' := (o t' vs q').2
      refine lb_val c m (v0 := nI (cm ws (fun w => decide (w ∈ vs)))) ?_ (fun u su => ⟨_, ?_, scr_thr u 0, thr0 u, rfl⟩) hP
      · unfold fX11_common fX11_common_b0 fX11_common_b5 fX11_common_b11
        rw [gd_t (k_10 c), f, bx_l]
        show gd (hK h 10 = 11) (bx (fX11_demandText 10 a2 h) _) = _
        rw [gd_t (k_10 c), f', bx_l, gs_t, gd_t h4.1, X8_countCommon_eq h4 ot h4' ot', bd_t]
      · have mu := m.scr su
        have m1 := mu.scr (scr_thr u 0)
        have t1 := (T2.scr su).scr (scr_thr u 0)
        unfold fX12_common fX12_common_b31
        rw [gd_t (k_45 mu), lt_t, noText_s m1 (thr0 u) t1 e, bd_t]
        show (if ¬ (0 : Int32) = 0 then _ else gd (hK (sI u 12 45 0 0) 45 = 12) (bd (fX12_noText 45 a2 (sI u 12 45 0 0)) _)) = _
        rw [if_neg (by decide), gd_t (k_45 m1), noText_s m1 (thr0 u) t1 e', bd_t]
        show (if (0 : Int32) = 0 then gd (hK (sI u 12 45 0 0) 45 = 12) (bd (fX12_shared 45 a1 a2 (sI u 12 45 0 0)) (fun z7 => some ((z7, sI u 12 45 0 0)))) else _) = _
        rw [if_pos rfl, gd_t (k_45 m1), ex, ex', shared_two m1 o t1 ht q ht' q', bd_t]
