/-! REMOVING A TEXT -/
theorem ls_removeText {h : PH} {P : PH → Prop} {tx : TX} {bs : List Nat} {er : Int32} {ks : List Nat} {e : Nat} {wa wb : Nat → Nat} {D : Nat → Prop} {kq : Nat → Option (QT 27)} {E : EVT} {R : PST} (I : INV1 tx bs er ks e wa wb D kq E R h) (a1 a2 a3 a4 a5 : Int32) (hP : ∀ h', INVX D kq h' → rest h h' → P h') : LS_5 10 45 87 88 a1 a2 a3 a4 a5 h P := by
  obtain ⟨C, M, T⟩ := id I
  obtain ⟨c, o, B, X, K, Y, V, W, n⟩ := id C
  have b := B.1
  have m := M.1
  have fail : ∀ h', scr h h' → P h' := fun h' s => hP h' (I.scr s).X (mc_rest (scr_mc s))
  show LBody (fX11_removeText 10 a1 h) (fX12_removeText 45 a1) (fun c => c = 2) (fun c v => c = 2 ∧ v = some (.int 1)) h P
  rcases demandB c B a1 with ⟨e0, f⟩ | ⟨t, ws, a, b', ht, rfl, q, e0, la, lb, ha, hb, TA, f⟩
  · refine lb_exc c m (e := 2) (code := 1) ?_ rfl (fun v hv => hv.2) (by decide) (fun u su => ⟨(0, sI (sI u 12 45 0 0) 12 45 0 1), ?_, (scr_thr u 0).tr (scr_thr _ 1), (hI_sI _ _ _ _ _ _ _ _).trans (if_pos ⟨rfl, rfl, rfl⟩)⟩) fail
    · unfold fX11_removeText fX11_removeText_b0
      rw [gd_t (k_10 c), f, bx_r]
    · have mu := m.scr su
      have s0 := scr_thr u 0
      unfold fX12_removeText
      rw [gd_t (k_45 mu), lt_t, noText_n (mu.scr s0) (thr0 u) ((M.2.1.scr su).scr s0) e0, bd_t]
      exact if_neg (show ¬ (1 : Int32) = 0 by decide)
  · obtain ⟨ks', e', wa', wb', h1, r1, r2, r3, r4, r5, r6, r7, r8, r9, r10, r11, r12, r13⟩ := change_eq c o B X K Y V W n ht (y := none) (now := none) rfl
    have C1 : CI (updX tx t none) ks' e' wa' wb' D kq (evF (kb tx kq t) (kb (updX tx t none) kq t) (nI t) E 6) (pushR R t (tx t)) h1 := ⟨r2, r3, r4, r5, r6, r7, r8, r9, r10⟩
    have I1 : MI tx E R h1 := M.C b r11 (fun c a k z => Or.inl (by have := FW_34 z; omega)) (fun _ _ _ z => GW_c z)
    have T1 : TP bs er h1 := T.W b r11
    have TA1 := TA.W ha hb la lb r11
    have ct : Int32.toNatClampNeg (nI t) = t := nI_clamp (by omega)
    have fc : fX11_removeText 10 (nI t) h = some (.inl (nI ws.length, h1)) := by
      unfold fX11_removeText fX11_removeText_b0 fX11_removeText_b5 fX11_removeText_b12
      rw [gd_t (k_10 c), f, bx_l]
      show gd (hK h 10 = 11) (bd (fX11_change 10 (nI t) none h) _) = _
      rw [gd_t (k_10 c), r1, bd_t]
      show gs (some a) _ = _
      rw [gs_t, gd_t TA1.1, X8_size_eq TA1, bd_t]
    refine lb_gen c fc r2 (by omega) (by omega) (fun u su _ => ?_)
    have mu := I1.1.scr su
    have mu0 := mu.scr (scr_thr u 0)
    obtain ⟨J, KMg, Cg, h0⟩ := ref_start I1 C1 su
    obtain ⟨w1, g1, g2, g3, g4, g5⟩ := begins_eq J o KMg W.1 ht
    obtain ⟨o2, X2⟩ := mgone (t := t) o g3.2.1
    obtain ⟨w3, s1, s2, s3, s4, s5, s6, s7⟩ := change_end Cg g3 g4 g5 V.1 ht (g2.mono (fun _ _ _ => bg_mc)) o2 X2
    have len : hI w3 20 49 t = nI ws.length := (s4.1 20 49 t rfl).trans ((c21 _ _ _ _ (by decide)).trans (g3.2.1.s ht q).2.1)
    refine ⟨w3, k_45 mu, ?_, s6.1, s3, (s4.1 12 45 0 rfl).trans ((o2.1 12 45 0 rfl).trans ((g2.1 12 45 0 rfl).trans h0)), by rw [hL_oI s5]; rfl, hP w3 (INV1.X ⟨s6, s7, ((((T1.scr su).scr (scr_thr u 0)).oI g2 ⟨rfl, rfl, rfl, rfl, fun _ => ⟨rfl, rfl⟩⟩).oI o2 ⟨rfl, rfl, rfl, rfl, fun _ => ⟨rfl, rfl⟩⟩).oI s4 ⟨rfl, rfl, rfl, rfl, fun _ => ⟨rfl, rfl⟩⟩⟩) ((FW_rest r11).tr (mc_rest (((scr_mc su).tr (scr_mc (scr_thr u 0))).tr (chg_I s5 (fun _ _ _ z => z)))))⟩
    unfold fX12_removeText
    rw [gd_t (k_45 mu), lt_t, noText_s mu0 h0 J.2.1 e0, bd_t]
    show (if (0 : Int32) = 0 then _ else _) = _
    rw [if_pos rfl]
    show gd (hK (sI u 12 45 0 0) 45 = 12) (bd (fX12_begins 45 (nI t) (sI u 12 45 0 0)) _) = _
    rw [gd_t (k_45 mu0), g1, bd_t, gd_t (k_45 g3.1), r12_45_4 g3.1, gs_t, gd_t ⟨k_47 g3.1, by rw [n_47 g3.1]; exact inbI ht (by decide)⟩, show (0 : Int32) &&& 1 = 0 by decide, lt_t]
    simp only [ct]
    rw [s1, bd_t, gd_t (k_45 s3), r12_45_6 s3, gs_t, gd_t ⟨k_49 s3, by rw [n_49 s3]; exact inbI ht (by decide)⟩, len]
