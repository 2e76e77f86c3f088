theorem take_l {w1 : PH} (m : MSh w1) {tx : TX} (o : okX tx) (X : MT tx w1) {t : Nat} (ht : t < 100) {ws : List Nat} (q : tx t = some ws) {p : Nat} (hp : p < ws.length) (v3 : Int32) : ∃ w2, onlyI isTw w1 w2 ∧ MT (updX tx t (some (ws.eraseIdx p))) w2 ∧ ∀ r, bd (fX12_tells 45 (nI t) w2) (fun z => some (v3, z)) = some r → fX12_takeWord_l41 45 (nI t) v3 (nI p) (sI w1 20 49 t (nI (ws.length - 1))) = some r := by
  have l40 := (o t ws q).2.1
  have ct : Int32.toNatClampNeg (nI t) = t := nI_clamp (by omega)
  have lp : ∀ f k : Nat, ∀ g : PH, k + f = ws.length - 1 → p ≤ k → onlyI isTw w1 g → (∀ i, hI g 21 47 i = hI w1 21 47 i) → (∀ i, hI g 20 49 i = if i = t then nI (ws.length - 1) else hI w1 20 49 i) → (∀ q, hI g 20 48 q = if 40 * t + p ≤ q ∧ q < 40 * t + k then hI w1 20 48 (q + 1) else hI w1 20 48 q) → ∃ w2, onlyI isTw w1 w2 ∧ MT (updX tx t (some (ws.eraseIdx p))) w2 ∧ ∀ r, bd (fX12_tells 45 (nI t) w2) (fun z => some (v3, z)) = some r → fX12_takeWord_l41 45 (nI t) v3 (nI k) g = some r := by
    intro f
    induction f with
    | zero =>
      intro k g hk hpk og r1 r2 r3
      have hk : k = ws.length - 1 := by omega
      subst hk
      have mg := m.oI og
      refine ⟨g, og, mtake o X ht q hp r1 r2 r3, fun r hr => wh_done ?_⟩
      show fX12_takeWord_c41 45 (nI t) v3 (nI (ws.length - 1)) g = _
      unfold fX12_takeWord_c41
      rw [gd_t (k_45 mg), r12_45_6 mg, gs_t, gd_t ⟨k_49 mg, by rw [n_49 mg]; exact inbI ht (by decide)⟩]
      simp only [ct]
      rw [r2, if_pos rfl, if_pos (Int32.le_refl _), hr, mr_t]
    | succ f ih =>
      intro k g hk hpk og r1 r2 r3
      have mg := m.oI og
      have ck : Int32.toNatClampNeg (nI (40 * t + k)) = 40 * t + k := nI_clamp (by omega)
      have ck1 : Int32.toNatClampNeg (nI (40 * t + k + 1)) = 40 * t + k + 1 := nI_clamp (by omega)
      have e48 : hI g 20 48 (40 * t + k + 1) = hI w1 20 48 (40 * t + k + 1) := by rw [r3, if_neg (by omega)]
      obtain ⟨w2, f1, f2, f3⟩ := ih (k + 1) (sI g 20 48 (40 * t + k) (hI w1 20 48 (40 * t + k + 1))) (by omega) (by omega) (og.tr (onlyI_sI _ _ (tw48 _))) (fun i => (n21 _ _ (by decide)).trans (r1 i)) (fun i => (rdN _ _ (by decide)).trans (r2 i)) (fun s => by
        rw [rdA, r3 s]
        by_cases d : s = 40 * t + k
        · rw [if_pos d, if_pos (by omega), d]
        · rw [if_neg d]
          by_cases z : 40 * t + p ≤ s ∧ s < 40 * t + k
          · rw [if_pos z, if_pos (by omega)]
          · rw [if_neg z, if_neg (by omega)])
      refine ⟨w2, f1, f2, fun r hr => wh_step (t := (nI (k + 1), sI g 20 48 (40 * t + k) (hI w1 20 48 (40 * t + k + 1)))) ?_ (f3 r hr)⟩
      show fX12_takeWord_c41 45 (nI t) v3 (nI k) g = _
      unfold fX12_takeWord_c41
      rw [gd_t (k_45 mg), r12_45_6 mg, gs_t, gd_t ⟨k_49 mg, by rw [n_49 mg]; exact inbI ht (by decide)⟩]
      simp only [ct]
      rw [r2, if_pos rfl, if_neg (nI_ge (by omega) (by omega)), r12_45_5 mg, gs_t, mul40, nI_1, gd_t ⟨k_48 mg, by rw [n_48 mg]; exact inbI (by omega) (by decide)⟩, gd_t (by rw [n_48 mg]; exact inbI (by omega) (by decide)), lt_t]
      simp only [ck, ck1]
      rw [e48, nI_1]
  exact lp (ws.length - 1 - p) p _ (by omega) (Nat.le_refl _) (onlyI_sI _ _ (tw49 _)) (fun i => n21 _ _ (by decide)) (fun i => rdA _ _ _ _ _) (fun s => by rw [if_neg (by omega), rdN _ _ (by decide)])
theorem ls_takeWord {h : PH} {P : PH → Prop} {tx : TX} {bs : List Nat} {er : Int32} {ks : List Nat} {e : Nat} {wa wb : Nat → Nat} {D : Nat → Prop} {kq : Nat → Option (QT 27)} {E : EVT} {R : PST} (I : INV1 tx bs er ks e wa wb D kq E R h) (a1 a2 a3 a4 a5 : Int32) (hP : ∀ h', INVX D kq h' → rest h h' → P h') : LS_7 10 45 87 88 a1 a2 a3 a4 a5 h P := by
  obtain ⟨C, M, T⟩ := id I
  obtain ⟨c, o, B, X, K, Y, V, W, n⟩ := id C
  have b := B.1
  have m := M.1
  have fail : ∀ h', scr h h' → P h' := fun h' s => hP h' (I.scr s).X (mc_rest (scr_mc s))
  show LBody (fX11_takeWord 10 a1 a2 h) (fX12_takeWord 45 a1 a2) (fun c => c = 2) (fun c v => c = 2 ∧ v = some (.int 1)) h P
  have bad : fX11_takeWord 10 a1 a2 h = some (.inr (2, h)) → plX tx a1 a2 = none → LBody (fX11_takeWord 10 a1 a2 h) (fX12_takeWord 45 a1 a2) (fun c => c = 2) (fun c v => c = 2 ∧ v = some (.int 1)) h P := fun f ee => by
    refine lb_exc c m (e := 2) (code := 1) f rfl (fun v hv => hv.2) (by decide) (fun u su => ⟨(0, sI (sI u 12 45 0 0) 12 45 0 1), ?_, (scr_thr u 0).tr (scr_thr _ 1), (hI_sI _ _ _ _ _ _ _ _).trans (if_pos ⟨rfl, rfl, rfl⟩)⟩) fail
    have mu := m.scr su
    have s0 := scr_thr u 0
    unfold fX12_takeWord
    rw [gd_t (k_45 mu), lt_t, noPlace_eq (mu.scr s0) (thr0 u) o ((M.2.1.scr su).scr s0), ee, bd_t]
    exact if_neg (show ¬ (1 : Int32) = 0 by decide)
  rcases demandB c B a1 with ⟨e0, f⟩ | ⟨t, ws, a, b', ht, rfl, q, e0, la, lb, ha, hb, TA, f⟩
  · refine bad ?_ (plX_n e0 a2)
    unfold fX11_takeWord fX11_takeWord_b0
    rw [gd_t (k_10 c), f, bx_r]
  · have ok := (o t ws q).2
    have o40 := ok.1
    have dp := demandPlace_eq TA ok.1 a2
    rcases plI_or ok.1 a2 with ⟨-, e2⟩ | ⟨i, hi, rfl, e2⟩
    · refine bad ?_ (plX_sn e0 e2)
      rw [e2] at dp
      unfold fX11_takeWord fX11_takeWord_b0 fX11_takeWord_b5
      rw [gd_t (k_10 c), f, bx_l]
      show bx (fX11_demandPlace (some a) a2 h) _ = _
      rw [dp, bx_r]
    · rw [e2] at dp
      have pl2 : plX tx (nI t) (nI i) = some ((nI t).toNatClampNeg, ws, i) := plX_ss e0 e2
      obtain ⟨h0, n1, n2⟩ := withTaken_eq TA ha hb ok.1 (p := i) hi
      have N : TxA h0 (some (hX h)) (some (ws.eraseIdx i)) := n2.fin (ok.erase i) b rfl
      obtain ⟨ks', e', wa', wb', h1, r1, C1, I1, r11, r12, r13⟩ := class_half (C.nc n2.1) (M.nc b n2.1) ht N
      have b0 : 89 ≤ hX h0 := Nat.le_trans b n2.1.1
      have T1 : TP bs er h1 := (T.nc b n2.1).W b0 r11
      have TA1 := (TA.nc ha hb n2.1).W (Nat.lt_of_lt_of_le ha n2.1.1) (Nat.lt_of_lt_of_le hb n2.1.1) la lb r11
      have x2 := n2.2.1
      have v2 := n2.2.2.1
      have ct : Int32.toNatClampNeg (nI t) = t := nI_clamp (by omega)
      have c0 := (C.nc n2.1).1
      have fc : fX11_takeWord 10 (nI t) (nI i) h = some (.inl (nI (ws.getD i 0), h1)) := by
        unfold fX11_takeWord fX11_takeWord_b0 fX11_takeWord_b5 fX11_takeWord_b11 fX11_takeWord_b18 fX11_takeWord_b21
        rw [gd_t (k_10 c), f, bx_l]
        show bx (fX11_demandPlace (some a) (nI i) h) _ = _
        rw [dp, bx_l]
        show gs (some a) _ = _
        rw [gs_t, gd_t TA.1, n1, bd_t]
        show gd (hK h0 10 = 11) (bd (fX11_change 10 (nI t) (some (hX h)) h0) _) = _
        rw [gd_t (k_10 c0), r1, bd_t, gs_t, gd_t TA1.1, X8_at_eq TA1 ok hi, bd_t]
      refine lb_gen c fc C1.1 (by omega) (by omega) (fun u su _ => ?_)
      have mu := I1.1.scr su
      have mu0 := mu.scr (scr_thr u 0)
      obtain ⟨J, KMg, Cg, h0'⟩ := ref_start I1 C1 su
      obtain ⟨w1, g1, g2, g3, g4, g5⟩ := begins_eq J o KMg W.1 ht
      obtain ⟨w2, o2, X2, tk⟩ := take_l g3.1 o g3.2.1 ht q hi (nI (ws.getD i 0))
      obtain ⟨w3, s1, s2, s3, s4, s5, s6, s7⟩ := change_end Cg g3 g4 g5 V.1 ht (g2.mono (fun _ _ _ => bg_mc)) o2 X2
      obtain ⟨p1, p2, p3⟩ := fin_P hP T1 ((nc_rest n2.1).tr (FW_rest r11)) su g2 o2 s4 s6 s7
      refine ⟨w3, k_45 mu, ?_, s6.1, s3, p1, p2, p3⟩
      have pm : nI ws.length - 1 = nI (ws.length - 1) := by rw [show (1 : Int32) = nI 1 from rfl, pk_sub (by omega)]
      unfold fX12_takeWord
      rw [gd_t (k_45 mu), lt_t, noPlace_eq mu0 h0' o J.2.1, pl2, bd_t]
      show (if (0 : Int32) = 0 then gd (hK (sI u 12 45 0 0) 45 = 12) (bd (fX12_wordIn 45 (nI t) (nI i) (sI u 12 45 0 0)) _) else _) = _
      rw [if_pos rfl, gd_t (k_45 mu0), wordIn_eq mu0 ht (by omega), bd_t, g1, bd_t, gd_t (k_45 g3.1), r12_45_6 g3.1, gs_t, gd_t ⟨k_49 g3.1, by rw [n_49 g3.1]; exact inbI ht (by decide)⟩, gd_t (by rw [n_49 g3.1]; exact inbI ht (by decide)), lt_t]
      simp only [ct]
      rw [(g3.2.1.s ht q).2.1, pm, (J.2.1.s ht q).2.2 i hi]
      exact tk _ (by rw [s1, bd_t])
