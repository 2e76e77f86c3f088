/-! SETTING AND TAKING A WORD -/
theorem class_half {tx : TX} {ks : List Nat} {e : Nat} {wa wb : Nat → Nat} {D : Nat → Prop} {kq : Nat → Option (QT 27)} {E : EVT} {R : PST} {h : PH} (C : CI tx ks e wa wb D kq E R h) (M : MI tx E R h) {t : Nat} (ht : t < 100) {y : Option Nat} {now : Option (List Nat)} (N : TxA h y now) : ∃ ks' e' wa' wb' h1, fX11_change 10 (nI t) y h = some h1 ∧ CI (updX tx t now) ks' e' wa' wb' D kq (evF (kb tx kq t) (kb (updX tx t now) kq t) (nI t) E 6) (pushR R t (tx t)) h1 ∧ MI tx E R h1 ∧ chg FW (GW e) LW h h1 ∧ hX h1 ≤ hX h + 120 ∧ hV h1 ≤ hV h + 8500 := by
  obtain ⟨c, o, B, X, K, Y, V, W, n⟩ := id C
  obtain ⟨ks', e', wa', wb', h1, r1, r2, r3, r4, r5, r6, r7, r8, r9, r10, r11, r12, r13⟩ := change_eq c o B X K Y V W n ht N
  exact ⟨ks', e', wa', wb', h1, r1, ⟨r2, r3, r4, r5, r6, r7, r8, r9, r10⟩, M.C B.1 r11 (fun c a k z => Or.inl (by have := FW_34 z; omega)) (fun _ _ _ z => GW_c z), r11, r12, r13⟩
theorem CI.nc {tx : TX} {ks : List Nat} {e : Nat} {wa wb : Nat → Nat} {D : Nat → Prop} {kq : Nat → Option (QT 27)} {E : EVT} {R : PST} {h h' : PH} (C : CI tx ks e wa wb D kq E R h) (x : nc h h') : CI tx ks e wa wb D kq E R h' := C.M (x.mono (fun _ _ _ _ z => z.elim) (fun _ _ _ _ z => z) (fun _ _ z => z.elim))
theorem MI.nc {tx : TX} {E : EVT} {R : PST} {h h' : PH} (I : MI tx E R h) (b : 89 ≤ hX h) (x : nc h h') : MI tx E R h' := I.C b x (fun _ _ _ z => z.elim) (fun _ _ _ z => z.elim)
theorem TP.nc {bs : List Nat} {er : Int32} {h h' : PH} (T : TP bs er h) (b : 89 ≤ hX h) (x : nc h h') : TP bs er h' := T.chg b x ⟨fun z => z, fun z => z, fun z => z, fun z => z, fun _ => ⟨fun z => z, fun z => z⟩⟩
theorem nc_rest {h h' : PH} (x : nc h h') : rest h h' := x.mono (fun _ _ _ _ z => z.elim) (fun _ _ _ _ z => z.elim) (fun _ _ z => z.elim)
theorem fin_P {h h1 u w1 w2 w3 : PH} {P : PH → Prop} {D : Nat → Prop} {kq : Nat → Option (QT 27)} (hP : ∀ h', INVX D kq h' → rest h h' → P h') {tx : TX} {bs : List Nat} {er : Int32} {ks : List Nat} {e : Nat} {wa wb : Nat → Nat} {E : EVT} {R : PST} (T1 : TP bs er h1) (rx : rest h h1) (su : scr h1 u) (o1 : onlyI isBg (sI u 12 45 0 0) w1) (o2 : onlyI isTw w1 w2) (s4 : onlyI isTe w2 w3) (s6 : CI tx ks e wa wb D kq E R w3) (s7 : MI tx E R w3) : hI w3 12 45 0 = 0 ∧ hL w3 23 87 0 = hL u 23 87 0 ∧ P w3 := by
  have s5 : onlyI isMc (sI u 12 45 0 0) w3 := ((o1.mono (fun _ _ _ => bg_mc)).tr (o2.mono (fun _ _ _ => tw_mc))).tr (s4.mono (fun _ _ _ => te_mc))
  exact ⟨(s4.1 12 45 0 rfl).trans ((o2.1 12 45 0 rfl).trans ((o1.1 12 45 0 rfl).trans (thr0 u))), by rw [hL_oI s5]; rfl, hP w3 (INV1.X ⟨s6, s7, ((((T1.scr su).scr (scr_thr u 0)).oI o1 ⟨rfl, rfl, rfl, rfl, fun _ => ⟨rfl, rfl⟩⟩).oI o2 ⟨rfl, rfl, rfl, rfl, fun _ => ⟨rfl, rfl⟩⟩).oI s4 ⟨rfl, rfl, rfl, rfl, fun _ => ⟨rfl, rfl⟩⟩⟩) (rx.tr (mc_rest (((scr_mc su).tr (scr_mc (scr_thr u 0))).tr (chg_I s5 (fun _ _ _ z => z)))))⟩
theorem okT.set {ws : List Nat} (o : okT ws) {p w : Nat} (hw : vword w = true) : okT (ws.set p w) := ⟨by rw [List.length_set]; exact o.1, fun v hv => by
  rcases List.mem_or_eq_of_mem_set hv with z | z
  · exact o.2 v z
  · rw [z]; exact hw⟩
theorem okT.erase {ws : List Nat} (o : okT ws) (p : Nat) : okT (ws.eraseIdx p) := ⟨Nat.le_trans (List.length_eraseIdx_le _ _) o.1, fun v hv => o.2 v (List.mem_of_mem_eraseIdx hv)⟩
theorem okT.ins {ws : List Nat} (o : okT ws) {p w : Nat} (hl : ws.length < 40) (hp : p ≤ ws.length) (hw : vword w = true) : okT (insAt ws p w) := ⟨by rw [insAt_len hp]; exact hl, fun v hv => by
  rcases mem_ins hv with z | z
  · rw [z]; exact hw
  · exact o.2 v z⟩
theorem ls_setWord {h : PH} {P : PH → Prop} {tx : TX} {bs : List Nat} {er : Int32} {ks : List Nat} {e : Nat} {wa wb : Nat → Nat} {D : Nat → Prop} {kq : Nat → Option (QT 27)} {E : EVT} {R : PST} (I : INV1 tx bs er ks e wa wb D kq E R h) (a1 a2 a3 a4 a5 : Int32) (hP : ∀ h', INVX D kq h' → rest h h' → P h') : LS_8 10 45 87 88 a1 a2 a3 a4 a5 h P := by
  obtain ⟨C, M, T⟩ := id I
  obtain ⟨c, o, B, X, K, Y, V, W, n⟩ := id C
  have b := B.1
  have m := M.1
  have fail : ∀ h', scr h h' → P h' := fun h' s => hP h' (I.scr s).X (mc_rest (scr_mc s))
  show LBody (fX11_setWord 10 a1 a2 a3 h) (fX12_setWord 45 a1 a2 a3) (fun c => c = 2 ∨ c = 1) (fun c v => (c = 2 ∧ v = some (.int 1)) ∨ (c = 1 ∧ v = some (.int 2))) h P
  have bad : fX11_setWord 10 a1 a2 a3 h = some (.inr (2, h)) → plX tx a1 a2 = none → LBody (fX11_setWord 10 a1 a2 a3 h) (fX12_setWord 45 a1 a2 a3) (fun c => c = 2 ∨ c = 1) (fun c v => (c = 2 ∧ v = some (.int 1)) ∨ (c = 1 ∧ v = some (.int 2))) h P := fun f ee => by
    refine lb_exc c m (e := 2) (code := 1) f (Or.inl rfl) (fun v hv => by
      rcases hv with hv | hv
      · exact hv.2
      · exact absurd hv.1 (by decide)) (by decide) (fun u su => ⟨(0, sI (sI u 12 45 0 0) 12 45 0 1), ?_, (scr_thr u 0).tr (scr_thr _ 1), (hI_sI _ _ _ _ _ _ _ _).trans (if_pos ⟨rfl, rfl, rfl⟩)⟩) fail
    have mu := m.scr su
    have s0 := scr_thr u 0
    unfold fX12_setWord fX12_setWord_b26
    rw [gd_t (k_45 mu), lt_t, noPlace_eq (mu.scr s0) (thr0 u) o ((M.2.1.scr su).scr s0), ee, bd_t]
    exact if_pos (show ¬ (1 : Int32) = 0 by decide)
  rcases demandB c B a1 with ⟨e0, f⟩ | ⟨t, ws, a, b', ht, rfl, q, e0, la, lb, ha, hb, TA, f⟩
  · refine bad ?_ (plX_n e0 a2)
    unfold fX11_setWord fX11_setWord_b0
    rw [gd_t (k_10 c), f, bx_r]
  · have ok := (o t ws q).2
    have dp := demandPlace_eq TA ok.1 a2
    rcases plI_or ok.1 a2 with ⟨-, e2⟩ | ⟨i, hi, rfl, e2⟩
    · refine bad ?_ (plX_sn e0 e2)
      rw [e2] at dp
      unfold fX11_setWord fX11_setWord_b0 fX11_setWord_b5
      rw [gd_t (k_10 c), f, bx_l]
      show bx (fX11_demandPlace (some a) a2 h) _ = _
      rw [dp, bx_r]
    · rw [e2] at dp
      have pl2 : plX tx (nI t) (nI i) = some ((nI t).toNatClampNeg, ws, i) := plX_ss e0 e2
      rcases word_or a3 with vw | ⟨w, vw, rfl, vw2'⟩
      · refine lb_exc c m (e := 1) (code := 2) ?_ (Or.inr rfl) (fun v hv => by
          rcases hv with hv | hv
          · exact absurd hv.1 (by decide)
          · exact hv.2) (by decide) (fun u su => ⟨(0, sI (sI u 12 45 0 0) 12 45 0 2), ?_, (scr_thr u 0).tr (scr_thr _ 2), (hI_sI _ _ _ _ _ _ _ _).trans (if_pos ⟨rfl, rfl, rfl⟩)⟩) fail
        · unfold fX11_setWord fX11_setWord_b0 fX11_setWord_b5 fX11_setWord_b13
          rw [gd_t (k_10 c), f, bx_l]
          show bx (fX11_demandPlace (some a) (nI i) h) _ = _
          rw [dp, bx_l, demandWord_n vw, bx_r]
        · have mu := m.scr su
          have s0 := scr_thr u 0
          have mu0 := mu.scr s0
          unfold fX12_setWord fX12_setWord_b26
          rw [gd_t (k_45 mu), lt_t, noPlace_eq mu0 (thr0 u) o ((M.2.1.scr su).scr s0), pl2, bd_t]
          show (if ¬ (0 : Int32) = 0 then _ else _) = _
          rw [if_neg (fun z => z rfl), isWord_eq, vw, bd_t]
          show gd (hK (sI u 12 45 0 0) 45 = 12) (bd (fX12_fails 45 (bI false) 2 (sI u 12 45 0 0)) _) = _
          rw [gd_t (k_45 mu0), fails_b mu0 (thr0 u) (by decide), bd_t]
          exact if_neg (show ¬ (1 : Int32) = 0 by decide)
      · obtain ⟨h0, n1, n2⟩ := withSet_eq TA ha hb ok.1 (p := i) (w := w) hi
        have N : TxA h0 (some (hX h)) (some (ws.set i w)) := n2.fin (ok.set vw) b rfl
        obtain ⟨ks', e', wa', wb', h1, r1, C1, I1, r11, r12, r13⟩ := class_half (C.nc n2.1) (M.nc b n2.1) ht N
        have b0 : 89 ≤ hX h0 := Nat.le_trans b n2.1.1
        have T1 : TP bs er h1 := (T.nc b n2.1).W b0 r11
        have TA1 := (TA.nc ha hb n2.1).W (Nat.lt_of_lt_of_le ha n2.1.1) (Nat.lt_of_lt_of_le hb n2.1.1) la lb r11
        have x2 := n2.2.1
        have v2 := n2.2.2.1
        have ct : Int32.toNatClampNeg (nI t) = t := nI_clamp (by omega)
        have c0 := (C.nc n2.1).1
        have fc : fX11_setWord 10 (nI t) (nI i) (nI w) h = some (.inl (nI (ws.getD i 0), h1)) := by
          unfold fX11_setWord fX11_setWord_b0 fX11_setWord_b5 fX11_setWord_b13 fX11_setWord_b17 fX11_setWord_b26 fX11_setWord_b29
          rw [gd_t (k_10 c), f, bx_l]
          show bx (fX11_demandPlace (some a) (nI i) h) _ = _
          rw [dp, bx_l, demandWord_s vw2', bx_l]
          show gs (some a) _ = _
          rw [gs_t, gd_t TA.1, n1, bd_t]
          show gd (hK h0 10 = 11) (bd (fX11_change 10 (nI t) (some (hX h)) h0) _) = _
          rw [gd_t (k_10 c0), r1, bd_t, gs_t, gd_t TA1.1, X8_at_eq TA1 ok hi, bd_t]
        refine lb_gen c fc C1.1 (by omega) (by omega) (fun u su _ => ?_)
        have mu := I1.1.scr su
        have mu0 := mu.scr (scr_thr u 0)
        obtain ⟨J, KMg, Cg, h0'⟩ := ref_start I1 C1 su
        obtain ⟨w1, g1, g2, g3, g4, g5⟩ := begins_eq J o KMg W.1 ht
        obtain ⟨o2, X2⟩ := mset (w := w) o g3.2.1 ht q hi
        obtain ⟨w3, s1, s2, s3, s4, s5, s6, s7⟩ := change_end Cg g3 g4 g5 V.1 ht (g2.mono (fun _ _ _ => bg_mc)) o2 X2
        obtain ⟨p1, p2, p3⟩ := fin_P hP T1 ((nc_rest n2.1).tr (FW_rest r11)) su g2 o2 s4 s6 s7
        have ck : Int32.toNatClampNeg (nI (40 * t + i)) = 40 * t + i := nI_clamp (by have := ok.1; omega)
        have o40 := ok.1
        refine ⟨w3, k_45 mu, ?_, s6.1, s3, p1, p2, p3⟩
        unfold fX12_setWord
        rw [gd_t (k_45 mu), lt_t, noPlace_eq mu0 h0' o J.2.1, pl2, bd_t]
        show (if ¬ (0 : Int32) = 0 then _ else _) = _
        rw [if_neg (fun z => z rfl), isWord_eq, vw2', bd_t]
        show gd (hK (sI u 12 45 0 0) 45 = 12) (bd (fX12_fails 45 (bI true) 2 (sI u 12 45 0 0)) _) = _
        rw [gd_t (k_45 mu0), show bI true = (1 : Int32) from rfl, fails_t mu0 h0', bd_t]
        show (if (0 : Int32) = 0 then gd (hK (sI u 12 45 0 0) 45 = 12) (bd (fX12_wordIn 45 (nI t) (nI i) (sI u 12 45 0 0)) _) else _) = _
        rw [if_pos rfl, gd_t (k_45 mu0), wordIn_eq mu0 ht (by omega), bd_t, g1, bd_t, gd_t (k_45 g3.1), r12_45_5 g3.1, gs_t, mul40, gd_t ⟨k_48 g3.1, by rw [n_48 g3.1]; exact inbI (by omega) (by decide)⟩, lt_t]
        simp only [ck]
        rw [s1, bd_t, (J.2.1.s ht q).2.2 i hi]
