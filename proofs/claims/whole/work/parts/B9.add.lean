/-! ADDING AND REPLACING A TEXT -/
theorem CI.F {F : Nat → Nat → Nat → Prop} {tx : TX} {ks : List Nat} {e : Nat} {wa wb : Nat → Nat} {D : Nat → Prop} {kq : Nat → Option (QT 27)} {E : EVT} {R : PST} {h h' : PH} (C : CI tx ks e wa wb D kq E R h) (x : chg F GX (fun _ => False) h h') (f : ∀ c a k, F c a k → c = 7 ∧ a = 11) : CI tx ks e wa wb D kq E R h' := by
  obtain ⟨c, o, B, X, K, Y, V, W, n⟩ := C
  have b := B.1
  have n8 : ∀ c a k, a ≠ 11 → ¬ F c a k := fun c a k ha z => ha (f c a k z).2
  exact ⟨c.chg b x (fun _ _ z => z), o, B.chg x (fun _ z => z) (fun _ _ z => z) (fun a ha => n8 _ _ _ (by omega)) (fun b k hb => n8 _ _ _ (by omega)), X.chg b x (n8 _ _ _ (by decide)) (fun a k ha => n8 _ _ _ (by omega)) (fun z => z) (fun _ z => z) (fun _ _ z => z) (fun _ _ z => z), K.chg b x (fun c y k dy => n8 _ _ _ (by have := (K.1 y dy).1; omega)) (fun _ _ _ _ z => z) (fun _ _ z => z) (fun a k h1 _ _ => n8 _ _ _ (by omega)) (fun k _ => n8 _ _ _ (by decide)) (fun p _ => ⟨n8 _ _ _ (by decide), n8 _ _ _ (by decide)⟩), Y.chg b x (fun _ _ z => z), V.chg b x (fun c a k q => n8 _ _ _ (by have := ec_lt q; omega)), W.chg b x ⟨n8 _ _ _ (by decide), n8 _ _ _ (by decide)⟩ (fun k => n8 _ _ _ (by decide)) (fun _ z => z) (fun a ha => n8 _ _ _ (by omega)) (fun _ _ z => z) (fun b k hb => n8 _ _ _ (by omega)), n⟩
theorem FT_7 : ∀ c a k, FT c a k → c = 7 ∧ a = 11 := fun _ _ _ z => ⟨z.1, z.2.1⟩
theorem FT_rest {h h' : PH} (x : chg FT GX (fun _ => False) h h') : rest h h' := x.mono (fun c a k _ z => by have := z.2.1; exact ⟨by omega, out_34 (by omega)⟩) (fun _ _ _ _ z => z.elim) (fun _ _ z => z.elim)
theorem MI.oI {F : Nat → Nat → Nat → Bool} {tx : TX} {E : EVT} {R : PST} {h h' : PH} (I : MI tx E R h) (s : onlyI F h h') (f : F 12 45 18 = false ∧ F 12 45 14 = false ∧ ∀ i, F 21 47 i = false ∧ F 20 49 i = false ∧ F 20 48 i = false ∧ F 20 56 i = false ∧ F 20 57 i = false ∧ F 20 58 i = false ∧ F 20 51 i = false ∧ F 20 52 i = false ∧ F 20 53 i = false ∧ F 21 54 i = false) : MI tx E R h' := ⟨I.1.oI s, I.2.1.oI s (fun i => ⟨(f.2.2 i).1, (f.2.2 i).2.1, (f.2.2 i).2.2.1⟩), I.2.2.1.oI s ⟨f.1, fun i => ⟨(f.2.2 i).2.2.2.1, (f.2.2 i).2.2.2.2.1, (f.2.2 i).2.2.2.2.2.1⟩⟩, I.2.2.2.oI s ⟨f.2.1, fun i => ⟨(f.2.2 i).2.2.2.2.2.2.1, (f.2.2 i).2.2.2.2.2.2.2.1, (f.2.2 i).2.2.2.2.2.2.2.2.1, (f.2.2 i).2.2.2.2.2.2.2.2.2⟩⟩⟩
theorem okB_nil : okB [] := fun b hb => absurd hb List.not_mem_nil
/-- the tape holds no text: both sides stop, the tape is empty -/
theorem read_bad {h h0 u : PH} {P : PH → Prop} {D : Nat → Prop} {kq : Nat → Option (QT 27)} (hP : ∀ h', INVX D kq h' → rest h h' → P h') {tx : TX} {bs : List Nat} {ks : List Nat} {e : Nat} {wa wb : Nat → Nat} {E : EVT} {R : PST} (C0 : CI tx ks e wa wb D kq E R h0) (I0 : MI tx E R h0) (T2 : TM bs h0) (ok : okB bs) (l3 : bs.length ≤ 300) (x0 : rest h h0) (e1 : hI h0 7 11 1 = 0) (e2 : hI h0 7 11 2 = rdV (rdT bs 0 0 0 [])) {p : Nat} (ep : rdT bs 0 0 0 [] = .inl p) (su : scr h0 u) : ∃ w, fX12_readsText 45 (sI u 12 45 0 0) = some (0, w) ∧ MSh w ∧ hI w 12 45 0 = 0 ∧ P (sI w 12 45 0 2) := by
  obtain ⟨J, KMg, Cg, h0'⟩ := ref_start I0 C0 su
  have Tg : TM bs (sI u 12 45 0 0) := (T2.scr su).scr (scr_thr u 0)
  obtain ⟨w, f1, f2, f3, f4⟩ := readsText_eq J.1 Tg ok l3
  have o1 : onlyI (fun c a k => c == 12 && a == 45 && k == 0) w (sI w 12 45 0 2) := onlyI_sI _ _ rfl
  have oM : onlyI isMc (sI u 12 45 0 0) (sI w 12 45 0 2) := (f2.mono (fun _ _ _ => rd_mc)).tr (onlyI_sI _ _ rfl)
  have Iw : MI tx E R w := J.oI f2 ⟨rfl, rfl, fun _ => ⟨rfl, rfl, rfl, rfl, rfl, rfl, rfl, rfl, rfl, rfl⟩⟩
  rw [ep] at f1 f4 e2
  refine ⟨w, f1, J.1.oI f2, (f2.1 12 45 0 rfl).trans h0', hP _ (INV1.X (bs := []) (er := nI p) ⟨Cg.M (chg_I oM (fun _ _ _ z => z)), Iw.oI o1 ⟨rfl, rfl, fun _ => ⟨rfl, rfl, rfl, rfl, rfl, rfl, rfl, rfl, rfl, rfl⟩⟩, TC_0 ((oM.1 7 11 1 rfl).trans (((su.tr (scr_thr u 0)).1 7 11 1 rfl).trans e1)), TM_0 ((o1.1 12 45 2 rfl).trans f3), okB_nil, Nat.zero_le _, (oM.1 7 11 2 rfl).trans (((su.tr (scr_thr u 0)).1 7 11 2 rfl).trans e2), (o1.1 12 45 3 rfl).trans f4.1⟩) (x0.tr (mc_rest (((scr_mc su).tr (scr_mc (scr_thr u 0))).tr (chg_I oM (fun _ _ _ z => z)))))⟩
/-- the tape holds a text -/
theorem read_good {h h0 h1 u : PH} {P : PH → Prop} {D : Nat → Prop} {kq : Nat → Option (QT 27)} (hP : ∀ h', INVX D kq h' → rest h h' → P h') {tx : TX} {bs : List Nat} {ks : List Nat} {e : Nat} {wa wb : Nat → Nat} {E : EVT} {R : PST} {t : Nat} {ws : List Nat} {ge : Nat} (ht : t < 100) (o : okX tx) (hE : E.1 ≤ 100) (hR0 : R.1 ≤ 20) (C1 : CI (updX tx t (some ws)) ks e wa wb D kq (evF (kb tx kq t) (kb (updX tx t (some ws)) kq t) (nI t) E 6) (pushR R t (tx t)) h1) (I1 : MI tx E R h1) (b0 : 89 ≤ hX h0) (T2 : TM bs h0) (ok : okB bs) (l3 : bs.length ≤ 300) (x0 : rest h h0) (x1 : chg FW (GW ge) LW h0 h1) (e1 : hI h0 7 11 1 = 0) (e2 : hI h0 7 11 2 = rdV (rdT bs 0 0 0 [])) (ew : rdT bs 0 0 0 [] = .inr ws) (l40 : ws.length ≤ 40) (su : scr h1 u) : ∃ w1 w2 w3 w4, fX12_readsText 45 (sI u 12 45 0 0) = some (1, w1) ∧ MSh w1 ∧ hI w1 12 45 0 = 0 ∧ (∀ i, hI w1 20 49 i = hI u 20 49 i) ∧ fX12_begins 45 (nI t) w1 = some w2 ∧ MSh w2 ∧ fX12_takesRead 45 (nI t) w2 = some w3 ∧ MSh w3 ∧ fX12_tells 45 (nI t) w3 = some w4 ∧ CSh w4 ∧ MSh w4 ∧ hI w4 12 45 0 = 0 ∧ hL w4 23 87 0 = hL u 23 87 0 ∧ P w4 := by
  obtain ⟨J, KMg, Cg, h0'⟩ := ref_start I1 C1 su
  have T1 : TM bs h1 := ⟨(x1.2.1 12 45 2 (by omega) (fun z => by have := FW_34 z; omega)).trans T2.1, fun i hi => (x1.2.1 20 46 i (by omega) (fun z => by have := FW_34 z; omega)).trans (T2.2 i hi)⟩
  have Tg : TM bs (sI u 12 45 0 0) := (T1.scr su).scr (scr_thr u 0)
  obtain ⟨w1, f1, f2, f3, f4⟩ := readsText_eq J.1 Tg ok l3
  rw [ew] at f1 f4 e2
  have Iw : MI tx E R w1 := J.oI f2 ⟨rfl, rfl, fun _ => ⟨rfl, rfl, rfl, rfl, rfl, rfl, rfl, rfl, rfl, rfl⟩⟩
  have r60 : ∀ a k, 60 ≤ a → a ≤ 69 → isRd 20 a k = false := fun a k h1 h2 => by
    have e : (a == 50) = false := by simp; omega
    simp [isRd, e]
  obtain ⟨w2, g1, g2, g3, g4, g5⟩ := begins_eq Iw o (KMg.oI f2 r60) hR0 ht
  obtain ⟨w3, k1, k2, k3⟩ := takesRead_eq g3.1 o g3.2.1 ht l40 ((g2.1 12 45 8 rfl).trans f4.2.1) (fun i hi => (g2.1 20 50 i rfl).trans (f4.2.2 i hi))
  have oa : onlyI isMc (sI u 12 45 0 0) w2 := (f2.mono (fun _ _ _ => rd_mc)).tr (g2.mono (fun _ _ _ => bg_mc))
  obtain ⟨w4, s1, s2, s3, s4, s5, s6, s7⟩ := change_end Cg g3 g4 g5 hE ht oa k2 k3
  have n11 : ∀ k, ¬ FW 7 11 k := fun k z => by
    rcases z with z | z | z
    · have := z.2.1; omega
    · have := ec_lt z; omega
    · rcases z with z | z <;> omega
  have cls : ∀ k, k ≠ 0 → hI w4 7 11 k = hI h0 7 11 k := fun k hk => (s5.1 7 11 k (by
    cases q : isMc 7 11 k with
    | false => rfl
    | true => rcases mc_r q with z | z
              · omega
              · cases z)).trans (((su.tr (scr_thr u 0)).1 7 11 k rfl).trans (x1.2.1 7 11 k (by omega) (n11 k)))
  refine ⟨w1, w2, w3, w4, f1, Iw.1, (f2.1 12 45 0 rfl).trans h0', fun i => (f2.1 20 49 i rfl).trans (n20 _ _ (by decide)), g1, g3.1, k1, s2, s1, s6.1, s3, (s4.1 12 45 0 rfl).trans ((k2.1 12 45 0 rfl).trans ((g2.1 12 45 0 rfl).trans ((f2.1 12 45 0 rfl).trans h0'))), by rw [hL_oI s5]; rfl, hP w4 (INV1.X (bs := []) (er := -1) ⟨s6, s7, TC_0 ((cls 1 (by decide)).trans e1), TM_0 ((s4.1 12 45 2 rfl).trans ((k2.1 12 45 2 rfl).trans ((g2.1 12 45 2 rfl).trans f3))), okB_nil, Nat.zero_le _, (cls 2 (by decide)).trans e2, (s4.1 12 45 3 rfl).trans ((k2.1 12 45 3 rfl).trans ((g2.1 12 45 3 rfl).trans f4.1))⟩) ((x0.tr (FW_rest x1)).tr (mc_rest (((scr_mc su).tr (scr_mc (scr_thr u 0))).tr (chg_I s5 (fun _ _ _ z => z)))))⟩
theorem ls_replaceText {h : PH} {P : PH → Prop} {tx : TX} {bs : List Nat} {er : Int32} {ks : List Nat} {e : Nat} {wa wb : Nat → Nat} {D : Nat → Prop} {kq : Nat → Option (QT 27)} {E : EVT} {R : PST} (I : INV1 tx bs er ks e wa wb D kq E R h) (a1 a2 a3 a4 a5 : Int32) (hP : ∀ h', INVX D kq h' → rest h h' → P h') : LS_4 10 45 87 88 a1 a2 a3 a4 a5 h P := by
  obtain ⟨C, M, T⟩ := id I
  obtain ⟨c, o, B, X, K, Y, V, W, n⟩ := id C
  have b := B.1
  have m := M.1
  have fail : ∀ h', scr h h' → P h' := fun h' s => hP h' (I.scr s).X (mc_rest (scr_mc s))
  have hvv : ∀ v, ((2 = 2 ∧ v = some (Value.int 1)) ∨ (2 = 1 ∧ v = some (Value.int 2))) → v = some (Value.int 1) := fun v hv => by
    rcases hv with hv | hv
    · exact hv.2
    · exact absurd hv.1 (by decide)
  show LBody (fX11_replaceText 10 a1 h) (fX12_replaceText 45 a1) (fun c => c = 2 ∨ c = 1) (fun c v => (c = 2 ∧ v = some (.int 1)) ∨ (c = 1 ∧ v = some (.int 2))) h P
  rcases demandB c B a1 with ⟨e0, f⟩ | ⟨t, ws, a, b', ht, rfl, q, e0, la, lb, ha, hb, TA, f⟩
  · refine lb_exc c m (e := 2) (code := 1) ?_ (Or.inl rfl) hvv (by decide) (fun u su => ⟨(0, sI (sI u 12 45 0 0) 12 45 0 1), ?_, (scr_thr u 0).tr (scr_thr _ 1), (hI_sI _ _ _ _ _ _ _ _).trans (if_pos ⟨rfl, rfl, rfl⟩)⟩) fail
    · unfold fX11_replaceText fX11_replaceText_b0
      rw [gd_t (k_10 c), f, bx_r]
    · have mu := m.scr su
      have s0 := scr_thr u 0
      unfold fX12_replaceText fX12_replaceText_b25
      rw [gd_t (k_45 mu), lt_t, noText_n (mu.scr s0) (thr0 u) ((M.2.1.scr su).scr s0) e0, bd_t]
      exact if_pos (show ¬ (1 : Int32) = 0 by decide)
  · obtain ⟨T1, T2, ok, l3, -, -⟩ := T
    have okw := (o t ws q).2
    have ct : Int32.toNatClampNeg (nI t) = t := nI_clamp (by omega)
    obtain ⟨x, h0, r1, x0, hx, hv, e1, e2, r⟩ := takeText_eq c b T1 ok l3
    have b0 : 89 ≤ hX h0 := by omega
    have C0 := C.F x0 FT_7
    have c0 := C0.1
    have I0 : MI tx E R h0 := M.C b x0 (fun c a k z => Or.inl (by have := z.2.1; omega)) (fun _ _ _ z => z.elim)
    have T20 : TM bs h0 := ⟨(x0.2.1 12 45 2 (by omega) (fun z => by have := z.1; omega)).trans T2.1, fun i hi => (x0.2.1 20 46 i (by omega) (fun z => by have := z.1; omega)).trans (T2.2 i hi)⟩
    have TA0 : TextAt h0 a b' ws := TA.chg ha hb x0 (fun z => by have := z.1; omega) (fun z => z) (fun k z => by have := z.1; omega)
    -- the class as far as the reading
    have cl : fX11_replaceText 10 (nI t) h = fX11_replaceText_b13 10 (nI t) (some a) x h0 := by
      unfold fX11_replaceText fX11_replaceText_b0 fX11_replaceText_b5
      rw [gd_t (k_10 c), f, bx_l]
      show gd (hK h 10 = 11) (gs (hR h 11 10 0) (fun a5 => gd (hK h a5 = 7) (bd (fX7_takeText a5 h) _))) = _
      rw [gd_t (k_10 c), r11_10_0 c, gs_t, gd_t (k_11 c), r1, bd_t]
    -- the reference as far as the reading
    have rl : ∀ u, MSh u → MT tx u → fX12_replaceText 45 (nI t) u = bd (fX12_readsText 45 (sI u 12 45 0 0)) (fun z5 =>
  gd (hK z5.2 45 = 12) (bd (fX12_fails 45 z5.1 (2 : Int32) z5.2) (fun z7 =>
  if (z7.1 = 0) then (gd (hK z7.2 45 = 12) (gs (hR z7.2 12 45 6) (fun a9 =>
  gd (hK z7.2 a9 = 20 ∧ inb (nI t) (hN z7.2 a9)) (bd (fX12_begins 45 (nI t) z7.2) (fun z13 =>
  gd (hK z13 45 = 12) (bd (fX12_takesRead 45 (nI t) z13) (fun z15 =>
  gd (hK z15 45 = 12) (bd (fX12_tells 45 (nI t) z15) (fun z17 =>
  some (((hI z7.2 20 a9 (Int32.toNatClampNeg (nI t))), z17))))))))))) else
  fX12_replaceText_b25  z7.2))) := fun u mu Xu => by
      have s0 := scr_thr u 0
      unfold fX12_replaceText
      rw [gd_t (k_45 mu), lt_t, noText_s (mu.scr s0) (thr0 u) (Xu.scr s0) e0, bd_t]
      show (if ¬ (0 : Int32) = 0 then _ else gd (hK (sI u 12 45 0 0) 45 = 12) _) = _
      rw [if_neg (fun z => z rfl), gd_t (k_45 (mu.scr s0))]
    cases ew : rdT bs 0 0 0 [] with
    | inl p =>
      rw [ew] at r
      obtain ⟨rfl, hp⟩ := r
      refine lb_genx (h1 := h0) c (e := 1) (code := 2) ?_ (Or.inr rfl) (fun v hv => by
        rcases hv with hv | hv
        · exact absurd hv.1 (by decide)
        · exact hv.2) (by decide) (by omega) (by omega) (fun u su => ?_)
      · rw [cl]; rfl
      · obtain ⟨w, q1, q2, q3, q4⟩ := read_bad hP C0 I0 T20 ok l3 (FT_rest x0) e1 e2 ew su
        have mu := I0.1.scr su
        refine ⟨(0, sI w 12 45 0 2), k_45 mu, ?_, q2.scr (scr_thr w 2), (hI_sI _ _ _ _ _ _ _ _).trans (if_pos ⟨rfl, rfl, rfl⟩), q4⟩
        rw [rl u mu (I0.2.1.scr su), q1, bd_t, gd_t (k_45 q2), fails_f q2 q3 (by decide), bd_t]
        exact if_neg (show ¬ (1 : Int32) = 0 by decide)
    | inr vs =>
      rw [ew] at r
      have r : TxA h0 x (some vs) := r
      obtain ⟨ks', e', wa', wb', h1, g1, C1, I1, r11, r12, r13⟩ := class_half C0 I0 ht r
      have TA1 := TA0.W (Nat.lt_of_lt_of_le ha x0.1) (Nat.lt_of_lt_of_le hb x0.1) la lb r11
      obtain ⟨xo, xa, xb, xe, -⟩ := r.s
      have fc : fX11_replaceText 10 (nI t) h = some (.inl (nI ws.length, h1)) := by
        rw [cl, xe]
        unfold fX11_replaceText_b13 fX11_replaceText_b32
        rw [mq_st, gd_t (k_10 c0), ← xe, g1, bd_t, gs_t, gd_t TA1.1, X8_size_eq TA1, bd_t]
      refine lb_gen c fc C1.1 (by omega) (by omega) (fun u su _ => ?_)
      have mu := I1.1.scr su
      obtain ⟨w1, w2, w3, w4, q1, q2, q3, q3', q4, q5, q6, q7, q8, q9, q10, q11, q12, q13⟩ := read_good hP ht o V.1 W.1 C1 I1 b0 T20 ok l3 (FT_rest x0) r11 e1 e2 ew xo.1 su
      refine ⟨w4, k_45 mu, ?_, q9, q10, q11, q12, q13⟩
      rw [rl u mu (I1.2.1.scr su), q1, bd_t, gd_t (k_45 q2), fails_t q2 q3, bd_t]
      show (if (0 : Int32) = 0 then gd (hK w1 45 = 12) (gs (hR w1 12 45 6) (fun a9 => gd (hK w1 a9 = 20 ∧ inb (nI t) (hN w1 a9)) (bd (fX12_begins 45 (nI t) w1) _))) else _) = _
      rw [if_pos rfl, gd_t (k_45 q2), r12_45_6 q2, gs_t, gd_t ⟨k_49 q2, by rw [n_49 q2]; exact inbI ht (by decide)⟩, q4, bd_t, gd_t (k_45 q5), q6, bd_t, gd_t (k_45 q7), q8, bd_t]
      show some (hI w1 20 49 (Int32.toNatClampNeg (nI t)), w4) = _
      rw [ct, q3', ((I1.2.1.scr su).s ht q).2.1]
def fre (tx : TX) : Nat → Nat → Option Nat := fst1 (fun t => (tx t).isNone)
theorem fre_s {tx : TX} : ∀ f j t, j + f ≤ 100 → fre tx f j = some t → t < 100 ∧ tx t = none
  | 0, _, _, _, h => by cases h
  | f + 1, j, t, hj, h => by
    unfold fre at h
    rw [fst1] at h
    cases e : tx j with
    | none =>
      rw [e, if_pos (by rfl)] at h
      cases h
      exact ⟨by omega, e⟩
    | some ws =>
      rw [e, if_neg (by simp)] at h
      exact fre_s f (j + 1) t (by omega) h
theorem free_eq {h : PH} (c : CSh h) {tx : TX} (T : CT tx h) : fX11_freeNumber 10 h = some (optI (fre tx 100 0)) := by
  unfold fX11_freeNumber fX11_freeNumber_l2
  show wh (fun z => fX11_freeNumber_c2 10 z h) (nI 0) = _
  have hin : ∀ j, j < 100 → inb (nI j) (hN h 15) := fun j hj => by rw [n_15 c]; exact inbI hj (by decide)
  refine fst_loop (fun t => (tx t).isNone) 100 optI (fun j hj e => ?_) (fun j hj e => ?_) ?_ 100 0 rfl
  · unfold fX11_freeNumber_c2
    rw [if_neg (i100 hj), gd_t (k_10 c), r11_10_2 c, gs_t, gd_t ⟨k_15 c, hin j hj⟩, nI_clamp (by omega)]
    cases q : tx j with
    | none => rw [T.n hj q, mq_nt, mr_t]; rfl
    | some ws => rw [q] at e; cases e
  · unfold fX11_freeNumber_c2
    rw [if_neg (i100 hj), gd_t (k_10 c), r11_10_2 c, gs_t, gd_t ⟨k_15 c, hin j hj⟩, nI_clamp (by omega)]
    cases q : tx j with
    | none => rw [q] at e; cases e
    | some ws =>
      obtain ⟨a, b, h1, -⟩ := T.s hj q
      rw [h1, mq_st, nI_1]
  · unfold fX11_freeNumber_c2
    rw [if_pos (by decide)]
    rfl
theorem add_loop {g : PH} (m : MSh g) {tx : TX} (T : MT tx g) : ∀ f j, j + f = 100 → ∀ r, fX12_addText_b28 45 (nI ((fre tx f j).getD 100)) g = some r → fX12_addText_l7 45 (nI j) g = some r := by
  intro f
  induction f with
  | zero =>
    intro j hj r hr
    have hj : j = 100 := by omega
    subst hj
    refine wh_done ?_
    show fX12_addText_c7 45 (nI 100) g = _
    unfold fX12_addText_c7
    rw [if_pos (show (100 : Int32) ≤ nI 100 by decide), show fX12_addText_b28 45 (nI 100) g = some r from hr, mr_t]
  | succ f ih =>
    intro j hj r hr
    have hj1 : j < 100 := by omega
    have hin : hK g 47 = 21 ∧ inb (nI j) (hN g 47) := ⟨k_47 m, by rw [n_47 m]; exact inbI hj1 (by decide)⟩
    unfold fre at hr
    rw [fst1] at hr
    cases q : tx j with
    | none =>
      rw [q, if_pos (by rfl)] at hr
      refine wh_done ?_
      show fX12_addText_c7 45 (nI j) g = _
      unfold fX12_addText_c7
      rw [if_neg (i100 hj1), gd_t (k_45 m), r12_45_4 m, gs_t, gd_t hin, nI_clamp (by omega), T.n hj1 q, if_pos rfl, show fX12_addText_b28 45 (nI j) g = some r from hr, mr_t]
    | some ws =>
      rw [q, if_neg (by simp)] at hr
      refine wh_step (t := nI (j + 1)) ?_ (ih (j + 1) (by omega) r hr)
      show fX12_addText_c7 45 (nI j) g = _
      unfold fX12_addText_c7
      rw [if_neg (i100 hj1), gd_t (k_45 m), r12_45_4 m, gs_t, gd_t hin, nI_clamp (by omega), (T.s hj1 q).1, if_neg (by decide), nI_1]
theorem ls_addText {h : PH} {P : PH → Prop} {tx : TX} {bs : List Nat} {er : Int32} {ks : List Nat} {e : Nat} {wa wb : Nat → Nat} {D : Nat → Prop} {kq : Nat → Option (QT 27)} {E : EVT} {R : PST} (I : INV1 tx bs er ks e wa wb D kq E R h) (a1 a2 a3 a4 a5 : Int32) (hP : ∀ h', INVX D kq h' → rest h h' → P h') : LS_3 10 45 87 88 a1 a2 a3 a4 a5 h P := by
  obtain ⟨C, M, T⟩ := id I
  obtain ⟨c, o, B, X, K, Y, V, W, n⟩ := id C
  have b := B.1
  have m := M.1
  have fail : ∀ h', scr h h' → P h' := fun h' s => hP h' (I.scr s).X (mc_rest (scr_mc s))
  show LBody (fX11_addText 10 h) (fX12_addText 45) (fun c => c = 0 ∨ c = 1) (fun c v => (c = 0 ∧ v = some (.int 1)) ∨ (c = 1 ∧ v = some (.int 2))) h P
  have fn := free_eq c B.CT
  cases ef : fre tx 100 0 with
  | none =>
    rw [ef] at fn
    refine lb_exc c m (e := 0) (code := 1) ?_ (Or.inl rfl) (fun v hv => by
      rcases hv with hv | hv
      · exact hv.2
      · exact absurd hv.1 (by decide)) (by decide) (fun u su => ⟨(0, sI (sI u 12 45 0 0) 12 45 0 1), ?_, (scr_thr u 0).tr (scr_thr _ 1), (hI_sI _ _ _ _ _ _ _ _).trans (if_pos ⟨rfl, rfl, rfl⟩)⟩) fail
    · unfold fX11_addText fX11_addText_b0
      rw [gd_t (k_10 c), fn, bd_t]
      exact if_neg (fun z => z rfl)
    · have mu := m.scr su
      have s0 := scr_thr u 0
      have mu0 := mu.scr s0
      unfold fX12_addText
      rw [gd_t (k_45 mu), lt_t]
      refine add_loop mu0 ((M.2.1.scr su).scr s0) 100 0 rfl _ ?_
      rw [ef]
      unfold fX12_addText_b28 fX12_addText_b40 fX12_addText_b59
      rw [if_pos (show (100 : Int32) ≤ nI (Option.getD none 100) by decide), gs_t, gd_t (k_45 mu0), fails_f mu0 (thr0 u) (by decide), bd_t]
      exact if_pos (show ¬ (1 : Int32) = 0 by decide)
  | some t =>
    obtain ⟨ht, q⟩ := fre_s 100 0 t (by decide) ef
    rw [ef] at fn
    obtain ⟨T1, T2, ok, l3, -, -⟩ := T
    obtain ⟨x, h0, r1, x0, hx, hv, e1, e2, r⟩ := takeText_eq c b T1 ok l3
    have b0 : 89 ≤ hX h0 := by omega
    have C0 := C.F x0 FT_7
    have c0 := C0.1
    have I0 : MI tx E R h0 := M.C b x0 (fun c a k z => Or.inl (by have := z.2.1; omega)) (fun _ _ _ z => z.elim)
    have T20 : TM bs h0 := ⟨(x0.2.1 12 45 2 (by omega) (fun z => by have := z.1; omega)).trans T2.1, fun i hi => (x0.2.1 20 46 i (by omega) (fun z => by have := z.1; omega)).trans (T2.2 i hi)⟩
    have cl : fX11_addText 10 h = fX11_addText_b25 10 (nI t) x h0 := by
      unfold fX11_addText fX11_addText_b0
      rw [gd_t (k_10 c), fn, bd_t, if_pos (show ¬ optI (some t) = (-1 : Int32) from nI_nm1 (by omega)), r11_10_0 c, gs_t, gd_t (k_11 c), r1, bd_t]
      rfl
    have rl : ∀ u, MSh u → MT tx u → ∀ r, (bd (fX12_readsText 45 (sI u 12 45 0 0)) (fun z8 =>
  gd (hK z8.2 45 = 12) (bd (fX12_fails 45 z8.1 (2 : Int32) z8.2) (fun z10 =>
  if (z10.1 = 0) then (gd (hK z10.2 45 = 12) (bd (fX12_begins 45 (nI t) z10.2) (fun z12 =>
  gd (hK z12 45 = 12) (bd (fX12_takesRead 45 (nI t) z12) (fun z14 =>
  gd (hK z14 45 = 12) (bd (fX12_tells 45 (nI t) z14) (fun z16 =>
  some ((nI t, z16))))))))) else
  fX12_addText_b59  z10.2)))) = some r → fX12_addText 45 u = some r := fun u mu Xu r hr => by
      have s0 := scr_thr u 0
      have mu0 := mu.scr s0
      unfold fX12_addText
      rw [gd_t (k_45 mu), lt_t]
      refine add_loop mu0 (Xu.scr s0) 100 0 rfl _ ?_
      rw [ef]
      show fX12_addText_b28 45 (nI t) (sI u 12 45 0 0) = _
      unfold fX12_addText_b28 fX12_addText_b40
      rw [if_neg (i100 ht), gs_t, gd_t (k_45 mu0), fails_t mu0 (thr0 u), bd_t]
      show (if ¬ (0 : Int32) = 0 then _ else gd (hK (sI u 12 45 0 0) 45 = 12) _) = _
      rw [if_neg (fun z => z rfl), gd_t (k_45 mu0)]
      exact hr
    cases ew : rdT bs 0 0 0 [] with
    | inl p =>
      rw [ew] at r
      obtain ⟨rfl, hp⟩ := r
      refine lb_genx (h1 := h0) c (e := 1) (code := 2) ?_ (Or.inr rfl) (fun v hv => by
        rcases hv with hv | hv
        · exact absurd hv.1 (by decide)
        · exact hv.2) (by decide) (by omega) (by omega) (fun u su => ?_)
      · rw [cl]; rfl
      · obtain ⟨w, q1, q2, q3, q4⟩ := read_bad hP C0 I0 T20 ok l3 (FT_rest x0) e1 e2 ew su
        have mu := I0.1.scr su
        refine ⟨(0, sI w 12 45 0 2), k_45 mu, rl u mu (I0.2.1.scr su) _ ?_, q2.scr (scr_thr w 2), (hI_sI _ _ _ _ _ _ _ _).trans (if_pos ⟨rfl, rfl, rfl⟩), q4⟩
        rw [q1, bd_t, gd_t (k_45 q2), fails_f q2 q3 (by decide), bd_t]
        exact if_neg (show ¬ (1 : Int32) = 0 by decide)
    | inr vs =>
      rw [ew] at r
      have r : TxA h0 x (some vs) := r
      obtain ⟨ks', e', wa', wb', h1, g1, C1, I1, r11, r12, r13⟩ := class_half C0 I0 ht r
      obtain ⟨xo, xa, xb, xe, -⟩ := r.s
      have fc : fX11_addText 10 h = some (.inl (nI t, h1)) := by
        rw [cl, xe]
        unfold fX11_addText_b25 fX11_addText_b44
        rw [mq_st, gd_t (k_10 c0), ← xe, g1, bd_t]
      refine lb_gen c fc C1.1 (by omega) (by omega) (fun u su _ => ?_)
      have mu := I1.1.scr su
      obtain ⟨w1, w2, w3, w4, q1, q2, q3, q3', q4, q5, q6, q7, q8, q9, q10, q11, q12, q13⟩ := read_good hP ht o V.1 W.1 C1 I1 b0 T20 ok l3 (FT_rest x0) r11 e1 e2 ew xo.1 su
      refine ⟨w4, k_45 mu, rl u mu (I1.2.1.scr su) _ ?_, q9, q10, q11, q12, q13⟩
      rw [q1, bd_t, gd_t (k_45 q2), fails_t q2 q3, bd_t]
      show (if (0 : Int32) = 0 then gd (hK w1 45 = 12) (bd (fX12_begins 45 (nI t) w1) _) else _) = _
      rw [if_pos rfl, gd_t (k_45 q2), q4, bd_t, gd_t (k_45 q5), q6, bd_t, gd_t (k_45 q7), q8, bd_t]
