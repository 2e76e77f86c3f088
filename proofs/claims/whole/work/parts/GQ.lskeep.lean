/-! CALLS: keep, keepNot -/
theorem xK_rs {h h' : PH} (x : xK h h') : rest h h' := x.mono (fun c a k _ z => ⟨by have := FK_a z; omega, out_34 (by have := FK_a z; omega)⟩) (fun c a k _ z => show c ≠ 13 by rw [z.1]; decide) (fun _ _ z => z.elim)
theorem nq_xK {h h' : PH} (x : nq h h') : xK h h' := x.mono (fun _ _ _ _ z => z.elim) (fun _ _ _ _ z => z) (fun _ _ z => z)
/-- a kept query is an old one or a sound new one -/
def okN (kq kq' : Nat → Option (QT 27)) : Prop := ∀ i, i < 6 → ∀ Q, kq' i = some Q → kq i = some Q ∨ OKK Q
theorem okN.rf (kq : Nat → Option (QT 27)) : okN kq kq := fun _ _ _ e => Or.inl e
theorem okN.U {kq : Nat → Option (QT 27)} {p : Nat} {Q : QT 27} (K : OKK Q) : okN kq (kqU kq p Q) := fun i _ Q' e => by
  unfold kqU at e
  by_cases d : i = p
  · rw [if_pos d] at e
    rw [← Option.some.inj e]
    exact Or.inr K
  · rw [if_neg d] at e
    exact Or.inl e
theorem RF_6 : ∀ c i k, RF c i k → isScr c i k = true ∨ (c = 12 ∧ i = 45 ∧ (k = 2 ∨ k = 3)) := fun c i k z => by
  rcases z with ⟨rfl, rfl, z⟩ | ⟨rfl, z⟩
  · rcases z with z | z | z | z
    · exact Or.inr ⟨rfl, rfl, Or.inl z⟩
    · exact Or.inr ⟨rfl, rfl, Or.inr z⟩
    · left
      have : k = 21 ∨ k = 22 ∨ k = 23 ∨ k = 24 := by omega
      rcases this with rfl | rfl | rfl | rfl <;> rfl
    · left
      have : k = 42 ∨ k = 43 ∨ k = 44 ∨ k = 45 := by omega
      rcases this with rfl | rfl | rfl | rfl <;> rfl
  · left
    rcases z with ⟨h1, h2, h3, h4⟩ | ⟨h1, h2, h3⟩ | ⟨h1, h2, h3⟩ | ⟨h1, h2⟩
    · have : i = 60 ∨ i = 61 ∨ i = 62 ∨ i = 63 ∨ i = 64 ∨ i = 65 := by omega
      rcases this with rfl | rfl | rfl | rfl | rfl | rfl <;> simp [isScr, h3]
    · subst h1
      simp [isScr, h2]
    · have : i = 67 ∨ i = 68 ∨ i = 69 := by omega
      rcases this with rfl | rfl | rfl <;> simp [isScr, h3]
    · have : i = 70 ∨ i = 71 ∨ i = 72 ∨ i = 73 ∨ i = 74 ∨ i = 75 ∨ i = 76 := by omega
      rcases this with rfl | rfl | rfl | rfl | rfl | rfl | rfl <;> simp [isScr]
theorem FTn_scr : ∀ c i k, FTn c i k → isScr c i k = true := fun c i k z => by
  unfold FTn at z
  obtain ⟨rfl, z⟩ := z
  rcases z with ⟨h1, h2, h3, h4⟩ | ⟨h1, h2, h3⟩ | ⟨h1, h2, h3⟩ | h1 | h1
  · have h5 : decide (2400 ≤ k) = true := decide_eq_true (by omega)
    have : i = 60 ∨ i = 61 ∨ i = 62 ∨ i = 63 ∨ i = 64 ∨ i = 65 := by omega
    rcases this with rfl | rfl | rfl | rfl | rfl | rfl <;> simp [isScr, h5]
  · subst h1
    have h5 : decide (120 ≤ k) = true := decide_eq_true (by omega)
    simp [isScr, h5]
  · have h5 : decide (6 ≤ k) = true := decide_eq_true (by omega)
    have : i = 67 ∨ i = 68 ∨ i = 69 := by omega
    rcases this with rfl | rfl | rfl <;> simp [isScr, h5]
  · subst h1; rfl
  · subst h1; rfl
theorem ls_keep {h : PH} {P : PH → Prop} {tx : TX} {bs : List Nat} {er : Int32} {ks : List Nat} {e : Nat} {wa wb : Nat → Nat} {D : Nat → Prop} {kq : Nat → Option (QT 27)} {E : EVT} {R : PST} (I : INV1 tx bs er ks e wa wb D kq E R h) (a1 a2 a3 a4 a5 : Int32) (hP : ∀ h' bs' v D' kq', INV1 tx bs' v ks e wa wb D' kq' E R h' → (∀ x, D' x → D x ∨ hX h ≤ x) → okN kq kq' → rest h h' → P h') : LS_38 10 45 87 88 a1 a2 a3 a4 a5 h P := by
  obtain ⟨C, M, T⟩ := id I
  obtain ⟨c, o, B, X, K, Y, V, W, ne⟩ := id C
  have b := B.1
  have m := M.1
  obtain ⟨T1, T2, ok, l3, -, -⟩ := id T
  show LBody (fX11_keep 10 a1 h) (fX12_keep 45 a1) (fun c => c = 1) (fun c v => c = 1 ∧ v = some (.int 1)) h P
  rcases idx_or (n := 6) (by decide) a1 with hx | ⟨p, hp, rfl⟩
  · refine lb_exc c m (e := 1) (code := 1) ?_ rfl (fun v hv => hv.2) (by decide) (fun u su => ⟨(0, sI (sI u 12 45 0 0) 12 45 0 1), ?_, (scr_thr _ 0).tr (scr_thr _ 1), (hI_sI _ _ _ _ _ _ _ _).trans (if_pos ⟨rfl, rfl, rfl⟩)⟩) (fun h' s => hP h' _ _ _ _ (I.scr s) (fun _ z => Or.inl z) (okN.rf _) (mc_rest (scr_mc s)))
    · unfold fX11_keep fX11_keep_b0
      rw [keptPlace_n hx, bx_r]
    · have mu := m.scr su
      unfold fX12_keep fX12_keep_b25
      rw [gd_t (k_45 mu), lt_t, noQuery_n (mu.scr (scr_thr u 0)) (thr0 u) hx, bd_t]
      exact if_pos (show ¬ (1 : Int32) = 0 by decide)
  · obtain ⟨x, h1, t1, t2, t3, t4, t5, t6, t7⟩ := takeQuery_eq c b T1 ok l3
    have t2 : xK h h1 := t2
    have C1 := C.take t2
    have M1 := M.take b t2
    have c1 := C1.1
    have bh : hX h ≤ hX h1 := t2.1
    have TM1 : TM bs h1 := ⟨(t2.2.1 12 45 2 (by omega) (fun z => by have := FK_a z; omega)).trans T2.1, fun i hi => (t2.2.1 20 46 i (by omega) (fun z => by have := FK_a z; omega)).trans (T2.2 i hi)⟩
    have cl : fX11_keep 10 (nI p) h = fX11_keep_b11 10 (nI p) x h1 := by
      unfold fX11_keep fX11_keep_b0 fX11_keep_b4
      rw [keptPlace_s hp, bx_l, gd_t (k_10 c), r11_10_1 c, gs_t, gd_t (k_13 c), t1, bd_t]
    cases ep : prsP bs with
    | inl pe =>
      rw [ep] at t7
      obtain ⟨rfl, -⟩ := t7
      refine lb_genx (h1 := h1) c (e := 1) (code := 1) ?_ rfl (fun v hv => hv.2) (by decide) (by omega) (by omega) (fun u su => ?_)
      · rw [cl]
        unfold fX11_keep_b11
        rw [mq_nt]
      · have s1 : scr h1 (sI u 12 45 0 0) := su.tr (scr_thr u 0)
        have mu : MSh u := M1.1.scr su
        have mu0 : MSh (sI u 12 45 0 0) := M1.1.scr s1
        obtain ⟨v, w, q1, q2, q3, q4, q5⟩ := readsQuery_eq mu0 (TM1.scr s1) ok l3
        unfold MQ6 at q5
        rw [ep] at q5
        have q5 : v = 0 := q5
        subst q5
        have mw : MSh w := mu0.oP q2
        have w0 : hI w 12 45 0 = 0 := (q2.1 12 45 0 (fun z => by unfold RF at z; omega)).trans (thr0 u)
        have J := take_inv I t2 t3 t4 (show scrF isFd h1 (sI u 12 45 0 0) from s1.F) q2 q3 q4
        have s2 := scr_thr w 1
        refine ⟨(0, sI w 12 45 0 1), k_45 mu, ?_, mw.scr s2, by rw [hI_sI, if_pos ⟨rfl, rfl, rfl⟩], hP _ _ _ _ _ (J.scr s2) (fun _ z => Or.inl z) (okN.rf _) (((xK_rs t2).tr (mc_rest (scr_mc s1))).tr ((mc_rest (oP_chg (q2.mono RF_mc))).tr (mc_rest (scr_mc s2))))⟩
        unfold fX12_keep fX12_keep_b25
        rw [gd_t (k_45 mu), lt_t, noQuery_s mu0 (thr0 u) hp, bd_t, if_neg (show ¬ ¬ (0 : Int32) = 0 from fun z => z rfl), gd_t (k_45 mu0), q1, bd_t, gd_t (k_45 mw), fails_f mw w0 (by decide), bd_t, if_neg (show ¬ (1 : Int32) = 0 by decide)]
    | inr Q =>
      rw [ep] at t7
      obtain ⟨a, rfl, u1, u2, u3, u4⟩ := t7
      have KQ : OKK Q := OKK.prs ep u2 u3 u4
      have d1b : ∀ x, (D x ∨ ivl (hX h) (hX h1) x) → 89 ≤ x ∧ x < hX h1 := fun x dx => by
        rcases dx with dx | dx
        · have := K.1 x dx; omega
        · have := dx.1; have := dx.2; omega
      have ne1 : ¬ (D e ∨ ivl (hX h) (hX h1) e) := fun z => by
        rcases z with z | z
        · exact ne z
        · have := X.2.1; have := z.1; omega
      have CQ : QC h1 (fun x => D x ∨ ivl (hX h) (hX h1) x) 27 Q a := QC.mono (fun x dx => ⟨Or.inr dx, fun _ _ => rfl, fun _ _ => rfl, rfl, rfl⟩) 27 Q a u1
      obtain ⟨h2, f1, f2, f3, f4, f5, f6⟩ := keepQuery_eq c1 o C1.2.2.1 (fun x dx => (d1b x dx).1) CQ u2 hp
      have b1 := C1.2.2.1.1
      have c2 : CSh h2 := c1.chg b1 f2 (fun q hq z => by
        have : ∀ q ∈ sCR, ¬ (q.1 = 25) := by decide
        exact this q hq z.1)
      have m2 : MSh h2 := M1.1.chg b1 f2 (fun q hq z => by
        have : ∀ q ∈ sMR, ¬ (q.1 = 25) := by decide
        exact this q hq z.1)
      refine lb_gen (h1 := h2) (v0 := nI (mnf tx Q)) c ?_ c2 (by omega) (by omega) (fun u su _ => ?_)
      · rw [cl]
        unfold fX11_keep_b11
        rw [mq_st, gd_t (k_10 c1), f1, bd_t]
      · have s1 : scr h2 (sI u 12 45 0 0) := su.tr (scr_thr u 0)
        have mu : MSh u := m2.scr su
        have mu0 : MSh (sI u 12 45 0 0) := m2.scr s1
        have TM2 : TM bs h2 := ⟨(f2.2.1 12 45 2 (by omega) (fun z => z)).trans TM1.1, fun i hi => (f2.2.1 20 46 i (by omega) (fun z => z)).trans (TM1.2 i hi)⟩
        obtain ⟨v, w, q1, q2, q3, q4, q5⟩ := readsQuery_eq mu0 (TM2.scr s1) ok l3
        unfold MQ6 at q5
        rw [ep] at q5
        obtain ⟨rfl, p1, p2, p3⟩ := q5
        have mw : MSh w := mu0.oP q2
        have w0 : hI w 12 45 0 = 0 := (q2.1 12 45 0 (fun z => by unfold RF at z; omega)).trans (thr0 u)
        obtain ⟨w1, w2, j1, j2, j3, j4, j5, j6, j7, j8⟩ := keep_fin C1 M1 (fun x dx => Or.inl dx) d1b ne1 hp CQ f2 f6 f5 s1 RF_6 q2 mw (Or.inl rfl) ⟨p2, p3, by omega, p1, u2⟩
        have T3 : TP [] (qrV (prsP bs)) w2 := by
          have n7 : ∀ k, hI w2 7 11 k = hI h1 7 11 k := fun k => j8.2.1 7 11 k (by omega) (FK2_n rfl (by decide) (Or.inl (by decide)))
          refine ⟨⟨?_, fun i hi => absurd hi (Nat.not_lt_zero _)⟩, ⟨?_, fun i hi => absurd hi (Nat.not_lt_zero _)⟩, fun b hb => absurd hb List.not_mem_nil, Nat.zero_le _, ?_, ?_⟩
          · rw [n7, t3]; rfl
          · rw [j6, q3]; rfl
          · rw [n7, t4]
          · rw [j6, q4]
        refine ⟨w2, k_45 mu, ?_, j4.1, j5.1, (j6 0).trans w0, ?_, hP w2 _ _ _ _ ⟨j4, j5, T3⟩ (fun _ z => z.elim Or.inl (fun z => Or.inr z.1)) (okN.U KQ) ((xK_rs t2).tr (FK2_rest j8))⟩
        · unfold fX12_keep
          rw [gd_t (k_45 mu), lt_t, noQuery_s mu0 (thr0 u) hp, bd_t, if_neg (show ¬ ¬ (0 : Int32) = 0 from fun z => z rfl), gd_t (k_45 mu0), q1, bd_t, gd_t (k_45 mw), fails_t mw w0, bd_t, if_pos rfl, gd_t (k_45 mw), show fX12_copies 45 (6 : Int32) (nI p) w = some w1 from j1, bd_t, gd_t (k_45 j2), j3, bd_t]
        · rw [j7, q2.2.2.1]; rfl
theorem ls_keepNot {h : PH} {P : PH → Prop} {tx : TX} {bs : List Nat} {er : Int32} {ks : List Nat} {e : Nat} {wa wb : Nat → Nat} {D : Nat → Prop} {kq : Nat → Option (QT 27)} {E : EVT} {R : PST} (I : INV1 tx bs er ks e wa wb D kq E R h) (OK : ∀ i, i < 6 → ∀ Q, kq i = some Q → OKK Q) (a1 a2 a3 a4 a5 : Int32) (hP : ∀ h' bs' v D' kq', INV1 tx bs' v ks e wa wb D' kq' E R h' → (∀ x, D' x → D x ∨ hX h ≤ x) → okN kq kq' → rest h h' → P h') : LS_39 10 45 87 88 a1 a2 a3 a4 a5 h P := by
  obtain ⟨C, M, T⟩ := id I
  obtain ⟨c, o, B, X, K, Y, V, W, ne⟩ := id C
  have b := B.1
  have m := M.1
  show LBody (fX11_keepNot 10 a1 a2 h) (fX12_keepNot 45 a1 a2) (fun c => c = 1 ∨ c = 3) (fun c v => (c = 1 ∧ v = some (.int 1)) ∨ (c = 3 ∧ v = some (.int 2))) h P
  have hPs : ∀ h', scr h h' → P h' := fun h' s => hP h' _ _ _ _ (I.scr s) (fun _ z => Or.inl z) (okN.rf _) (mc_rest (scr_mc s))
  rcases idx_or (n := 6) (by decide) a1 with hx | ⟨p, hp, rfl⟩
  · refine lb_exc c m (e := 1) (code := 1) ?_ (Or.inl rfl) (fun v hv => hv.elim (fun q => q.2) (fun q => absurd q.1 (by decide))) (by decide) (fun u su => ⟨(0, sI (sI u 12 45 0 0) 12 45 0 1), ?_, (scr_thr _ 0).tr (scr_thr _ 1), (hI_sI _ _ _ _ _ _ _ _).trans (if_pos ⟨rfl, rfl, rfl⟩)⟩) hPs
    · unfold fX11_keepNot fX11_keepNot_b0
      rw [keptPlace_n hx, bx_r]
    · have mu := m.scr su
      unfold fX12_keepNot fX12_keepNot_b21
      rw [gd_t (k_45 mu), lt_t, noQuery_n (mu.scr (scr_thr u 0)) (thr0 u) hx, bd_t]
      exact if_pos (show ¬ (1 : Int32) = 0 by decide)
  · rcases idx_or (n := 6) (by decide) a2 with hx | ⟨p2, hp2, rfl⟩
    · refine lb_exc c m (e := 1) (code := 1) ?_ (Or.inl rfl) (fun v hv => hv.elim (fun q => q.2) (fun q => absurd q.1 (by decide))) (by decide) (fun u su => ⟨(0, sI (sI u 12 45 0 0) 12 45 0 1), ?_, (scr_thr _ 0).tr (scr_thr _ 1), (hI_sI _ _ _ _ _ _ _ _).trans (if_pos ⟨rfl, rfl, rfl⟩)⟩) hPs
      · unfold fX11_keepNot fX11_keepNot_b0 fX11_keepNot_b4
        rw [keptPlace_s hp, bx_l, keptPlace_n hx, bx_r]
      · have mu := m.scr su
        have mu0 := mu.scr (scr_thr u 0)
        unfold fX12_keepNot fX12_keepNot_b21
        rw [gd_t (k_45 mu), lt_t, noQuery_s mu0 (thr0 u) hp, bd_t, if_neg (show ¬ ¬ (0 : Int32) = 0 from fun z => z rfl), gd_t (k_45 mu0), noKept_x mu0 (thr0 u) hx, bd_t]
        exact if_neg (show ¬ (1 : Int32) = 0 by decide)
    · cases eq : kq p2 with
      | none =>
        refine lb_exc c m (e := 3) (code := 2) ?_ (Or.inr rfl) (fun v hv => hv.elim (fun q => absurd q.1 (by decide)) (fun q => q.2)) (by decide) (fun u su => ⟨(0, sI (sI u 12 45 0 0) 12 45 0 2), ?_, (scr_thr _ 0).tr (scr_thr _ 2), (hI_sI _ _ _ _ _ _ _ _).trans (if_pos ⟨rfl, rfl, rfl⟩)⟩) hPs
        · unfold fX11_keepNot fX11_keepNot_b0 fX11_keepNot_b4 fX11_keepNot_b8
          rw [keptPlace_s hp, bx_l, keptPlace_s hp2, bx_l, gd_t (k_10 c), demandKept_n c K hp2 eq, bx_r]
        · have mu := m.scr su
          have st := su.tr (scr_thr u 0)
          have mu0 := m.scr st
          unfold fX12_keepNot fX12_keepNot_b21
          rw [gd_t (k_45 mu), lt_t, noQuery_s mu0 (thr0 u) hp, bd_t, if_neg (show ¬ ¬ (0 : Int32) = 0 from fun z => z rfl), gd_t (k_45 mu0), noKept_n mu0 (thr0 u) (K.scx b st.x) hp2 eq, bd_t]
          exact if_neg (show ¬ (1 : Int32) = 0 by decide)
      | some Q0 =>
        obtain ⟨a0, d1, d2⟩ := demandKept_s c K hp2 eq
        have B0 := (K.s hp2 eq).2
        have w0f := B0.2.2.2.2
        have K0 := OK p2 hp2 Q0 eq
        obtain ⟨a, h1, g1, g2, g3, g4, g5⟩ := negated_eq (D := D) 27 Q0 w0f K0.2.2 h a0 c b (fun x dx => K.1 x dx) d2 44 0 (by decide) (by decide)
        have g1 : fX4_negated (some a0) 0 h = some (some a, h1) := g1
        have t2 : xK h h1 := nq_xK g2
        have wl := K0.1
        have C1 := C.take t2
        have M1 := M.take b t2
        have c1 := C1.1
        have bh : hX h ≤ hX h1 := t2.1
        have wf := ngq_wf 27 Q0 w0f
        have KQ := K0.neg w0f
        have d1b : ∀ x, (D x ∨ ivl (hX h) (hX h1) x) → 89 ≤ x ∧ x < hX h1 := fun x dx => by
          rcases dx with dx | dx
          · have := K.1 x dx; omega
          · have := dx.1; have := dx.2; omega
        have ne1 : ¬ (D e ∨ ivl (hX h) (hX h1) e) := fun z => by
          rcases z with z | z
          · exact ne z
          · have := X.2.1; have := z.1; omega
        obtain ⟨h2, f1, f2, f3, f4, f5, f6⟩ := keepQuery_eq c1 o C1.2.2.1 (fun x dx => (d1b x dx).1) g3 wf hp
        have b1 := C1.2.2.1.1
        have c2 : CSh h2 := c1.chg b1 f2 (fun q hq z => by
          have : ∀ q ∈ sCR, ¬ (q.1 = 25) := by decide
          exact this q hq z.1)
        have m2 : MSh h2 := M1.1.chg b1 f2 (fun q hq z => by
          have : ∀ q ∈ sMR, ¬ (q.1 = 25) := by decide
          exact this q hq z.1)
        have e1 : ∀ c' i k, i < 89 → ¬ FK c' i k → hI h2 c' i k = hI h c' i k := fun c' i k hi hf => (f2.2.1 c' i k (by omega) (fun z => z)).trans (t2.2.1 c' i k (by omega) hf)
        have nFK : ∀ c' i k, 15 ≤ i → ¬ FK c' i k := fun c' i k hi z => by have := FK_a z; omega
        refine lb_gen (h1 := h2) (v0 := nI (mnf tx (ngq 27 Q0))) c ?_ c2 (by omega) (by omega) (fun u su _ => ?_)
        · unfold fX11_keepNot fX11_keepNot_b0 fX11_keepNot_b4 fX11_keepNot_b8 fX11_keepNot_b15 fX11_keepNot_b19
          rw [keptPlace_s hp, bx_l, keptPlace_s hp2, bx_l, gd_t (k_10 c), d1, bx_l, g1, bd_t, gd_t (k_10 c1), f1, bd_t]
        · have s1 : scr h2 (sI u 12 45 0 0) := su.tr (scr_thr u 0)
          have mu : MSh u := m2.scr su
          have mu0 : MSh (sI u 12 45 0 0) := m2.scr s1
          have sqc : sameQ p2 h (sI u 12 45 0 0) := ⟨fun a k i1 i2 i3 => (s1.1 20 a _ (scr60 a i1 i2 _ (by omega))).trans (e1 20 a _ (by omega) (nFK _ _ _ (by omega))), fun k hk => (s1.1 20 66 _ (scr66 (by omega))).trans (e1 20 66 _ (by decide) (nFK _ _ _ (by decide))), (s1.1 20 67 _ (scr67 hp2).1).trans (e1 20 67 _ (by decide) (nFK _ _ _ (by decide))), (s1.1 20 69 _ (scr67 hp2).2).trans (e1 20 69 _ (by decide) (nFK _ _ _ (by decide)))⟩
          have Bu := B0.ofq sqc
          obtain ⟨w, q1, q2, q3⟩ := turns_eq mu0 hp2 Bu K0
          have mw : MSh w := mu0.oP q2
          have w12 : ∀ k, hI w 12 45 k = hI (sI u 12 45 0 0) 12 45 k := fun k => q2.1 12 45 k (fun z => absurd z.1 (by decide))
          have w0 : hI w 12 45 0 = 0 := (w12 0).trans (thr0 u)
          obtain ⟨w1, w2, j1, j2, j3, j4, j5, j6, j7, j8⟩ := keep_fin C1 M1 (fun x dx => Or.inl dx) d1b ne1 hp g3 f2 f6 f5 s1 (fun c' i k z => Or.inl (FTn_scr c' i k z)) q2 mw (Or.inr rfl) q3
          have T3 : TP bs er w2 := by
            have n7 : ∀ k, hI w2 7 11 k = hI h 7 11 k := fun k => (j8.2.1 7 11 k (by omega) (FK2_n rfl (by decide) (Or.inl (by decide)))).trans (g2.2.1 7 11 k (by omega) (fun z => z))
            have n12 : ∀ i, i = 12 ∨ i = 46 → ∀ k, hI w2 20 i k = hI h 20 i k := fun i hi k => (j8.2.1 20 i k (by omega) (by rcases hi with rfl | rfl <;> exact FK2_n rfl (by decide) (Or.inl (by decide)))).trans (g2.2.1 20 i k (by omega) (fun z => z))
            have n45 : ∀ k, k = 2 ∨ k = 3 → hI w2 12 45 k = hI h 12 45 k := fun k hk => (j6 k).trans ((w12 k).trans ((s1.1 12 45 k (by rcases hk with rfl | rfl <;> rfl)).trans (e1 12 45 k (by decide) (nFK _ _ _ (by decide)))))
            obtain ⟨⟨t1, t2⟩, ⟨t3, t4⟩, t5, t6, t7, t8⟩ := T
            exact ⟨⟨(n7 1).trans t1, fun i hi => (n12 12 (Or.inl rfl) i).trans (t2 i hi)⟩, ⟨(n45 2 (Or.inl rfl)).trans t3, fun i hi => (n12 46 (Or.inr rfl) i).trans (t4 i hi)⟩, t5, t6, (n7 2).trans t7, (n45 3 (Or.inr rfl)).trans t8⟩
          refine ⟨w2, k_45 mu, ?_, j4.1, j5.1, (j6 0).trans w0, ?_, hP w2 _ _ _ _ ⟨j4, j5, T3⟩ (fun _ z => z.elim Or.inl (fun z => Or.inr z.1)) (okN.U KQ) ((xK_rs t2).tr (FK2_rest j8))⟩
          · unfold fX12_keepNot
            rw [gd_t (k_45 mu), lt_t, noQuery_s mu0 (thr0 u) hp, bd_t, if_neg (show ¬ ¬ (0 : Int32) = 0 from fun z => z rfl), gd_t (k_45 mu0), noKept_b mu0 (thr0 u) hp2 Bu, bd_t, if_pos rfl, gd_t (k_45 mu0), q1, bd_t, gd_t (k_45 mw), show fX12_copies 45 (7 : Int32) (nI p) w = some w1 from j1, bd_t, gd_t (k_45 j2), j3, bd_t]
          · rw [j7, q2.2.2.1]; rfl
