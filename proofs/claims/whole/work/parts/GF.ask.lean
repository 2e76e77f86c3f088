/-! ask -/
def FRF (c a k : Nat) : Prop := FR c a k ∨ isFd c a k = true
def restF (h h' : PH) : Prop := chg FRF GRx LR h h'
theorem xK_rest {h h' : PH} (x : xK h h') : restF h h' := x.mono (fun c a k _ z => Or.inl ⟨by have := FK_a z; omega, out_34 (by have := FK_a z; omega)⟩) (fun c a k _ z => show c ≠ 13 by rw [z.1]; decide) (fun _ _ z => z.elim)
theorem mc_FRF {c a k : Nat} (z : FM' c a k) : FRF c a k := Or.inl ⟨by
  rcases Nat.lt_or_ge a 89 with y | y
  · exact y
  · exact absurd z (nM (mc_89 y)), mc_out z⟩
theorem fd_rest {h h' : PH} (s : scrF isFd h h') : restF h h' := (fd_chg s).mono (fun c a k _ z => by
  rcases z with z | z
  · exact mc_FRF (mc_scr z)
  · exact Or.inr z) (fun _ _ _ _ z => z.elim) (fun _ _ _ => trivial)
theorem RF_rest {h h' : PH} (x : oP RF h h') : restF h h' := (oP_chg (G := GM) (L := LM) (x.mono RF_mc)).mono (fun _ _ _ _ z => mc_FRF z) (fun _ _ _ _ z => z.elim) (fun _ _ _ => trivial)
theorem take_inv {tx : TX} {bs : List Nat} {er v : Int32} {ks : List Nat} {e : Nat} {wa wb : Nat → Nat} {D : Nat → Prop} {kq : Nat → Option (QT 27)} {E : EVT} {R : PST} {h h1 u w : PH} (I : INV1 tx bs er ks e wa wb D kq E R h) (x : xK h h1) (e1 : hI h1 7 11 1 = 0) (e2 : hI h1 7 11 2 = v) (s : scrF isFd h1 u) (y : oP RF u w) (f1 : hI w 12 45 2 = 0) (f2 : hI w 12 45 3 = v) : INV1 tx [] v ks e wa wb D kq E R w := by
  obtain ⟨C, M, T⟩ := I
  have b := C.2.2.1.1
  have n7 : ∀ k, hI w 7 11 k = hI u 7 11 k := fun k => y.1 7 11 k (fun z => by unfold RF at z; omega)
  refine ⟨((C.take x).fd (fd_chg s)).read y, ((M.take b x).fd s).read y, ⟨?_, fun i hi => absurd hi (Nat.not_lt_zero _)⟩, ⟨?_, fun i hi => absurd hi (Nat.not_lt_zero _)⟩, fun b hb => absurd hb List.not_mem_nil, Nat.zero_le _, ?_, f2⟩
  · rw [n7, s.1 7 11 1 rfl rfl, e1]; rfl
  · rw [f1]; rfl
  · rw [n7, s.1 7 11 2 rfl rfl, e2]
theorem fd_ns {c a k : Nat} (z : isFd c a k = true) : isScr c a k = false := by
  cases e : isScr c a k with
  | false => rfl
  | true =>
    exfalso
    simp [isFd, isFC, isFM] at z
    simp [isScr] at e
    omega
theorem FDn_eq {n : Nat} {f r s : Nat → Int32} {h h' : PH} (Z : FDn n f r s h) (e : ∀ c a k, isFd c a k = true → hI h' c a k = hI h c a k) : FDn n f r s h' := by
  obtain ⟨z1, z2, z3, z4⟩ := Z
  refine ⟨z1, (e 2 34 3 rfl).trans z2, (e 12 45 51 rfl).trans z3, fun i hi => ?_⟩
  obtain ⟨y1, y2, y3, y4, y5, y6⟩ := z4 i hi
  exact ⟨(e 20 35 i rfl).trans y1, (e 20 79 i rfl).trans y2, (e 20 36 i rfl).trans y3, (e 20 80 i rfl).trans y4, (e 20 37 i rfl).trans y5, (e 20 81 i rfl).trans y6⟩
theorem ls_ask {h : PH} {P : PH → Prop} {tx : TX} {bs : List Nat} {er : Int32} {ks : List Nat} {e : Nat} {wa wb : Nat → Nat} {D : Nat → Prop} {kq : Nat → Option (QT 27)} {E : EVT} {R : PST} {n0 : Nat} {f0 r0 s0 : Nat → Int32} (I : INV1 tx bs er ks e wa wb D kq E R h) (Z : FDn n0 f0 r0 s0 h) (a1 a2 a3 a4 a5 : Int32) (hP : ∀ h' v n f r s, INV1 tx [] v ks e wa wb D kq E R h' → FDn n f r s h' → restF h h' → P h') : LS_33 10 45 87 88 a1 a2 a3 a4 a5 h P := by
  obtain ⟨C, M, T⟩ := id I
  obtain ⟨c, o, B, X, K, Y, V, W, ne⟩ := id C
  have b := B.1
  obtain ⟨T1, T2, ok, l3, -, -⟩ := id T
  obtain ⟨x, h1, t1, t2, t3, t4, t5, t6, t7⟩ := takeQuery_eq c b T1 ok l3
  have t2 : xK h h1 := t2
  have C1 := C.take t2
  have M1 := M.take b t2
  have c1 := C1.1
  have bh : hX h ≤ hX h1 := t2.1
  have TM1 : TM bs h1 := ⟨(t2.2.1 12 45 2 (by omega) (fun z => by have := FK_a z; omega)).trans T2.1, fun i hi => (t2.2.1 20 46 i (by omega) (fun z => by have := FK_a z; omega)).trans (T2.2 i hi)⟩
  have cl : fX11_ask 10 h = fX11_ask_b7 10 x h1 := by
    unfold fX11_ask fX11_ask_b0
    rw [gd_t (k_10 c), r11_10_1 c, gs_t, gd_t (k_13 c), t1, bd_t]
  show LBody (fX11_ask 10 h) (fX12_ask 45) (fun c => c = 1) (fun c v => c = 1 ∧ v = some (.int 1)) h P
  -- the reference reads
  have rd : ∀ u, scrF isFd h1 u → ∃ v w, fX12_readsQuery 45 (sI u 12 45 0 0) = some (v, w) ∧ MSh w ∧ hI w 12 45 0 = 0 ∧ INV1 tx [] (qrV (prsP bs)) ks e wa wb D kq E R w ∧ MQ6 bs v w ∧ oP RF (sI u 12 45 0 0) w ∧ scrF isFd h1 (sI u 12 45 0 0) := fun u su => by
    have s1 : scrF isFd h1 (sI u 12 45 0 0) := su.tr (scr_thr u 0).F
    have mu : MSh (sI u 12 45 0 0) := (M1.fd s1).1
    have Tu : TM bs (sI u 12 45 0 0) := ⟨(s1.1 12 45 2 rfl rfl).trans TM1.1, fun i hi => (s1.1 20 46 i rfl rfl).trans (TM1.2 i hi)⟩
    obtain ⟨v, w, q1, q2, q3, q4, q5⟩ := readsQuery_eq mu Tu ok l3
    exact ⟨v, w, q1, mu.oP q2, (q2.1 12 45 0 (fun z => by unfold RF at z; omega)).trans (thr0 u), take_inv I t2 t3 t4 s1 q2 q3 q4, q5, q2, s1⟩
  cases ep : prsP bs with
  | inl p =>
    rw [ep] at t7
    obtain ⟨rfl, -⟩ := t7
    refine lb_genx (h1 := h1) c (e := 1) (code := 1) ?_ rfl (fun v hv => hv.2) (by decide) (by omega) (by omega) (fun u su => ?_)
    · rw [cl]
      unfold fX11_ask_b7
      rw [mq_nt]
    · obtain ⟨v, w, q1, q2, q3, q4, q5, q6, q7⟩ := rd u su.F
      have mu : MSh u := (M1.fd su.F).1
      unfold MQ6 at q5
      rw [ep] at q5
      have q5 : v = 0 := q5
      subst q5
      have s2 := scr_thr w 1
      refine ⟨(0, sI w 12 45 0 1), k_45 mu, ?_, q2.scr s2, by rw [hI_sI, if_pos ⟨rfl, rfl, rfl⟩], hP _ _ n0 f0 r0 s0 (q4.scr s2) ?_ (((xK_rest t2).tr (fd_rest q7)).tr ((RF_rest q6).tr (fd_rest s2.F)))⟩
      · unfold fX12_ask fX12_ask_b27
        rw [gd_t (k_45 mu), lt_t, q1, bd_t, gd_t (k_45 q2), fails_f q2 q3 (by decide), bd_t, if_neg (show ¬ (1 : Int32) = 0 by decide)]
      · refine FDn_eq Z (fun c a k z => ?_)
        have la := fd_lt z
        have ns : isScr c a k = false := fd_ns z
        rw [s2.1 c a k ns, q6.1 c a k (fun y => by
          simp [isFd, isFC, isFM] at z
          unfold RF at y
          omega), (scr_thr u 0).1 c a k ns, su.1 c a k ns]
        exact t2.2.1 c a k (by omega) (fun y => by have := FK_a y; omega)
  | inr Q =>
    rw [ep] at t7
    obtain ⟨a, rfl, u1, u2, u3, u4⟩ := t7
    obtain ⟨h2, f1, f2, f3⟩ := fill_eq c1 o C1.2.2.1.CT (fun y dy => Nat.le_trans b dy.1) u1 u2 (by decide)
    have c2 := c1.oI f3
    have v0 := f2.1
    refine lb_gen (h1 := h2) (v0 := nI (fnd tx 27 Q 100).1) c ?_ c2 (by rw [f3.2.2.2.2.2.1]; omega) (by rw [f3.2.2.2.2.2.2]; omega) (fun u su _ => ?_)
    · rw [cl]
      unfold fX11_ask_b7
      rw [mq_st, gd_t (k_10 c1), r11_10_8 c1, gs_t, gd_t (k_34 c1), r11_10_2 c1, f1, bd_t, gd_t (k_10 c2), r11_10_8 c2, gs_t, gd_t (k_34 c2), v0]
    · have s12 : scrF isFd h1 u := (f3.F (fun _ _ _ => fd_1)).tr su.F
      obtain ⟨v, w, q1, q2, q3, q4, q5, q6, q7⟩ := rd u s12
      have mu : MSh u := (M1.fd s12).1
      unfold MQ6 at q5
      rw [ep] at q5
      obtain ⟨q5, p1, p2, p3⟩ := q5
      subst q5
      obtain ⟨w2, g1, g2, g3⟩ := asks_eq q2 o q4.2.1.2.1 (q := 6) (by decide) (Q := Q) ⟨p2, p3, by omega, p1, u2⟩
      refine ⟨w2, k_45 mu, ?_, q4.1.1.oI g3, q2.oI g3, (g3.1 12 45 0 rfl).trans q3, ?_, hP w2 _ _ _ _ _ (q4.fd (ak_F g3)) (FDn.mk' (fnd_le tx 27 Q 100) (f2.scrM (fun c a k z => ?_)) g2) (((xK_rest t2).tr (fd_rest q7)).tr ((RF_rest q6).tr (fd_rest (ak_F g3))))⟩
      · unfold fX12_ask fX12_ask_b27
        rw [gd_t (k_45 mu), lt_t, q1, bd_t, gd_t (k_45 q2), fails_t q2 q3, bd_t, if_pos rfl, gd_t (k_45 q2), show fX12_asks 45 (6 : Int32) w = _ from g1, bd_t]
      · rw [g3.2.2.1, q6.2.2.1]; rfl
      · refine (g3.1 c a k (FC_scr z).2).trans ((q6.1 c a k (fun y => ?_)).trans ((su.tr (scr_thr u 0)).1 c a k (FC_scr z).1))
        simp [isFC] at z
        unfold RF at y
        omega
