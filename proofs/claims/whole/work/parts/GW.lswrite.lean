/-! CALLS: write, writtenAt -/
/-- what is written, both sides: the class's builder, the reference's row -/
def WRn (D : Nat → Prop) (cs : List Nat) (v : Nat) (h : PH) : Prop := SB cs v h ∧ ¬ D v ∧ 16 ≤ hN h v ∧ MWt cs h ∧ cs.length ≤ 2000
theorem SB.chg {F G : Nat → Nat → Nat → Prop} {L : Nat → Prop} {h h' : PH} {cs : List Nat} {v : Nat} (S : SB cs v h) (b : 89 ≤ hX h) (x : chg F G L h h') (f1 : ∀ k, ¬ F 13 43 k) (f2 : ∀ k, ¬ F 22 v k) (g : ¬ G 13 43 0) : SB cs v h' := by
  obtain ⟨s1, s2, s3, s4, s5, s6, s7, s8, s9, s10⟩ := S
  have e := x.2.2.2.2 v s6
  refine ⟨(x.2.2.1 13 43 0 (by omega) g).trans s1, e.1.trans s2, (x.2.1 13 43 1 (by omega) (f1 1)).trans s3, (x.2.1 13 43 3 (by omega) (f1 3)).trans s4, by rw [e.2]; exact s5, Nat.lt_of_lt_of_le s6 x.1, s7, by rw [e.2]; exact s8, fun i hi => ?_, fun i hi => (x.2.1 22 v i s6 (f2 i)).trans (s10 i hi)⟩
  rw [e.2] at hi
  rw [x.2.1 22 v i s6 (f2 i)]
  exact s9 i hi
theorem WRn.chg {F G : Nat → Nat → Nat → Prop} {L : Nat → Prop} {D D' : Nat → Prop} {h h' : PH} {cs : List Nat} {v : Nat} (W : WRn D cs v h) (b : 89 ≤ hX h) (x : chg F G L h h') (nD : ¬ D' v) (f1 : ∀ k, ¬ F 13 43 k) (f2 : ∀ k, ¬ F 22 v k) (g : ¬ G 13 43 0) (m1 : ¬ F 12 45 56) (m2 : ∀ k, ¬ F 20 84 k) : WRn D' cs v h' := by
  obtain ⟨w1, w2, w3, w4, w5⟩ := W
  exact ⟨w1.chg b x f1 f2 g, nD, by rw [(x.2.2.2.2 v w1.2.2.2.2.2.1).2]; exact w3, ⟨(x.2.1 12 45 56 (by omega) m1).trans w4.1, fun i hi => (x.2.1 20 84 i (by omega) (m2 i)).trans (w4.2 i hi)⟩, w5⟩
theorem scr22 {v k : Nat} : isScr 22 v k = false := by simp [isScr]
theorem WRn.scr {D : Nat → Prop} {h h' : PH} {cs : List Nat} {v : Nat} (W : WRn D cs v h) (b : 89 ≤ hX h) (s : scr h h') : WRn D cs v h' := W.chg b s.x W.2.1 (fun k z => by cases z) (fun k z => by rw [scr22] at z; cases z) (fun z => z) (fun z => by cases z) (fun k z => by cases z)
theorem setLength_eq {h : PH} (c : CSh h) {cs : List Nat} {v : Nat} (S : SB cs v h) : ∃ h', fJ4_setLength_d00df 43 0 h = some h' ∧ SB [] v h' ∧ onlyI (fun c a _ => c == 13 && a == 43) h h' := by
  obtain ⟨s1, s2, s3, s4, s5, s6, s7, s8, s9, s10⟩ := id S
  have st : fJ5_ensureCapacityInternal_d00df 43 0 h = some h := by
    unfold fJ5_ensureCapacityInternal_d00df fJ5_ensureCapacityInternal_d00df_b0 fJ5_ensureCapacityInternal_d00df_b38
    rw [gd_t (k_43 c), s1, gs_t, gd_t s2, s3, shr0, if_pos (show (0 : Int32) - nI (hN h v) ≤ 0 from (subLe (a := 0) (by decide) (by omega)).mpr (Nat.zero_le _))]
  have fin : ∀ u, onlyI (fun c a _ => c == 13 && a == 43) h u → hI u 13 43 1 = 0 → hI u 13 43 3 = 0 → SB [] v u := fun u o e1 e3 => by
    have r22 : ∀ i, hI u 22 v i = hI h 22 v i := fun i => o.1 22 v i rfl
    refine ⟨by rw [o.2.1]; exact s1, by rw [o.2.2.2.1]; exact s2, e1, e3, Nat.zero_le _, by rw [o.2.2.2.2.2.1]; exact s6, s7, by rw [o.2.2.2.2.1]; exact s8, fun i hi => ?_, fun i hi => absurd hi (Nat.not_lt_zero _)⟩
    rw [o.2.2.2.2.1] at hi
    rw [r22]
    exact s9 i hi
  have o1 : ∀ (u : PH) k x, onlyI (fun c a _ => c == 13 && a == 43) u (sI u 13 43 k x) := fun u k x => onlyI_sI _ _ rfl
  by_cases z : cs.length = 0
  · refine ⟨sI h 13 43 3 0, ?_, fin _ (o1 h 3 0) (by rw [hI_sI, if_neg (by simp)]; exact s3) (by rw [hI_sI, if_pos ⟨rfl, rfl, rfl⟩]), o1 h 3 0⟩
    unfold fJ4_setLength_d00df fJ4_setLength_d00df_b0 fJ4_setLength_d00df_b5 fJ5_setLength_d00df fJ5_setLength_d00df_b0 fJ5_setLength_d00df_b18 fJ5_setLength_d00df_b76
    rw [gd_t (k_43 c), if_pos (show (0 : Int32) ≤ 0 by decide), gd_t (k_43 c), st, bd_t, gd_t (k_43 c), s4, z, if_pos (show (0 : Int32) ≤ nI 0 by decide), if_pos (show nI 0 ≤ (0 : Int32) by decide), gd_t (k_43 c), lt_t, bd_t]
  · refine ⟨sI (sI h 13 43 2 1) 13 43 3 0, ?_, fin _ ((o1 h 2 1).tr (o1 _ 3 0)) (by rw [hI_sI, if_neg (by simp), hI_sI, if_neg (by simp)]; exact s3) (by rw [hI_sI, if_pos ⟨rfl, rfl, rfl⟩]), (o1 h 2 1).tr (o1 _ 3 0)⟩
    have k1 : hK (sI h 13 43 2 1) 43 = 13 := k_43 c
    unfold fJ4_setLength_d00df fJ4_setLength_d00df_b0 fJ4_setLength_d00df_b5 fJ5_setLength_d00df fJ5_setLength_d00df_b0 fJ5_setLength_d00df_b18 fJ5_setLength_d00df_b76
    rw [gd_t (k_43 c), if_pos (show (0 : Int32) ≤ 0 by decide), gd_t (k_43 c), st, bd_t, gd_t (k_43 c), s4, if_pos (show (0 : Int32) ≤ nI cs.length from show nI 0 ≤ nI cs.length from nI_le (Nat.zero_le _) (by omega)), if_neg (show ¬ nI cs.length ≤ (0 : Int32) from show ¬ nI cs.length ≤ nI 0 from nI_ge (by omega) (by omega)), lt_t, gd_t k1, lt_t, bd_t]
/-- what writing changes -/
def FWW (v c a k : Nat) : Prop := isScr c a k = true ∨ (c = 13 ∧ a = 43) ∨ (c = 22 ∧ a = v) ∨ (c = 12 ∧ a = 45 ∧ k = 56) ∨ (c = 20 ∧ a = 84)
theorem FWW_n {v c a k : Nat} (h1 : isScr c a k = false) (h2 : c ≠ 13) (h3 : c ≠ 22) (h4 : a ≠ 45) (h5 : a ≠ 84) : ¬ FWW v c a k := fun z => by
  rcases z with z | z | z | z | z
  · rw [h1] at z; cases z
  · omega
  · omega
  · omega
  · omega
theorem FWW_89 {v c a k : Nat} (h : 89 ≤ a) (h3 : c ≠ 22 ∨ a ≠ v) : ¬ FWW v c a k := fun z => by
  rcases z with z | z | z | z | z
  · rw [isScr_89 h] at z; cases z
  · omega
  · omega
  · omega
  · omega
theorem INV1.ww {tx : TX} {bs : List Nat} {er : Int32} {ks : List Nat} {e : Nat} {wa wb : Nat → Nat} {D : Nat → Prop} {kq : Nat → Option (QT 27)} {E : EVT} {R : PST} {h h' : PH} {v : Nat} (I : INV1 tx bs er ks e wa wb D kq E R h) (nD : ¬ D v) (hv : v = 44 ∨ 89 ≤ v) (x : chg (FWW v) GSb (fun a => a = 87) h h') : INV1 tx bs er ks e wa wb D kq E R h' := by
  obtain ⟨⟨c, o, B, X, K, Y, V, W, ne⟩, M, T⟩ := I
  have b := B.1
  have sMR_13 : ∀ q ∈ sMR, ¬ (q.1 = 13) := by decide
  refine ⟨⟨c.chg b x (fun q hq z => sCR_13 q hq z.1), o, B.chg x (fun _ z => absurd z.1 (by decide)) (fun _ _ z => absurd z.1 (by decide)) (fun a ha => FWW_89 ha (Or.inl (by decide))) (fun b k hb => FWW_89 hb (Or.inl (by decide))), X.chg b x (FWW_n rfl (by decide) (by decide) (by decide) (by decide)) (fun a k ha => FWW_89 ha (Or.inl (by decide))) (fun z => absurd z.1 (by decide)) (fun _ z => absurd z.1 (by decide)) (fun _ _ z => absurd z.1 (by decide)) (fun w hw z => ?_), K.chg b x (fun c y k dy => FWW_89 (K.1 y dy).1 (Or.inr (fun z => nD (z ▸ dy)))) (fun c y k dy z => by have := (K.1 y dy).1; have := z.2; omega) (fun _ _ z => absurd z.1 (by decide)) (fun a k h1 h2 h3 => FWW_n (scr60 a h1 h2 k h3) (by decide) (by decide) (by omega) (by omega)) (fun k hk => FWW_n (scr66 hk) (by decide) (by decide) (by decide) (by decide)) (fun p hp => ⟨FWW_n (scr67 hp).1 (by decide) (by decide) (by decide) (by decide), FWW_n (scr67 hp).2 (by decide) (by decide) (by decide) (by decide)⟩), Y.chg b x (fun p hp z => ?_), V.chg b x (fun c a k q z => ?_), W.chg b x ⟨FWW_n rfl (by decide) (by decide) (by decide) (by decide), FWW_n rfl (by decide) (by decide) (by decide) (by decide)⟩ (fun k => FWW_n rfl (by decide) (by decide) (by decide) (by decide)) (fun _ z => absurd z.1 (by decide)) (fun a ha => FWW_89 ha (Or.inl (by decide))) (fun _ _ z => absurd z.1 (by decide)) (fun b k hb => FWW_89 hb (Or.inl (by decide))), ne⟩, M.mv b x ⟨fun c a k h1 h2 h3 h4 h5 z => ?_, fun z => ?_, fun z => ?_⟩ (fun q hq z => sMR_13 q hq z.1), T.chg b x ⟨FWW_n rfl (by decide) (by decide) (by decide) (by decide), FWW_n rfl (by decide) (by decide) (by decide) (by decide), ?_, ?_, fun i => ⟨FWW_n rfl (by decide) (by decide) (by decide) (by decide), FWW_n rfl (by decide) (by decide) (by decide) (by decide)⟩⟩⟩
  · have z : wb w = 87 := z
    have := (X.ge hw).2
    omega
  · have z : 24 + p = 87 := z
    omega
  · have l := ec_lt q
    simp [isEC] at q
    rcases z with z | z | z | z | z
    · simp [isScr] at z; omega
    · omega
    · omega
    · omega
    · omega
  · rcases z with z | z | z | z | z
    · simp [isScr] at z; omega
    · omega
    · omega
    · omega
    · omega
  · rcases z with z | z | z | z | z
    · cases z
    · omega
    · omega
    · omega
    · omega
  · rcases z with z | z | z | z | z
    · cases z
    · omega
    · omega
    · omega
    · omega
  · intro z
    rcases z with z | z | z | z | z
    · cases z
    · omega
    · omega
    · omega
    · omega
  · intro z
    rcases z with z | z | z | z | z
    · cases z
    · omega
    · omega
    · omega
    · omega
theorem ch1 : ∀ c, c < 128 → (((Int32.toUInt32 (nI c &&& (255 : Int32))) % 65536).toInt32) = nI c ∧ ((((Int32.toUInt32 (nI c)).toUInt16).toUInt32).toInt32 = nI c) ∧ (((Int32.toUInt32 (nI c)) % 65536).toInt32) = nI c := by decide +kernel
theorem ls_writtenAt {h : PH} {P : PH → Prop} {D : Nat → Prop} {cs : List Nat} {v : Nat} (c : CSh h) (m : MSh h) (b : 89 ≤ hX h) (W : WRn D cs v h) (a1 a2 a3 a4 a5 : Int32) (hP : ∀ h', scr h h' → P h') : LS_44 10 45 87 88 a1 a2 a3 a4 a5 h P := by
  show LBody (fX11_writtenAt 10 a1 h) (fX12_writtenAt 45 a1) (fun c => c = 2) (fun c v => c = 2 ∧ v = some (.int 1)) h P
  obtain ⟨S, nD, h16, Mw, l2⟩ := id W
  obtain ⟨s1, s2, s3, s4, s5, s6, s7, s8, s9, s10⟩ := id S
  have b36 : ∀ x, x < 128 → ∀ u, fX12_writtenAt_b36 (nI x) u = some (nI x, u) := fun x hx u => by
    unfold fX12_writtenAt_b36
    exact gd_t (ch1 x hx).2.1
  rcases idx_or (n := cs.length) (by omega) a1 with hx | ⟨i, hi, rfl⟩
  · refine lb_exc c m (e := 2) (code := 1) ?_ rfl (fun v hv => hv.2) (by decide) (fun u su => ⟨(32, sI (sI u 12 45 0 0) 12 45 0 1), ?_, (scr_thr _ 0).tr (scr_thr _ 1), (hI_sI _ _ _ _ _ _ _ _).trans (if_pos ⟨rfl, rfl, rfl⟩)⟩) hP
    · unfold fX11_writtenAt fX11_writtenAt_b0 fX11_writtenAt_b15 fJ4_length_8abf5 fJ5_length_8abf5
      by_cases z : a1 < 0
      · rw [if_pos z]
      · rw [if_neg z, gd_t (k_10 c), r11_10_10 c, gs_t, gd_t (k_43 c), gd_t (k_43 c), gd_t (k_43 c), s4, bd_t, bd_t, if_neg (hx.resolve_left z)]
    · have mu := m.scr su
      have Wu := (W.scr b su).2.2.2.1
      have e56 : hI (sI u 12 45 0 0) 12 45 56 = nI cs.length := by rw [hI_sI, if_neg (by simp)]; exact Wu.1
      have mu0 := mu.scr (scr_thr u 0)
      unfold fX12_writtenAt
      rw [gd_t (k_45 mu), lt_t, e56, inIdx_n (by omega) hx, bd_t, fails_f mu0 (thr0 u) (by decide), bd_t, if_neg (show ¬ (1 : Int32) = 0 by decide)]
      exact b36 32 (by decide) _
  · obtain ⟨x, x1, x2⟩ := s9 i (by omega)
    have xe := s10 i hi
    rw [x2] at xe
    have ci : Int32.toNatClampNeg (nI i) = i := nI_clamp (by omega)
    obtain ⟨d1, d2, d3⟩ := ch1 x x1
    refine lb_val c m (v0 := nI x) ?_ (fun u su => ?_) hP
    · have mn : (if nI (hN h v) < nI cs.length then nI (hN h v) else nI cs.length) = nI cs.length := if_neg (by rw [nI_ltI (by omega) (by omega)]; omega)
      unfold fX11_writtenAt fX11_writtenAt_b0 fJ4_length_8abf5 fJ5_length_8abf5 fJ4_charAt_5068e fJ5_charAt_5068e fJ0_checkIndex_df160 fJ3_checkIndex_8e157
      rw [if_neg (nI_pos (by omega)), gd_t (k_10 c), r11_10_10 c, gs_t, gd_t (k_43 c), gd_t (k_43 c), gd_t (k_43 c), s4, bd_t, bd_t, if_pos (nI_lt hi (by omega)), gs_t, gd_t (k_43 c), gd_t (k_43 c), gd_t (k_43 c), s1, gs_t, gd_t s2, s3, shr0, s4, mn, if_neg (nI_pos (by omega)), if_pos (nI_lt hi (by omega)), bd_t, bd_t, if_neg (fun z => z rfl), gd_t (inbI (by omega) (by omega)), ci, x2, d1, gd_t d2, bd_t, gd_t d2, bd_t, gd_t d2]
    · have mu := m.scr su
      have Wu := (W.scr b su).2.2.2.1
      have mu0 := mu.scr (scr_thr u 0)
      have e56 : hI (sI u 12 45 0 0) 12 45 56 = nI cs.length := by rw [hI_sI, if_neg (by simp)]; exact Wu.1
      have e84 : hI (sI u 12 45 0 0) 20 84 i = nI x := by rw [hI_sI, if_neg (fun z => absurd z.1 (by decide)), Wu.2 i hi, ← xe]
      refine ⟨sI u 12 45 0 0, ?_, scr_thr u 0, thr0 u, rfl⟩
      unfold fX12_writtenAt
      rw [gd_t (k_45 mu), lt_t, e56, inIdx_s (by omega) hi, bd_t, fails_t mu0 (thr0 u), bd_t, if_pos rfl, gd_t (k_45 mu0), r12_45_54 mu0, gs_t, gd_t ⟨k_84 mu0, by rw [n_84 mu0]; exact inbI (by omega) (by decide)⟩, ci, e84, d3]
      exact b36 x x1 _
theorem ls_write {h : PH} {P : PH → Prop} {tx : TX} {bs : List Nat} {er : Int32} {ks : List Nat} {e : Nat} {wa wb : Nat → Nat} {D : Nat → Prop} {kq : Nat → Option (QT 27)} {E : EVT} {R : PST} {cs : List Nat} {v : Nat} (I : INV1 tx bs er ks e wa wb D kq E R h) (OK : ∀ i, i < 6 → ∀ Q, kq i = some Q → OKK Q) (Wr : WRn D cs v h) (a1 a2 a3 a4 a5 : Int32) (hPs : ∀ h', scr h h' → P h') (hP : ∀ h' cs' v', INV1 tx bs er ks e wa wb D kq E R h' → WRn D cs' v' h' → chg (FWW v) GSb (fun a => a = 87) h h' → P h') : LS_43 10 45 87 88 a1 a2 a3 a4 a5 h P := by
  obtain ⟨C, M, T⟩ := id I
  obtain ⟨c, o, B, X, K, Y, V, W, ne⟩ := id C
  have b := B.1
  have m := M.1
  obtain ⟨S, nD, h16, Mw, l2⟩ := id Wr
  show LBody (fX11_write 10 a1 h) (fX12_write 45 a1) (fun c => c = 1 ∨ c = 3) (fun c v => (c = 1 ∧ v = some (.int 1)) ∨ (c = 3 ∧ v = some (.int 2))) h P
  rcases idx_or (n := 6) (by decide) a1 with hx | ⟨p, hp, rfl⟩
  · refine lb_exc c m (e := 1) (code := 1) ?_ (Or.inl rfl) (fun v hv => hv.elim (fun q => q.2) (fun q => absurd q.1 (by decide))) (by decide) (fun u su => ⟨(0, sI (sI u 12 45 0 0) 12 45 0 1), ?_, (scr_thr _ 0).tr (scr_thr _ 1), (hI_sI _ _ _ _ _ _ _ _).trans (if_pos ⟨rfl, rfl, rfl⟩)⟩) hPs
    · unfold fX11_write fX11_write_b0
      rw [keptPlace_n hx, bx_r]
    · have mu := m.scr su
      unfold fX12_write
      rw [gd_t (k_45 mu), lt_t, noKept_x (mu.scr (scr_thr u 0)) (thr0 u) hx, bd_t]
      exact if_neg (show ¬ (1 : Int32) = 0 by decide)
  · cases eq : kq p with
    | none =>
      refine lb_exc c m (e := 3) (code := 2) ?_ (Or.inr rfl) (fun v hv => hv.elim (fun q => absurd q.1 (by decide)) (fun q => q.2)) (by decide) (fun u su => ⟨(0, sI (sI u 12 45 0 0) 12 45 0 2), ?_, (scr_thr _ 0).tr (scr_thr _ 2), (hI_sI _ _ _ _ _ _ _ _).trans (if_pos ⟨rfl, rfl, rfl⟩)⟩) hPs
      · unfold fX11_write fX11_write_b0 fX11_write_b4
        rw [keptPlace_s hp, bx_l, gd_t (k_10 c), demandKept_n c K hp eq, bx_r]
      · have mu := m.scr su
        have st := su.tr (scr_thr u 0)
        unfold fX12_write
        rw [gd_t (k_45 mu), lt_t, noKept_n (mu.scr (scr_thr u 0)) (thr0 u) (K.scx b st.x) hp eq, bd_t]
        exact if_neg (show ¬ (1 : Int32) = 0 by decide)
    | some Q =>
      obtain ⟨a, d1, d2⟩ := demandKept_s c K hp eq
      have BQ := (K.s hp eq).2
      have wf := BQ.2.2.2.2
      have K0 := OK p hp Q eq
      have sl := spQ_len 27 Q wf
      have s4 := BQ.2.2.1
      have w20 := K0.1
      have len : (spQ 27 Q).length ≤ 1777 := by omega
      obtain ⟨h1, f1, S1, o1⟩ := setLength_eq c S
      have x1 : chg (FWW v) GSb (fun a => a = 87) h h1 := chg_I o1 (fun c a k z => by
        rw [Bool.and_eq_true, beq_iff_eq, beq_iff_eq] at z
        exact Or.inr (Or.inl z))
      have c1 := c.oI o1
      have b1 : 89 ≤ hX h1 := by rw [o1.2.2.2.2.2.1]; exact b
      have V1 : DV D v h1 := ⟨fun x dx => by rw [o1.2.2.2.2.2.1]; exact K.1 x dx, nD⟩
      have C1 : QC h1 D 27 Q a := QC.mono (fun x dx => by
        have := (K.1 x dx).1
        have e : ∀ m, m < 89 → (x == m) = false := fun m hm => by simp; omega
        exact ⟨dx, fun c k => o1.1 c x k (by
          show (c == 13 && x == 43) = false
          rw [e 43 (by decide), Bool.and_false]), fun c k => by rw [o1.2.1], by rw [o1.2.2.2.1], by rw [o1.2.2.2.2.1]⟩) 27 Q a d2
      obtain ⟨v2, h2, f2, W2⟩ := spell_eq 27 Q wf h1 v a [] c1 b1 S1 V1 C1 (by show 0 + _ + 20 < 3990; omega) 44 0 (by decide) (by decide)
      have f2 : fX4_spell (some a) (some 43) 0 h1 = some h2 := f2
      have S2 : SB (spQ 27 Q) v2 h2 := W2.1
      have x2 : chg (FWW v) GSb (fun a => a = 87) h h2 := x1.tr (W2.2.1.mono (fun c' a' k _ z => z.elim (fun t => Or.inr (Or.inl t)) (fun t => Or.inr (Or.inr (Or.inl t)))) (fun _ _ _ _ z => z) (fun _ _ z => z.elim))
      have c2 := c1.wrt b1 W2
      have n1 : hN h1 v = hN h v := by rw [o1.2.2.2.2.1]
      have rX : 18 * hX h2 + hN h v ≤ 18 * hX h + hN h2 v2 := by
        have := W2.2.2.1 (by rw [n1]; exact h16)
        rw [n1, o1.2.2.2.2.2.1] at this
        exact this
      have rV : hV h2 + 2 * hN h v ≤ hV h + 2 * hN h2 v2 := by
        have := W2.2.2.2.2.1
        rw [n1, o1.2.2.2.2.2.2] at this
        exact this
      have rN : hN h2 v2 = hN h v ∨ hN h2 v2 ≤ 2 * (0 + (spQ 27 Q).length) + 2 := by
        have := W2.2.2.2.2.2.1
        rw [n1] at this
        exact this
      have rG : hN h v ≤ hN h2 v2 := by
        have := W2.2.2.2.1
        rw [n1] at this
        exact this
      have V2 := V1.w W2
      refine lb_gen (h1 := h2) (v0 := nI (spQ 27 Q).length) c ?_ c2 (by omega) (by omega) (fun u su _ => ?_)
      · unfold fX11_write fX11_write_b0 fX11_write_b4 fX11_write_b9 fX11_write_b18 fX11_write_b27 fJ4_length_8abf5 fJ5_length_8abf5
        rw [keptPlace_s hp, bx_l, gd_t (k_10 c), d1, bx_l, gd_t (k_10 c), r11_10_10 c, gs_t, gd_t (k_43 c), f1, bd_t, gd_t (k_10 c1), r11_10_10 c1, f2, bd_t, gd_t (k_10 c2), r11_10_10 c2, gs_t, gd_t (k_43 c2), gd_t (k_43 c2), gd_t (k_43 c2), S2.2.2.2.1, bd_t, bd_t]
      · have s1 : scr h2 (sI u 12 45 0 0) := su.tr (scr_thr u 0)
        have y0 : chg (FWW v) GSb (fun a => a = 87) h (sI u 12 45 0 0) := x2.tr (s1.chg (fun _ _ _ z => Or.inl z) rfl)
        have I0 := I.ww nD S.2.2.2.2.2.2.1 y0
        have K1 := I0.1.2.2.2.2.1
        have m0 := I0.2.1.1
        have mu : MSh u := m0.of (fun q _ => rfl) (fun a _ => rfl) (fun a _ => rfl)
        have Bu := (K1.s hp eq).2
        have q8 : p < 8 := by omega
        have cp : Int32.toNatClampNeg (nI p) = p := nI_clamp (by omega)
        -- the reference begins
        have g1o : oP FWr (sI u 12 45 0 0) (sI (sI (sI u 12 45 0 0) 12 45 56 0) 12 45 57 0) := ((oP.rf _ _).sI _ (Or.inl ⟨rfl, rfl, Or.inl rfl⟩)).sI _ (Or.inl ⟨rfl, rfl, Or.inr rfl⟩)
        have mg1 := m0.oP g1o
        have W0 : MWt [] (sI (sI (sI u 12 45 0 0) 12 45 56 0) 12 45 57 0) := ⟨by rw [hI_sI, if_neg (by simp), hI_sI, if_pos ⟨rfl, rfl, rfl⟩]; rfl, fun i hi => absurd hi (Nat.not_lt_zero _)⟩
        have T0 : MSt [] (sI (sI (sI u 12 45 0 0) 12 45 56 0) 12 45 57 0) := ⟨by rw [hI_sI, if_pos ⟨rfl, rfl, rfl⟩]; rfl, fun i hi => absurd hi (Nat.not_lt_zero _)⟩
        obtain ⟨g2, j1, j2, j3⟩ := lays_m mg1 T0 (by decide) (nI (sz 27 Q - 1))
        have g2o := g1o.tr (j2.mono FSt_r)
        obtain ⟨w, k1, k2, k3, k4⟩ := wr_m m0 q8 27 Q 0 [] [] g2 g2o Bu.2.2.2.1 wf (by omega) (by rw [Nat.zero_add]; exact j3) (W0.st j2) (by show 0 + _ ≤ 2000; omega) (by show 0 + _ ≤ 2000; omega)
        have mw := m0.oP k2
        have k4 : MWt (spQ 27 Q) w := k4
        have r69 : hI (sI (sI (sI u 12 45 0 0) 12 45 56 0) 12 45 57 0) 20 69 p = nI (sz 27 Q - 1) := (g1o.1 20 69 p (fun z => by unfold FWr at z; omega)).trans Bu.2.1
        have yw : chg (FWW v) GSb (fun a => a = 87) h w := y0.tr (oP_chg (k2.mono (fun c a k z => show FWW v c a k from by
          rcases z with ⟨z1, z2, z3⟩ | ⟨z1, z2⟩
          · rcases z3 with z3 | z3
            · exact Or.inr (Or.inr (Or.inr (Or.inl ⟨z1, z2, z3⟩)))
            · left
              rw [z1, z2, z3]; rfl
          · rcases z2 with z2 | z2
            · exact Or.inr (Or.inr (Or.inr (Or.inr ⟨z1, z2⟩)))
            · left
              rw [z1, z2]; rfl)))
        have Iw := I.ww nD S.2.2.2.2.2.2.1 yw
        -- the builder stands while the reference writes
        have yb1 : chg (fun c a k => isScr c a k = true ∨ FWr c a k) (fun _ _ _ => False) (fun a => a = 87) h2 (sI u 12 45 0 0) := s1.chg (fun _ _ _ z => Or.inl z) rfl
        have yb2 : chg (fun c a k => isScr c a k = true ∨ FWr c a k) (fun _ _ _ => False) (fun a => a = 87) (sI u 12 45 0 0) w := oP_chg (k2.mono (fun _ _ _ z => Or.inr z))
        have yb := yb1.tr yb2
        have b2 : 89 ≤ hX h2 := Nat.le_trans b x2.1
        have Sw : SB (spQ 27 Q) v2 w := S2.chg b2 yb (fun k z => by
          rcases z with z | z
          · cases z
          · unfold FWr at z; omega) (fun k z => by
          rcases z with z | z
          · rw [scr22] at z; cases z
          · unfold FWr at z; omega) (fun z => z)
        refine ⟨w, k_45 mu, ?_, Iw.1.1, Iw.2.1.1, (k2.1 12 45 0 (fun z => by unfold FWr at z; omega)).trans (thr0 u), ?_, hP w (spQ 27 Q) v2 Iw ⟨Sw, V2.2, by rw [(yb.2.2.2.2 v2 S2.2.2.2.2.2.1).2]; omega, k4, by omega⟩ yw⟩
        · unfold fX12_write
          rw [gd_t (k_45 mu), lt_t, noKept_b m0 (thr0 u) hp Bu, bd_t, if_pos rfl, gd_t (k_45 m0), lt_t, lt_t, r12_45_34 mg1, gs_t, gd_t ⟨k_69 mg1, by rw [n_69 mg1]; exact inbI (by omega) (by decide)⟩, cp, r69, j1, bd_t]
          unfold fX12_write_l35
          refine k1 _ (wh_done ?_)
          show fX12_write_c35 45 (nI p) w = _
          unfold fX12_write_c35
          rw [gd_t (k_45 mw), k3.1, if_pos (show nI ([] : List Int32).length ≤ (0 : Int32) by decide), k4.1, mr_t]
        · rw [k2.2.2.1]
          rfl
