/-! CALLS: compare -/
def FD4 (c a k : Nat) : Prop := (c = 0 ∧ a = 38 ∧ k = 4) ∨ (c = 20 ∧ a = 42) ∨ (c = 12 ∧ a = 45 ∧ k = 59) ∨ (c = 20 ∧ a = 86)
def FCm (c a k : Nat) : Prop := isScr c a k = true ∨ FD4 c a k
def cmC (h h' : PH) : Prop := chg FCm G3a (fun a => a = 87) h h'
theorem FCm_89 {c a k : Nat} (h : 89 ≤ a) : ¬ FCm c a k := fun z => by
  rcases z with z | z
  · rw [isScr_89 h] at z; cases z
  · unfold FD4 at z; omega
theorem FCm_n {c a k : Nat} (h1 : isScr c a k = false) (h2 : a ≠ 38) (h3 : a ≠ 42) (h4 : a ≠ 45) (h5 : a ≠ 86) : ¬ FCm c a k := fun z => by
  rcases z with z | z
  · rw [h1] at z; cases z
  · unfold FD4 at z; omega
theorem cm_scr {h h' : PH} (s : scr h h') : cmC h h' := s.chg (fun _ _ _ z => Or.inl z) rfl
theorem cm_nc3 {h h' : PH} (x : nc3 h h') : cmC h h' := x.mono (fun _ _ _ _ z => z.elim) (fun _ _ _ _ z => z) (fun _ _ z => z.elim)
theorem cm_oI {F : Nat → Nat → Nat → Bool} {h h' : PH} (s : onlyI F h h') (f : ∀ c a k, F c a k = true → FCm c a k) : cmC h h' := chg_I s f
theorem sr_cm : ∀ c a k, isSr c a k = true → FCm c a k := fun c a k z => by
  unfold isSr at z
  rw [Bool.or_eq_true] at z
  rcases z with z | z
  · exact Or.inl (isTq_scr z)
  · unfold isLe at z
    rw [Bool.or_eq_true, Bool.and_eq_true, Bool.and_eq_true, Bool.and_eq_true, beq_iff_eq, beq_iff_eq, beq_iff_eq, beq_iff_eq, beq_iff_eq] at z
    right
    unfold FD4
    omega
theorem cp_cm : ∀ c a k, isCp c a k = true → FCm c a k := fun c a k z => by
  unfold isCp at z
  rw [Bool.or_eq_true] at z
  rcases z with z | z
  · exact Or.inl (isHo_scr z)
  · unfold isDm at z
    rw [Bool.or_eq_true, Bool.and_eq_true, Bool.and_eq_true, Bool.and_eq_true, beq_iff_eq, beq_iff_eq, beq_iff_eq, beq_iff_eq, beq_iff_eq] at z
    right
    unfold FD4
    omega
theorem INV1.dm {tx : TX} {bs : List Nat} {er : Int32} {ks : List Nat} {e : Nat} {wa wb : Nat → Nat} {D : Nat → Prop} {kq : Nat → Option (QT 27)} {E : EVT} {R : PST} {h h' : PH} {F : Nat → Nat → Nat → Bool} (I : INV1 tx bs er ks e wa wb D kq E R h) (s : onlyI F h h') (f : ∀ c a k, F c a k = true → FCm c a k) : INV1 tx bs er ks e wa wb D kq E R h' := by
  obtain ⟨⟨c, o, B, X, K, Y, V, W, ne⟩, M, T⟩ := I
  have b := B.1
  have x : chg FCm GM LM h h' := chg_I s f
  have f89 : ∀ c a k, 89 ≤ a → ¬ FCm c a k := fun c a k ha => FCm_89 ha
  refine ⟨⟨c.chg b x (fun _ _ z => z), o, B.chg x (fun _ z => z) (fun _ _ z => z) (fun a ha => f89 _ _ _ ha) (fun b k hb => f89 _ _ _ hb), X.chg b x (FCm_n rfl (by decide) (by decide) (by decide) (by decide)) (fun a k ha => f89 _ _ _ ha) (fun z => z) (fun _ z => z) (fun _ _ z => z) (fun w hw z => ?_), K.chg b x (fun c y k dy => f89 _ _ _ (K.1 y dy).1) (fun _ _ _ _ z => z) (fun _ _ z => z) (fun a k h1 h2 h3 => FCm_n (scr60 a h1 h2 k h3) (by omega) (by omega) (by omega) (by omega)) (fun k hk => FCm_n (scr66 hk) (by decide) (by decide) (by decide) (by decide)) (fun p hp => ⟨FCm_n (scr67 hp).1 (by decide) (by decide) (by decide) (by decide), FCm_n (scr67 hp).2 (by decide) (by decide) (by decide) (by decide)⟩), Y.chg b x (fun p hp z => ?_), V.chg b x (fun c a k q z => ?_), W.chg b x ⟨FCm_n rfl (by decide) (by decide) (by decide) (by decide), FCm_n rfl (by decide) (by decide) (by decide) (by decide)⟩ (fun k => FCm_n rfl (by decide) (by decide) (by decide) (by decide)) (fun _ z => z) (fun a ha => f89 _ _ _ ha) (fun _ _ z => z) (fun b k hb => f89 _ _ _ hb), ne⟩, M.mv b x ⟨fun c a k h1 h2 h3 h4 h5 z => ?_, fun z => ?_, fun z => ?_⟩ (fun q hq z => z), T.chg b x ⟨FCm_n rfl (by decide) (by decide) (by decide) (by decide), FCm_n rfl (by decide) (by decide) (by decide) (by decide), ?_, ?_, fun i => ⟨FCm_n rfl (by decide) (by decide) (by decide) (by decide), FCm_n rfl (by decide) (by decide) (by decide) (by decide)⟩⟩⟩
  · have z : wb w = 87 := z
    have := (X.ge hw).2
    omega
  · have z : 24 + p = 87 := z
    omega
  · have l := ec_lt q
    simp [isEC] at q
    rcases z with z | z
    · simp [isScr] at z; omega
    · unfold FD4 at z; omega
  · rcases z with z | z
    · simp [isScr] at z; omega
    · unfold FD4 at z; omega
  · rcases z with z | z
    · cases z
    · unfold FD4 at z; omega
  · rcases z with z | z
    · cases z
    · unfold FD4 at z; omega
  · intro z
    rcases z with z | z
    · cases z
    · unfold FD4 at z; omega
  · intro z
    rcases z with z | z
    · cases z
    · unfold FD4 at z; omega
theorem QC.cm {h h' : PH} {D : Nat → Prop} (dD : ∀ x, D x → 89 ≤ x ∧ x < hX h) (x : cmC h h') {n : Nat} {Q : QT n} {a : Nat} (C : QC h D n Q a) : QC h' D n Q a := by
  have sm : ∀ y, D y → same h h' y := fun y dy => by
    have hy := dD y dy
    exact ⟨fun c k => x.2.1 c y k hy.2 (FCm_89 hy.1), fun c k => x.2.2.1 c y k hy.2 (fun z => by have := z.2; omega), (x.2.2.2.2 y hy.2).1, (x.2.2.2.2 y hy.2).2⟩
  exact QC.mono (fun y dy => ⟨dy, sm y dy⟩) n Q a C
theorem CHc.nc {ks : List Nat} {h h' : PH} (K : CHc ks h) (b : 89 ≤ hX h) (x : nc3 h h') : CHc ks h' := ⟨(x.2.1 0 38 1 (by omega) (fun z => z)).trans K.1, fun i hi => (x.2.1 20 39 i (by omega) (fun z => z)).trans (K.2 i hi)⟩
/-- the class as far as its words -/
theorem ccomp_eq {h : PH} {tx : TX} {bs : List Nat} {er : Int32} {ks : List Nat} {e : Nat} {wa wb : Nat → Nat} {D : Nat → Prop} {kq : Nat → Option (QT 27)} {E : EVT} {R : PST} (I : INV1 tx bs er ks e wa wb D kq E R h) {p1 p2 : Nat} (hp1 : p1 < 6) (hp2 : p2 < 6) {Q1 Q2 : QT 27} (e1 : kq p1 = some Q1) (e2 : kq p2 = some Q2) : ∃ h', INV1 tx bs er ks e wa wb D kq E R h' ∧ cmC h h' ∧ hX h' ≤ hX h + 802 ∧ hV h' ≤ hV h + 6000 ∧ ((allz (lvs 27 Q1) = true ∧ allz (lvs 27 Q2) = true ∧ (inW (inW [] (lvs 27 Q1)) (lvs 27 Q2)).length ≤ 10) → SK (inW (inW [] (lvs 27 Q1)) (lvs 27 Q2)) ∧ ∃ o, fX11_compare 10 (nI p1) (nI p2) h = some (.inl (hI h' 0 38 4, h')) ∧ BEST (inW (inW [] (lvs 27 Q1)) (lvs 27 Q2)).length (DQ (inW (inW [] (lvs 27 Q1)) (lvs 27 Q2)) Q1 Q2) (o.map (rv (inW (inW [] (lvs 27 Q1)) (lvs 27 Q2)).length)) ∧ LEa (txO (inW (inW [] (lvs 27 Q1)) (lvs 27 Q2)) o) h') ∧ (¬ (allz (lvs 27 Q1) = true ∧ allz (lvs 27 Q2) = true ∧ (inW (inW [] (lvs 27 Q1)) (lvs 27 Q2)).length ≤ 10) → fX11_compare 10 (nI p1) (nI p2) h = some (.inr (0, h')) ∧ ∀ c a k, FD4 c a k → hI h' c a k = hI h c a k) := by
  obtain ⟨C, M, T⟩ := id I
  obtain ⟨c, o, B, X, K, Y, V, W, ne⟩ := id C
  have b := B.1
  obtain ⟨q1, d1, C1⟩ := demandKept_s c K hp1 e1
  obtain ⟨q2, d2, C2⟩ := demandKept_s c K hp2 e2
  have B1 := (K.s hp1 e1).2
  have B2 := (K.s hp2 e2).2
  have w1 := B1.2.2.2.2
  have w2 := B2.2.2.2.2
  have ok1 := lvs_ok 27 Q1 w1
  have ok2 := lvs_ok 27 Q2 w2
  have sl : ∀ Q : QT 27, sz 27 Q ≤ 400 → (lvs 27 Q).length ≤ 400 := fun Q hQ => by
    have : (lvs 27 Q).length ≤ sz 27 Q := by
      rw [← flat_lvs, ← flat_len]
      exact List.length_filterMap_le _ _
    omega
  -- no words yet
  have s0 : scr h (sI h 0 38 1 0) := scr_sI h 0 rfl
  have I0 := I.scr s0
  have c0 := I0.1.1
  have b0 : 89 ≤ hX (sI h 0 38 1 0) := b
  have K0 : CHc [] (sI h 0 38 1 0) := ⟨by rw [hI_sI, if_pos ⟨rfl, rfl, rfl⟩]; rfl, fun i hi => absurd hi (Nat.not_lt_zero _)⟩
  have fg : fX0_forgetWords 38 h = some (sI h 0 38 1 0) := by
    unfold fX0_forgetWords
    rw [gd_t (k_38 c), lt_t]
  -- the first's parts
  obtain ⟨ea, h1, as, p11, p12, p13, p14, p15, p16⟩ := partsOf_eq c0 b0 (fun x dx => K.1 x dx) (C1.cm (fun x dx => K.1 x dx) (cm_scr s0)) w1 B1.2.2.1
  have I1 := I0.nc3 p12
  have c1 := I1.1.1
  have b1 := I1.1.2.2.1.1
  have SK0 : SK [] := ⟨List.Pairwise.nil, fun w hw => absurd hw List.not_mem_nil⟩
  obtain ⟨z1, h2, g11, g12, g13, g14⟩ := gather_w c1 (fun x dx => (K.1 x dx).1) p13 b0 p14 ok1 (sl Q1 B1.2.2.1) SK0 (K0.nc b0 p12) (Nat.zero_le 10)
  have s2 : scr h1 h2 := g12.scr (fun _ _ _ z => isCh_scr z)
  have I2 := I1.scr s2
  have c2 := I2.1.1
  have b2 := I2.1.2.2.1.1
  have x02 : cmC h h2 := ((cm_scr s0).tr (cm_nc3 p12)).tr (cm_scr s2)
  have n02 : ∀ c a k, FD4 c a k → hI h2 c a k = hI h c a k := fun c a k z => by
    have ns : isScr c a k = false := by
      unfold FD4 at z
      rcases z with ⟨rfl, rfl, rfl⟩ | ⟨rfl, rfl⟩ | ⟨rfl, rfl, rfl⟩ | ⟨rfl, rfl⟩ <;> rfl
    have a89 : a < 89 := by unfold FD4 at z; omega
    rw [s2.1 c a k ns, p12.2.1 c a k (by omega) (fun y => y), s0.1 c a k ns]
  have hx0 : hX (sI h 0 38 1 0) = hX h := rfl
  have hv0 : hV (sI h 0 38 1 0) = hV h := rfl
  have hx2 : hX h2 = hX h1 := g12.2.2.2.2.2.1
  have hv2 : hV h2 = hV h1 := g12.2.2.2.2.2.2
  have cl : fX11_compare 10 (nI p1) (nI p2) h = (if bI z1 = 0 then some (.inr (0, h2)) else bd (fX11_simplePartsOf (some q2) h2) (fun z23 => fX11_compare_b51 10 (some q1) (some q2) (some 38) z23.1 z23.2)) := by
    unfold fX11_compare fX11_compare_b0 fX11_compare_b4 fX11_compare_b8 fX11_compare_b13 fX11_compare_b19 fX11_compare_b36 fX11_compare_b57
    rw [keptPlace_s hp1, bx_l, keptPlace_s hp2, bx_l, gd_t (k_10 c), d1, bx_l, gd_t (k_10 c), d2, bx_l, gd_t (k_10 c), r11_10_9 c, gs_t, gd_t (k_38 c), fg, bd_t, gd_t (k_10 c0), p11, bd_t, r11_10_9 c0, gs_t, gd_t (k_38 c1), g11, bd_t, gd_t (k_10 c2), r11_10_9 c2]
  cases zz1 : z1 with
  | false =>
    rw [zz1] at cl g13
    rw [if_pos (show bI false = 0 from rfl)] at cl
    refine ⟨h2, I2, x02, by omega, by omega, fun y => ?_, fun _ => ⟨cl, n02⟩⟩
    obtain ⟨y1, y2, y3⟩ := y
    have := gaW_s (lvs 27 Q1) [] y1 (Nat.le_trans (inW_ge (lvs 27 Q2) _) y3)
    rw [this] at g13
    cases g13
  | true =>
    rw [zz1] at cl g13
    rw [if_neg (show ¬ bI true = 0 by decide)] at cl
    obtain ⟨k1, hk1⟩ : ∃ k1, gaW [] (lvs 27 Q1) = some k1 := Option.isSome_iff_exists.mp g13.symm
    obtain ⟨K2, SK1, l1⟩ := g14 k1 hk1
    have az1 : allz (lvs 27 Q1) = true := by
      cases y : allz (lvs 27 Q1) with
      | true => rfl
      | false => rw [gaW_n (lvs 27 Q1) [] (Nat.zero_le 10) (Or.inl y)] at hk1; cases hk1
    have l10 : (inW [] (lvs 27 Q1)).length ≤ 10 := by
      apply Nat.le_of_not_lt
      intro y
      rw [gaW_n (lvs 27 Q1) [] (Nat.zero_le 10) (Or.inr y)] at hk1
      cases hk1
    have ek : k1 = inW [] (lvs 27 Q1) := by
      rw [gaW_s _ _ az1 l10] at hk1
      exact (Option.some.inj hk1).symm
    subst ek
    -- the second's parts
    obtain ⟨eb, h3, bs', r11, r12, r13, r14, r15, r16⟩ := partsOf_eq c2 b2 (fun x dx => by have := K.1 x dx; have := x02.1; omega) (C2.cm (fun x dx => K.1 x dx) x02) w2 B2.2.2.1
    have I3 := I2.nc3 r12
    have c3 := I3.1.1
    obtain ⟨z2, h4, u11, u12, u13, u14⟩ := gather_w c3 (fun x dx => (K.1 x dx).1) r13 b2 r14 ok2 (sl Q2 B2.2.2.1) SK1 (K2.nc b2 r12) l1
    have s4 : scr h3 h4 := u12.scr (fun _ _ _ z => isCh_scr z)
    have I4 := I3.scr s4
    have c4 := I4.1.1
    have x04 : cmC h h4 := (x02.tr (cm_nc3 r12)).tr (cm_scr s4)
    have hx4 : hX h4 = hX h3 := u12.2.2.2.2.2.1
    have hv4 : hV h4 = hV h3 := u12.2.2.2.2.2.2
    have n04 : ∀ c a k, FD4 c a k → hI h4 c a k = hI h c a k := fun c a k z => by
      have ns : isScr c a k = false := by
        unfold FD4 at z
        rcases z with ⟨rfl, rfl, rfl⟩ | ⟨rfl, rfl⟩ | ⟨rfl, rfl, rfl⟩ | ⟨rfl, rfl⟩ <;> rfl
      have a89 : a < 89 := by unfold FD4 at z; omega
      rw [s4.1 c a k ns, r12.2.1 c a k (by omega) (fun y => y)]
      exact n02 c a k z
    have cl2 : fX11_compare 10 (nI p1) (nI p2) h = (if ¬ bI z2 = 0 then bd (fX0_search 38 (some q1) (some q2) h4) (fun z32 => gd (hK z32 10 = 11) (gs (hR z32 11 10 9) (fun a34 => gd (hK z32 a34 = 0) (some (.inl (hI z32 0 a34 4, z32)))))) else some (.inr (0, h4))) := by
      rw [cl, r11, bd_t]
      unfold fX11_compare_b51 fX11_compare_b57
      rw [gs_t, gd_t (k_38 c3), u11, bd_t, gd_t (k_10 c4), r11_10_9 c4, gs_t, gd_t (k_38 c4)]
    cases zz2 : z2 with
    | false =>
      rw [zz2] at cl2 u13
      rw [if_neg (show ¬ ¬ bI false = 0 from fun y => y rfl)] at cl2
      refine ⟨h4, I4, x04, by omega, by omega, fun y => ?_, fun _ => ⟨cl2, n04⟩⟩
      obtain ⟨y1, y2, y3⟩ := y
      have := gaW_s (lvs 27 Q2) (inW [] (lvs 27 Q1)) y2 y3
      rw [this] at u13
      cases u13
    | true =>
      rw [zz2] at cl2 u13
      rw [if_pos (show ¬ bI true = 0 by decide)] at cl2
      obtain ⟨k2, hk2⟩ : ∃ k2, gaW (inW [] (lvs 27 Q1)) (lvs 27 Q2) = some k2 := Option.isSome_iff_exists.mp u13.symm
      obtain ⟨K4, SK2, l2⟩ := u14 k2 hk2
      have az2 : allz (lvs 27 Q2) = true := by
        cases y : allz (lvs 27 Q2) with
        | true => rfl
        | false => rw [gaW_n _ _ l1 (Or.inl y)] at hk2; cases hk2
      have l20 : (inW (inW [] (lvs 27 Q1)) (lvs 27 Q2)).length ≤ 10 := by
        apply Nat.le_of_not_lt
        intro y
        rw [gaW_n _ _ l1 (Or.inr y)] at hk2
        cases hk2
      have ek : k2 = inW (inW [] (lvs 27 Q1)) (lvs 27 Q2) := by
        rw [gaW_s _ _ az2 l20] at hk2
        exact (Option.some.inj hk2).symm
      subst ek
      obtain ⟨ob, h5, v1, v2, v3, v4⟩ := search_eq c4 (fun x dx => (K.1 x dx).1) (C1.cm (fun x dx => K.1 x dx) x04) (C2.cm (fun x dx => K.1 x dx) x04) w1 w2 SK2 K4 l2
      have I5 := I4.dm v2 sr_cm
      have c5 := I5.1.1
      have x05 : cmC h h5 := x04.tr (cm_oI v2 sr_cm)
      refine ⟨h5, I5, x05, by rw [v2.2.2.2.2.2.1]; omega, by rw [v2.2.2.2.2.2.2]; omega, fun _ => ⟨SK2, ob, ?_, v3, v4⟩, fun y => absurd ⟨az1, az2, l20⟩ y⟩
      rw [cl2, v1, bd_t, gd_t (k_10 c5), r11_10_9 c5, gs_t, gd_t (k_38 c5)]
