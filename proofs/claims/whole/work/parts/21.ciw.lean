/-! methods of the program (by program: wip/whole/gen2.py) -/
theorem dc_X10_isNumber : decs cX10_isNumber [(0, .iload_n 0, 1), (1, .iconst 1, 1), (2, .if_icmp .lt 13, 3), (5, .iload_n 0, 1), (6, .getstatic 23, 3), (9, .bipush 6, 2), (11, .iaload, 1), (12, .if_icmp .lt 5, 3), (15, .iconst 0, 1), (16, .ireturn, 1), (17, .iload_n 0, 1), (18, .istore_n 1, 1), (19, .iload_n 1, 1), (20, .ifCond .le 20, 3), (23, .iload_n 1, 1), (24, .bipush 27, 2), (26, .irem, 1), (27, .ifCond .ne 5, 3), (30, .iconst 0, 1), (31, .ireturn, 1), (32, .iload_n 1, 1), (33, .bipush 27, 2), (35, .idiv, 1), (36, .istore_n 1, 1), (37, .goto (-18), 3), (40, .iconst 1, 1), (41, .ireturn, 1)] = true := by decide +kernel
noncomputable def fX10_isNumber_b15  : Option Int32 :=
  some ((0 : Int32))
set_option maxRecDepth 100000 in
theorem wX10_isNumber_b15 {E : PE} {p : Program} {l : Launch} {e : Env} {s : State} {m : MethodId} {args : Array Value} {below : List Frame} {meth : Method} {c : Code} (X : Cx E p l e (rmv 0 0 0) s m args below meth c RX10 cX10_isNumber 2 (some .boolean)) (hG : Gs E l) (hnm : meth.name = yX10_isNumber.name)  {h : PH} {r : Int32} (hf : fX10_isNumber_b15  = some r)  : PW E p l e (rmv 0 0 0) s m args below meth c 2 0 0 (MQ below (QG E (fun v u => v = some (.int r) ∧ u = h)) args s 0 0 (pA E)) h 15 [] [] := by
  unfold fX10_isNumber_b15 at hf
  refine p_iconst (v := 0) X (dcg dc_X10_isNumber 8 rfl) (by decide) ?_
  have er := Option.some.inj hf
  subst er
  exact p_zret X rfl rfl (dcg dc_X10_isNumber 9 rfl) ⟨rfl, rfl⟩ (Nat.le_refl _) (Nat.le_refl _)
noncomputable def fX10_isNumber_c19 (v1 : Int32) : Option ((Int32) ⊕ Int32) :=
  if (v1 ≤ 0) then (mr (some ((1 : Int32)))) else
  if (¬ (v1 - v1 / (27 : Int32) * (27 : Int32)) = 0) then (some (.inl ((v1 / (27 : Int32))))) else
  mr (some ((0 : Int32)))
set_option maxRecDepth 100000 in
theorem wX10_isNumber_c19 {E : PE} {p : Program} {l : Launch} {e : Env} {s : State} {m : MethodId} {args : Array Value} {below : List Frame} {meth : Method} {c : Code} (X : Cx E p l e (rmv 0 0 0) s m args below meth c RX10 cX10_isNumber 2 (some .boolean)) (hG : Gs E l) (hnm : meth.name = yX10_isNumber.name) {v1 : Int32} {h : PH} {r : Int32} {x : ((Int32) ⊕ Int32)} (hf : fX10_isNumber_c19 v1 = some x) (k0 : ∀ z : (Int32), x = .inl z → PW E p l e (rmv 0 0 0) s m args below meth c 2 0 0 (MQ below (QG E (fun v u => v = some (.int r) ∧ u = h)) args s 0 0 (pA E)) h 19 [(1, some (.int (z)))] []) (kf : ∀ z : Int32, x = .inr z → z = r) : PW E p l e (rmv 0 0 0) s m args below meth c 2 0 0 (MQ below (QG E (fun v u => v = some (.int r) ∧ u = h)) args s 0 0 (pA E)) h 19 [(1, some (.int v1))] [] := by
  unfold fX10_isNumber_c19 at hf
  refine p_iload_n X (dcg dc_X10_isNumber 12 rfl) rfl rfl ?_
  refine p_if_le (tgt := 40) X (dcg dc_X10_isNumber 13 rfl) (by decide) (fun q => ?_) (fun q => ?_)
  · have hf := if_t q hf
    obtain ⟨y2, hf, hy3⟩ := mr_some hf
    have hy3f := kf y2 hy3
    subst hy3f
    refine p_iconst (v := 1) X (dcg dc_X10_isNumber 25 rfl) (by decide) ?_
    have er := Option.some.inj hf
    subst er
    exact p_zret X rfl rfl (dcg dc_X10_isNumber 26 rfl) ⟨rfl, rfl⟩ (Nat.le_refl _) (Nat.le_refl _)
  · have hf := if_f q hf
    refine p_iload_n X (dcg dc_X10_isNumber 14 rfl) rfl rfl ?_
    refine p_bipush (v := 27) X (dcg dc_X10_isNumber 15 rfl) (by decide) ?_
    refine p_irem X (dcg dc_X10_isNumber 16 rfl) (by decide) ?_
    refine p_if_ne (tgt := 32) X (dcg dc_X10_isNumber 17 rfl) (by decide) (fun q => ?_) (fun q => ?_)
    · have hf := if_t q hf
      refine p_iload_n X (dcg dc_X10_isNumber 20 rfl) rfl rfl ?_
      refine p_bipush (v := 27) X (dcg dc_X10_isNumber 21 rfl) (by decide) ?_
      refine p_idiv X (dcg dc_X10_isNumber 22 rfl) (by decide) ?_
      refine p_istore_n X (dcg dc_X10_isNumber 23 rfl) rfl (by decide) rfl ?_
      refine p_goto (tgt := 19) X (dcg dc_X10_isNumber 24 rfl) (by decide) ?_
      refine p_pick [1] ?_
      exact k0 _ (Option.some.inj hf).symm
    · have hf := if_f q hf
      obtain ⟨y4, hf, hy5⟩ := mr_some hf
      have hy5f := kf y4 hy5
      subst hy5f
      refine p_iconst (v := 0) X (dcg dc_X10_isNumber 18 rfl) (by decide) ?_
      have er := Option.some.inj hf
      subst er
      exact p_zret X rfl rfl (dcg dc_X10_isNumber 19 rfl) ⟨rfl, rfl⟩ (Nat.le_refl _) (Nat.le_refl _)
noncomputable def fX10_isNumber_l19 (v1 : Int32) : Option Int32 := wh (fun z : (Int32) => fX10_isNumber_c19 (z)) (v1)
set_option maxRecDepth 100000 in
theorem wX10_isNumber_l19 {E : PE} {p : Program} {l : Launch} {e : Env} {s : State} {m : MethodId} {args : Array Value} {below : List Frame} {meth : Method} {c : Code} (X : Cx E p l e (rmv 0 0 0) s m args below meth c RX10 cX10_isNumber 2 (some .boolean)) (hG : Gs E l) (hnm : meth.name = yX10_isNumber.name) {v1 : Int32} {h : PH} {r : Int32} (hf : fX10_isNumber_l19 v1 = some r)  : PW E p l e (rmv 0 0 0) s m args below meth c 2 0 0 (MQ below (QG E (fun v u => v = some (.int r) ∧ u = h)) args s 0 0 (pA E)) h 19 [(1, some (.int v1))] [] := by
  unfold fX10_isNumber_l19 at hf
  refine wh_ind (P := fun z => PW E p l e (rmv 0 0 0) s m args below meth c 2 0 0 (MQ below (QG E (fun v u => v = some (.int r) ∧ u = h)) args s 0 0 (pA E)) h 19 [(1, some (.int (z)))] []) (fun z x0 hs i1 i2 => ?_) _ hf
  exact wX10_isNumber_c19 (r := r) (v1 := z) (h := h) X hG hnm hs i1  i2
noncomputable def fX10_isNumber (v0 : Int32) : Option Int32 :=
  if (v0 < (1 : Int32)) then (fX10_isNumber_b15 ) else
  gd (inb (6 : Int32) 7) (if (v0 < (pwv (Int32.toNatClampNeg (6 : Int32)))) then (fX10_isNumber_l19 v0) else
  fX10_isNumber_b15 )
set_option maxRecDepth 100000 in
theorem wX10_isNumber {E : PE} {l : Launch} (hG : Gs E l) {v0 : Int32} {h : PH} {r : Int32} (hf : fX10_isNumber v0 = some r) : Ct E l 0 0 0 yX10_isNumber cX10_isNumber 2 (some .boolean) [.int v0] h (fun v u => v = some (.int r) ∧ u = h) := by
  refine ct_of hG (by decide) (Nat.le_of_ble_eq_true rfl) ?_
  intro p e s m args below meth c X hnm
  show PW E p l e _ s m args below meth c _ 0 0 _ h 0 [(0, some (.int v0))] []
  unfold fX10_isNumber at hf
  refine p_iload_n X (dcg dc_X10_isNumber 0 rfl) rfl rfl ?_
  refine p_iconst (v := 1) X (dcg dc_X10_isNumber 1 rfl) (by decide) ?_
  refine p_icmp_lt (tgt := 15) X (dcg dc_X10_isNumber 2 rfl) (by decide) (fun q => ?_) (fun q => ?_)
  · have hf := if_t q hf
    refine p_pick [] ?_
    exact wX10_isNumber_b15 X hG hnm hf 
  · have hf := if_f q hf
    refine p_iload_n X (dcg dc_X10_isNumber 3 rfl) rfl rfl ?_
    refine p_gets (v := .ref 1) X (gz_pow hG) tw_478 (dcg dc_X10_isNumber 4 rfl) ?_
    refine p_bipush (v := 6) X (dcg dc_X10_isNumber 5 rfl) (by decide) ?_
    obtain ⟨hg1, hf⟩ := gd_some hf
    refine p_powers X (dcg dc_X10_isNumber 6 rfl) (vp_of_inb hg1) ?_
    refine p_icmp_lt (tgt := 17) X (dcg dc_X10_isNumber 7 rfl) (by decide) (fun q => ?_) (fun q => ?_)
    · have hf := if_t q hf
      refine p_iload_n X (dcg dc_X10_isNumber 10 rfl) rfl rfl ?_
      refine p_istore_n X (dcg dc_X10_isNumber 11 rfl) rfl (by decide) rfl ?_
      refine p_pick [1] ?_
      exact wX10_isNumber_l19 X hG hnm hf 
    · have hf := if_f q hf
      refine p_pick [] ?_
      exact wX10_isNumber_b15 X hG hnm hf 
theorem dc_X10_orderBehindBeginning : decs cX10_orderBehindBeginning [(0, .iload_n 0, 1), (1, .iconst 1, 1), (2, .iadd, 1), (3, .getstatic 23, 3), (6, .bipush 6, 2), (8, .iload_n 0, 1), (9, .invokestatic 27, 3), (12, .isub, 1), (13, .iaload, 1), (14, .imul, 1), (15, .ireturn, 1)] = true := by decide +kernel
noncomputable def fX10_orderBehindBeginning (v0 : Int32) : Option Int32 :=
  bd (fX10_lettersOf v0) (fun z1 =>
  gd (inb ((6 : Int32) - z1) 7) (some (((v0 + (1 : Int32)) * (pwv (Int32.toNatClampNeg ((6 : Int32) - z1)))))))
set_option maxRecDepth 100000 in
theorem wX10_orderBehindBeginning {E : PE} {l : Launch} (hG : Gs E l) {v0 : Int32} {h : PH} {r : Int32} (hf : fX10_orderBehindBeginning v0 = some r) : Ct E l 1 0 0 yX10_orderBehindBeginning cX10_orderBehindBeginning 1 (some .int) [.int v0] h (fun v u => v = some (.int r) ∧ u = h) := by
  refine ct_of hG (by decide) (Nat.le_of_ble_eq_true rfl) ?_
  intro p e s m args below meth c X hnm
  show PW E p l e _ s m args below meth c _ 0 0 _ h 0 [(0, some (.int v0))] []
  unfold fX10_orderBehindBeginning at hf
  refine p_iload_n X (dcg dc_X10_orderBehindBeginning 0 rfl) rfl rfl ?_
  refine p_iconst (v := 1) X (dcg dc_X10_orderBehindBeginning 1 rfl) (by decide) ?_
  refine p_iadd X (dcg dc_X10_orderBehindBeginning 2 rfl) ?_
  refine p_gets (v := .ref 1) X (gz_pow hG) tw_478 (dcg dc_X10_orderBehindBeginning 3 rfl) ?_
  refine p_bipush (v := 6) X (dcg dc_X10_orderBehindBeginning 4 rfl) (by decide) ?_
  refine p_iload_n X (dcg dc_X10_orderBehindBeginning 5 rfl) rfl rfl ?_
  obtain ⟨z1, hz1, hf⟩ := bd_some hf
  refine p_callS (As := [_]) X ml_X10_27 (dcg dc_X10_orderBehindBeginning 6 rfl) rfl rfl  (wX10_lettersOf hG hz1) (by decide) (room4 (Nat.le_of_ble_eq_true rfl)) (Nat.le_refl _) (Nat.le_refl _) ?_
  rintro _ u9 ⟨rfl, e9⟩; have e9 := e9.symm; subst e9
  refine p_isub X (dcg dc_X10_orderBehindBeginning 7 rfl) ?_
  obtain ⟨hg2, hf⟩ := gd_some hf
  refine p_powers X (dcg dc_X10_orderBehindBeginning 8 rfl) (vp_of_inb hg2) ?_
  refine p_imul X (dcg dc_X10_orderBehindBeginning 9 rfl) ?_
  have er := Option.some.inj hf
  subst er
  exact p_iret X rfl (dcg dc_X10_orderBehindBeginning 10 rfl) ⟨rfl, rfl⟩ (Nat.le_refl _) (Nat.le_refl _)
theorem dc_J5_init_d00df : decs cJ5_init_d00df [(0, .aload_n 0, 1), (1, .invokespecial 3, 3), (4, .getstatic 18, 3), (7, .ifCond .eq 18, 3), (10, .aload_n 0, 1), (11, .iload_n 1, 1), (12, .newarray .byte, 2), (14, .putfield 15, 3), (17, .aload_n 0, 1), (18, .iconst 0, 1), (19, .putfield 22, 3), (22, .goto 16, 3), (25, .aload_n 0, 1), (26, .iload_n 1, 1), (27, .invokestatic 26, 3), (30, .putfield 15, 3), (33, .aload_n 0, 1), (34, .iconst 1, 1), (35, .putfield 22, 3), (38, .return_, 1)] = true := by decide +kernel
noncomputable def fJ5_init_d00df_b14 (v0 : Nat) (t0 : Nat) (t1 : Nat) (h : PH) : Option PH :=
  gd (hK h t0 = 13) (lt (sR h 13 t0 0 (some t1)) (fun h3 =>
  gd (hK h3 v0 = 13) (lt (sI h3 13 v0 1 (0 : Int32)) (fun h5 =>
  some (h5)))))
set_option maxRecDepth 100000 in
theorem mJ5_init_d00df_b14 {v0 : Nat} {t0 : Nat} {t1 : Nat} {h : PH} {r : PH} (hf : fJ5_init_d00df_b14 v0 t0 t1 h = some r) : lez h (hX r) (hV r) := by
  unfold fJ5_init_d00df_b14 at hf
  have hle := lez_rf h
  obtain ⟨hk2, hf⟩ := gd_some hf
  obtain ⟨h3, rfl, hf⟩ := lt_some hf
  obtain ⟨hk4, hf⟩ := gd_some hf
  obtain ⟨h5, rfl, hf⟩ := lt_some hf
  have ee := Option.some.inj hf; subst ee; exact hle
set_option maxRecDepth 100000 in
theorem wJ5_init_d00df_b14 {E : PE} {p : Program} {l : Launch} {e : Env} {s : State} {m : MethodId} {args : Array Value} {below : List Frame} {meth : Method} {c : Code} {X0 V0 MC MS uc us : Nat} (X : Cx E p l e (rmv 1 MC MS) s m args below meth c RJ5 cJ5_init_d00df 2 (none)) (hG : Gs E l) (hnm : meth.name = yJ5_init_d00df.name) {v0 : Nat} {t0 : Nat} {t1 : Nat} {h : PH} {r : PH} (hM : MC + X0 = (hX r)) (hN : MS + V0 = (hV r)) (hu : uc + X0 = hX h) (hv : us + V0 = hV h) (hf : fJ5_init_d00df_b14 v0 t0 t1 h = some r)  : PW E p l e (rmv 1 MC MS) s m args below meth c 2 uc us (MQ below (QG E (fun v u => v = none ∧ u = r)) args s MC MS (pA E)) h 14 [(0, some (.ref v0))] [.ref t1, .ref t0] := by
  have hm1 : lez h (hX r) (hV r) := mJ5_init_d00df_b14 hf
  have hcm : uc ≤ MC := (by have o0 := hm1.1; have o1 := hM; have o2 := hu; (try simp only [hX_sI, hX_sR, hX_sL, hX_sD, hX_sIa, hX_sRa, hV_sI, hV_sR, hV_sL, hV_sD, hV_sIa, hV_sRa, hX_new, hV_new] at o0 o1 o2 ⊢); omega)
  have hsm : us ≤ MS := (by have o0 := hm1.2; have o1 := hN; have o2 := hv; (try simp only [hX_sI, hX_sR, hX_sL, hX_sD, hX_sIa, hX_sRa, hV_sI, hV_sR, hV_sL, hV_sD, hV_sIa, hV_sRa, hX_new, hV_new] at o0 o1 o2 ⊢); omega)
  clear hm1
  unfold fJ5_init_d00df_b14 at hf
  obtain ⟨hk2, hf⟩ := gd_some hf
  refine p_putR (v := some _) X fl_J5_15 rfl (by decide) (fun q hq => by cases hq; rfl) (nar_rf _ (by decide)) (fit_rf _ (by decide)) (dcg dc_J5_init_d00df 7 rfl) hk2 ?_
  obtain ⟨h3, rfl, hf⟩ := lt_some hf
  refine p_aload_n X (dcg dc_J5_init_d00df 8 rfl) rfl rfl ?_
  refine p_iconst (v := 0) X (dcg dc_J5_init_d00df 9 rfl) (by decide) ?_
  obtain ⟨hk4, hf⟩ := gd_some hf
  refine p_putI X fl_J5_22 rfl (by decide) (fun q hq => by cases hq; rfl) rfl rfl (dcg dc_J5_init_d00df 10 rfl) hk4 ?_
  obtain ⟨h5, rfl, hf⟩ := lt_some hf
  refine p_goto (tgt := 38) X (dcg dc_J5_init_d00df 11 rfl) (by decide) ?_
  have er := Option.some.inj hf
  subst er
  exact p_vret X rfl (dcg dc_J5_init_d00df 19 rfl) ⟨rfl, rfl⟩ hcm hsm
noncomputable def fJ5_init_d00df_b0 (v0 : Nat) (v1 : Int32) (h : PH) : Option PH :=
  if ((1 : Int32) = 0) then (none) else
  gd (¬ v1 < 0 ∧ (Int32.toNatClampNeg v1) ≤ 1000000) (fJ5_init_d00df_b14 v0 v0 (hX h) (hnew h 22 (Int32.toNatClampNeg v1)))
set_option maxRecDepth 100000 in
theorem mJ5_init_d00df_b0 {v0 : Nat} {v1 : Int32} {h : PH} {r : PH} (hf : fJ5_init_d00df_b0 v0 v1 h = some r) : lez h (hX r) (hV r) := by
  unfold fJ5_init_d00df_b0 at hf
  have hle := lez_rf h
  rcases ite_or hf with ⟨q, hf⟩ | ⟨q, hf⟩
  · have hf := if_t q hf
    cases hf
  · have hf := if_f q hf
    obtain ⟨hg1, hf⟩ := gd_some hf
    have hle := lez_nw (c := 22) (n := (Int32.toNatClampNeg v1)) hle
    exact lez_rt (mJ5_init_d00df_b14 hf) hle
set_option maxRecDepth 100000 in
theorem wJ5_init_d00df_b0 {E : PE} {p : Program} {l : Launch} {e : Env} {s : State} {m : MethodId} {args : Array Value} {below : List Frame} {meth : Method} {c : Code} {X0 V0 MC MS uc us : Nat} (X : Cx E p l e (rmv 1 MC MS) s m args below meth c RJ5 cJ5_init_d00df 2 (none)) (hG : Gs E l) (hnm : meth.name = yJ5_init_d00df.name) {v0 : Nat} {v1 : Int32} {h : PH} {r : PH} (hM : MC + X0 = (hX r)) (hN : MS + V0 = (hV r)) (hu : uc + X0 = hX h) (hv : us + V0 = hV h) (hf : fJ5_init_d00df_b0 v0 v1 h = some r)  : PW E p l e (rmv 1 MC MS) s m args below meth c 2 uc us (MQ below (QG E (fun v u => v = none ∧ u = r)) args s MC MS (pA E)) h 0 [(0, some (.ref v0)), (1, some (.int v1))] [] := by
  have hm1 : lez h (hX r) (hV r) := mJ5_init_d00df_b0 hf
  have hcm : uc ≤ MC := (by have o0 := hm1.1; have o1 := hM; have o2 := hu; (try simp only [hX_sI, hX_sR, hX_sL, hX_sD, hX_sIa, hX_sRa, hV_sI, hV_sR, hV_sL, hV_sD, hV_sIa, hV_sRa, hX_new, hV_new] at o0 o1 o2 ⊢); omega)
  have hsm : us ≤ MS := (by have o0 := hm1.2; have o1 := hN; have o2 := hv; (try simp only [hX_sI, hX_sR, hX_sL, hX_sD, hX_sIa, hX_sRa, hV_sI, hV_sR, hV_sL, hV_sD, hV_sIa, hV_sRa, hX_new, hV_new] at o0 o1 o2 ⊢); omega)
  clear hm1
  unfold fJ5_init_d00df_b0 at hf
  refine p_aload_n X (dcg dc_J5_init_d00df 0 rfl) rfl rfl ?_
  refine p_objinit X tw_365 tw_146 tw_147 (dcg dc_J5_init_d00df 1 rfl) (Nat.le_of_ble_eq_true rfl) (Nat.le_trans (Nat.add_le_add_right (room4 (Nat.le_of_ble_eq_true rfl)) 12) (Nat.le_of_ble_eq_true rfl)) (fun ls hl => hl.1.trans X.2.2.1.symm) ?_
  refine p_gets (v := .int (1 : Int32)) X (gz_cmp hG) tw_366 (dcg dc_J5_init_d00df 2 rfl) ?_
  refine p_if_eq (tgt := 25) X (dcg dc_J5_init_d00df 3 rfl) (by decide) (fun q => ?_) (fun q => ?_)
  · have hf := if_t q hf
    refine p_aload_n X (dcg dc_J5_init_d00df 12 rfl) rfl rfl ?_
    refine p_iload_n X (dcg dc_J5_init_d00df 13 rfl) rfl rfl ?_
    cases hf
  · have hf := if_f q hf
    refine p_aload_n X (dcg dc_J5_init_d00df 4 rfl) rfl rfl ?_
    refine p_iload_n X (dcg dc_J5_init_d00df 5 rfl) rfl rfl ?_
    obtain ⟨hg1, hf⟩ := gd_some hf
    have hm1 : lez _ (hX r) (hV r) := mJ5_init_d00df_b14 hf
    have hm2 := lez_new hm1
    refine p_newa22 X tw_389 (dcg dc_J5_init_d00df 6 rfl) hg1.1 hg1.2 (show uc + 1 ≤ MC from (by have o0 := hm2.1; have o1 := hM; have o2 := hu; (try simp only [hX_sI, hX_sR, hX_sL, hX_sD, hX_sIa, hX_sRa, hV_sI, hV_sR, hV_sL, hV_sD, hV_sIa, hV_sRa, hX_new, hV_new] at o0 o1 o2 ⊢); omega)) (show us + (Int32.toNatClampNeg v1) ≤ MS from (by have o0 := hm2.2; have o1 := hN; have o2 := hv; (try simp only [hX_sI, hX_sR, hX_sL, hX_sD, hX_sIa, hX_sRa, hV_sI, hV_sR, hV_sL, hV_sD, hV_sIa, hV_sRa, hX_new, hV_new] at o0 o1 o2 ⊢); omega)) ?_
    refine p_pick [0] ?_
    exact wJ5_init_d00df_b14 X hG hnm hM hN (by have o0 := hu; (try simp only [hX_sI, hX_sR, hX_sL, hX_sD, hX_sIa, hX_sRa, hV_sI, hV_sR, hV_sL, hV_sD, hV_sIa, hV_sRa, hX_new, hV_new] at o0 ⊢); omega) (by have o0 := hv; (try simp only [hX_sI, hX_sR, hX_sL, hX_sD, hX_sIa, hX_sRa, hV_sI, hV_sR, hV_sL, hV_sD, hV_sIa, hV_sRa, hX_new, hV_new] at o0 ⊢); omega) hf 
noncomputable def fJ5_init_d00df (v0 : Nat) (v1 : Int32) (h : PH) : Option PH :=
  fJ5_init_d00df_b0 v0 v1 h
set_option maxRecDepth 100000 in
theorem mJ5_init_d00df {v0 : Nat} {v1 : Int32} {h : PH} {r : PH} (hf : fJ5_init_d00df v0 v1 h = some r) : lez h (hX r) (hV r) := by
  unfold fJ5_init_d00df at hf
  have hle := lez_rf h
  exact lez_rt (mJ5_init_d00df_b0 hf) hle
set_option maxRecDepth 100000 in
theorem wJ5_init_d00df {E : PE} {l : Launch} (hG : Gs E l) {v0 : Nat} {v1 : Int32} {h : PH} {r : PH} (hf : fJ5_init_d00df v0 v1 h = some r) : Ct E l 1 ((hX r) - hX h) ((hV r) - hV h) yJ5_init_d00df cJ5_init_d00df 2 (none) [.ref v0, .int v1] h (fun v u => v = none ∧ u = r) := by
  have hmm := mJ5_init_d00df hf
  refine ct_of hG (by decide) (Nat.le_of_ble_eq_true rfl) ?_
  intro p e s m args below meth c X hnm
  show PW E p l e _ s m args below meth c _ 0 0 _ h 0 [(0, some (.ref v0)), (1, some (.int v1))] []
  unfold fJ5_init_d00df at hf
  have hM := Nat.sub_add_cancel hmm.1
  have hN := Nat.sub_add_cancel hmm.2
  refine p_pick [0, 1] ?_
  exact wJ5_init_d00df_b0 X hG hnm hM hN (Nat.zero_add _) (Nat.zero_add _) hf
theorem dc_J4_init_da8c8 : decs cJ4_init_da8c8 [(0, .aload_n 0, 1), (1, .bipush 16, 2), (3, .invokespecial 1, 3), (6, .return_, 1)] = true := by decide +kernel
noncomputable def fJ4_init_da8c8_b6  (h : PH) : Option PH :=
  some (h)
set_option maxRecDepth 100000 in
theorem mJ4_init_da8c8_b6  {h : PH} {r : PH} (hf : fJ4_init_da8c8_b6  h = some r) : lez h (hX r) (hV r) := by
  unfold fJ4_init_da8c8_b6 at hf
  have hle := lez_rf h
  have ee := Option.some.inj hf; subst ee; exact hle
set_option maxRecDepth 100000 in
theorem wJ4_init_da8c8_b6 {E : PE} {p : Program} {l : Launch} {e : Env} {s : State} {m : MethodId} {args : Array Value} {below : List Frame} {meth : Method} {c : Code} {X0 V0 MC MS uc us : Nat} (X : Cx E p l e (rmv 2 MC MS) s m args below meth c RJ4 cJ4_init_da8c8 1 (none)) (hG : Gs E l) (hnm : meth.name = yJ4_init_da8c8.name)  {h : PH} {r : PH} (hM : MC + X0 = (hX r)) (hN : MS + V0 = (hV r)) (hu : uc + X0 = hX h) (hv : us + V0 = hV h) (hf : fJ4_init_da8c8_b6  h = some r)  : PW E p l e (rmv 2 MC MS) s m args below meth c 1 uc us (MQ below (QG E (fun v u => v = none ∧ u = r)) args s MC MS (pA E)) h 6 [] [] := by
  have hm1 : lez h (hX r) (hV r) := mJ4_init_da8c8_b6 hf
  have hcm : uc ≤ MC := (by have o0 := hm1.1; have o1 := hM; have o2 := hu; (try simp only [hX_sI, hX_sR, hX_sL, hX_sD, hX_sIa, hX_sRa, hV_sI, hV_sR, hV_sL, hV_sD, hV_sIa, hV_sRa, hX_new, hV_new] at o0 o1 o2 ⊢); omega)
  have hsm : us ≤ MS := (by have o0 := hm1.2; have o1 := hN; have o2 := hv; (try simp only [hX_sI, hX_sR, hX_sL, hX_sD, hX_sIa, hX_sRa, hV_sI, hV_sR, hV_sL, hV_sD, hV_sIa, hV_sRa, hX_new, hV_new] at o0 o1 o2 ⊢); omega)
  clear hm1
  unfold fJ4_init_da8c8_b6 at hf
  have er := Option.some.inj hf
  subst er
  exact p_vret X rfl (dcg dc_J4_init_da8c8 3 rfl) ⟨rfl, rfl⟩ hcm hsm
noncomputable def fJ4_init_da8c8_b0 (v0 : Nat) (h : PH) : Option PH :=
  bd (fJ5_init_d00df v0 (16 : Int32) h) (fun z1 =>
  fJ4_init_da8c8_b6  z1)
set_option maxRecDepth 100000 in
theorem mJ4_init_da8c8_b0 {v0 : Nat} {h : PH} {r : PH} (hf : fJ4_init_da8c8_b0 v0 h = some r) : lez h (hX r) (hV r) := by
  unfold fJ4_init_da8c8_b0 at hf
  have hle := lez_rf h
  obtain ⟨z1, hz1, hf⟩ := bd_some hf
  have hle := lez_rt (mJ5_init_d00df hz1) hle
  exact lez_rt (mJ4_init_da8c8_b6 hf) hle
set_option maxRecDepth 100000 in
theorem wJ4_init_da8c8_b0 {E : PE} {p : Program} {l : Launch} {e : Env} {s : State} {m : MethodId} {args : Array Value} {below : List Frame} {meth : Method} {c : Code} {X0 V0 MC MS uc us : Nat} (X : Cx E p l e (rmv 2 MC MS) s m args below meth c RJ4 cJ4_init_da8c8 1 (none)) (hG : Gs E l) (hnm : meth.name = yJ4_init_da8c8.name) {v0 : Nat} {h : PH} {r : PH} (hM : MC + X0 = (hX r)) (hN : MS + V0 = (hV r)) (hu : uc + X0 = hX h) (hv : us + V0 = hV h) (hf : fJ4_init_da8c8_b0 v0 h = some r)  : PW E p l e (rmv 2 MC MS) s m args below meth c 1 uc us (MQ below (QG E (fun v u => v = none ∧ u = r)) args s MC MS (pA E)) h 0 [(0, some (.ref v0))] [] := by
  have hm1 : lez h (hX r) (hV r) := mJ4_init_da8c8_b0 hf
  have hcm : uc ≤ MC := (by have o0 := hm1.1; have o1 := hM; have o2 := hu; (try simp only [hX_sI, hX_sR, hX_sL, hX_sD, hX_sIa, hX_sRa, hV_sI, hV_sR, hV_sL, hV_sD, hV_sIa, hV_sRa, hX_new, hV_new] at o0 o1 o2 ⊢); omega)
  have hsm : us ≤ MS := (by have o0 := hm1.2; have o1 := hN; have o2 := hv; (try simp only [hX_sI, hX_sR, hX_sL, hX_sD, hX_sIa, hX_sRa, hV_sI, hV_sR, hV_sL, hV_sD, hV_sIa, hV_sRa, hX_new, hV_new] at o0 o1 o2 ⊢); omega)
  clear hm1
  unfold fJ4_init_da8c8_b0 at hf
  refine p_aload_n X (dcg dc_J4_init_da8c8 0 rfl) rfl rfl ?_
  refine p_bipush (v := 16) X (dcg dc_J4_init_da8c8 1 rfl) (by decide) ?_
  obtain ⟨z1, hz1, hf⟩ := bd_some hf
  have hc1 := mJ5_init_d00df hz1
  have hm1 : lez _ (hX r) (hV r) := mJ4_init_da8c8_b6 hf
  refine p_callI (As := [_]) (ret1 := none) X ml_J4_1 (dcg dc_J4_init_da8c8 2 rfl) rfl rfl  (wJ5_init_d00df hG hz1) (by decide) (room4 (Nat.le_of_ble_eq_true rfl)) (by have o0 := hm1.1; have o1 := hc1.1; have o2 := hM; have o3 := hu; (try simp only [hX_sI, hX_sR, hX_sL, hX_sD, hX_sIa, hX_sRa, hV_sI, hV_sR, hV_sL, hV_sD, hV_sIa, hV_sRa, hX_new, hV_new] at o0 o1 o2 o3 ⊢); omega) (by have o0 := hm1.2; have o1 := hc1.2; have o2 := hN; have o3 := hv; (try simp only [hX_sI, hX_sR, hX_sL, hX_sD, hX_sIa, hX_sRa, hV_sI, hV_sR, hV_sL, hV_sD, hV_sIa, hV_sRa, hX_new, hV_new] at o0 o1 o2 o3 ⊢); omega) ?_
  rintro _ u9 ⟨rfl, e9⟩; have e9 := e9.symm; subst e9
  refine p_pick [] ?_
  exact wJ4_init_da8c8_b6 X hG hnm hM hN (by have o0 := hc1.1; have o1 := hu; (try simp only [hX_sI, hX_sR, hX_sL, hX_sD, hX_sIa, hX_sRa, hV_sI, hV_sR, hV_sL, hV_sD, hV_sIa, hV_sRa, hX_new, hV_new] at o0 o1 ⊢); omega) (by have o0 := hc1.2; have o1 := hv; (try simp only [hX_sI, hX_sR, hX_sL, hX_sD, hX_sIa, hX_sRa, hV_sI, hV_sR, hV_sL, hV_sD, hV_sIa, hV_sRa, hX_new, hV_new] at o0 o1 ⊢); omega) hf 
noncomputable def fJ4_init_da8c8 (v0 : Nat) (h : PH) : Option PH :=
  fJ4_init_da8c8_b0 v0 h
set_option maxRecDepth 100000 in
theorem mJ4_init_da8c8 {v0 : Nat} {h : PH} {r : PH} (hf : fJ4_init_da8c8 v0 h = some r) : lez h (hX r) (hV r) := by
  unfold fJ4_init_da8c8 at hf
  have hle := lez_rf h
  exact lez_rt (mJ4_init_da8c8_b0 hf) hle
set_option maxRecDepth 100000 in
theorem wJ4_init_da8c8 {E : PE} {l : Launch} (hG : Gs E l) {v0 : Nat} {h : PH} {r : PH} (hf : fJ4_init_da8c8 v0 h = some r) : Ct E l 2 ((hX r) - hX h) ((hV r) - hV h) yJ4_init_da8c8 cJ4_init_da8c8 1 (none) [.ref v0] h (fun v u => v = none ∧ u = r) := by
  have hmm := mJ4_init_da8c8 hf
  refine ct_of hG (by decide) (Nat.le_of_ble_eq_true rfl) ?_
  intro p e s m args below meth c X hnm
  show PW E p l e _ s m args below meth c _ 0 0 _ h 0 [(0, some (.ref v0))] []
  unfold fJ4_init_da8c8 at hf
  have hM := Nat.sub_add_cancel hmm.1
  have hN := Nat.sub_add_cancel hmm.2
  refine p_pick [0] ?_
  exact wJ4_init_da8c8_b0 X hG hnm hM hN (Nat.zero_add _) (Nat.zero_add _) hf
theorem dc_X11_init : decs cX11_init [(0, .aload_n 0, 1), (1, .invokespecial 1, 3), (4, .aload_n 0, 1), (5, .new 7, 3), (8, .dup, 1), (9, .invokespecial 9, 3), (12, .putfield 10, 3), (15, .aload_n 0, 1), (16, .new 16, 3), (19, .dup, 1), (20, .aload_n 0, 1), (21, .getfield 10, 3), (24, .invokespecial 18, 3), (27, .putfield 21, 3), (30, .aload_n 0, 1), (31, .bipush 100, 2), (33, .anewarray 25, 3), (36, .putfield 27, 3), (39, .aload_n 0, 1), (40, .new 31, 3), (43, .dup, 1), (44, .invokespecial 33, 3), (47, .putfield 34, 3), (50, .aload_n 0, 1), (51, .new 38, 3), (54, .dup, 1), (55, .invokespecial 40, 3), (58, .putfield 41, 3), (61, .aload_n 0, 1), (62, .bipush 6, 2), (64, .anewarray 45, 3), (67, .putfield 47, 3), (70, .aload_n 0, 1), (71, .bipush 6, 2), (73, .anewarray 51, 3), (76, .putfield 53, 3), (79, .iconst 0, 1), (80, .istore_n 1, 1), (81, .iload_n 1, 1), (82, .bipush 6, 2), (84, .if_icmp .ge 22, 3), (87, .aload_n 0, 1), (88, .getfield 53, 3), (91, .iload_n 1, 1), (92, .new 51, 3), (95, .dup, 1), (96, .invokespecial 57, 3), (99, .aastore, 1), (100, .iinc 1 1, 3), (103, .goto (-22), 3), (106, .aload_n 0, 1), (107, .new 58, 3), (110, .dup, 1), (111, .invokespecial 60, 3), (114, .putfield 61, 3), (117, .aload_n 0, 1), (118, .new 65, 3), (121, .dup, 1), (122, .invokespecial 67, 3), (125, .putfield 68, 3), (128, .aload_n 0, 1), (129, .new 72, 3), (132, .dup, 1), (133, .invokespecial 74, 3), (136, .putfield 75, 3), (139, .aload_n 0, 1), (140, .new 79, 3), (143, .dup, 1), (144, .invokespecial 81, 3), (147, .putfield 82, 3), (150, .return_, 1)] = true := by decide +kernel
noncomputable def fX11_init_b147 (t0 : Nat) (t1 : Nat) (h : PH) : Option PH :=
  gd (hK h t0 = 11) (lt (sR h 11 t0 10 (some t1)) (fun h36 =>
  some (h36)))
set_option maxRecDepth 100000 in
theorem mX11_init_b147 {t0 : Nat} {t1 : Nat} {h : PH} {r : PH} (hf : fX11_init_b147 t0 t1 h = some r) : lez h (hX r) (hV r) := by
  unfold fX11_init_b147 at hf
  have hle := lez_rf h
  obtain ⟨hk35, hf⟩ := gd_some hf
  obtain ⟨h36, rfl, hf⟩ := lt_some hf
  have ee := Option.some.inj hf; subst ee; exact hle
set_option maxRecDepth 100000 in
theorem wX11_init_b147 {E : PE} {p : Program} {l : Launch} {e : Env} {s : State} {m : MethodId} {args : Array Value} {below : List Frame} {meth : Method} {c : Code} {X0 V0 MC MS uc us : Nat} (X : Cx E p l e (rmv 5 MC MS) s m args below meth c RX11 cX11_init 2 (none)) (hG : Gs E l) (hnm : meth.name = yX11_init.name) {t0 : Nat} {t1 : Nat} {h : PH} {r : PH} (hM : MC + X0 = (hX r)) (hN : MS + V0 = (hV r)) (hu : uc + X0 = hX h) (hv : us + V0 = hV h) (hf : fX11_init_b147 t0 t1 h = some r)  : PW E p l e (rmv 5 MC MS) s m args below meth c 2 uc us (MQ below (QG E (fun v u => v = none ∧ u = r)) args s MC MS (pA E)) h 147 [] [.ref t1, .ref t0] := by
  have hm1 : lez h (hX r) (hV r) := mX11_init_b147 hf
  have hcm : uc ≤ MC := (by have o0 := hm1.1; have o1 := hM; have o2 := hu; (try simp only [hX_sI, hX_sR, hX_sL, hX_sD, hX_sIa, hX_sRa, hV_sI, hV_sR, hV_sL, hV_sD, hV_sIa, hV_sRa, hX_new, hV_new] at o0 o1 o2 ⊢); omega)
  have hsm : us ≤ MS := (by have o0 := hm1.2; have o1 := hN; have o2 := hv; (try simp only [hX_sI, hX_sR, hX_sL, hX_sD, hX_sIa, hX_sRa, hV_sI, hV_sR, hV_sL, hV_sD, hV_sIa, hV_sRa, hX_new, hV_new] at o0 o1 o2 ⊢); omega)
  clear hm1
  unfold fX11_init_b147 at hf
  obtain ⟨hk35, hf⟩ := gd_some hf
  refine p_putRf (v := some _) X fl_X11_82 rfl (by decide) (fun q hq => by cases hq; exact ⟨rfl, rfl⟩) hnm (nar_rf _ (by decide)) (fit_rf _ (by decide)) (dcg dc_X11_init 69 rfl) hk35 ?_
  obtain ⟨h36, rfl, hf⟩ := lt_some hf
  have er := Option.some.inj hf
  subst er
  exact p_vret X rfl (dcg dc_X11_init 70 rfl) ⟨rfl, rfl⟩ hcm hsm
noncomputable def fX11_init_b143 (t0 : Nat) (t1 : Nat) (h : PH) : Option PH :=
  bd (fJ4_init_da8c8 t1 h) (fun z34 =>
  fX11_init_b147 t0 t1 z34)
set_option maxRecDepth 100000 in
theorem mX11_init_b143 {t0 : Nat} {t1 : Nat} {h : PH} {r : PH} (hf : fX11_init_b143 t0 t1 h = some r) : lez h (hX r) (hV r) := by
  unfold fX11_init_b143 at hf
  have hle := lez_rf h
  obtain ⟨z34, hz34, hf⟩ := bd_some hf
  have hle := lez_rt (mJ4_init_da8c8 hz34) hle
  exact lez_rt (mX11_init_b147 hf) hle
set_option maxRecDepth 100000 in
theorem wX11_init_b143 {E : PE} {p : Program} {l : Launch} {e : Env} {s : State} {m : MethodId} {args : Array Value} {below : List Frame} {meth : Method} {c : Code} {X0 V0 MC MS uc us : Nat} (X : Cx E p l e (rmv 5 MC MS) s m args below meth c RX11 cX11_init 2 (none)) (hG : Gs E l) (hnm : meth.name = yX11_init.name) {t0 : Nat} {t1 : Nat} {h : PH} {r : PH} (hM : MC + X0 = (hX r)) (hN : MS + V0 = (hV r)) (hu : uc + X0 = hX h) (hv : us + V0 = hV h) (hf : fX11_init_b143 t0 t1 h = some r)  : PW E p l e (rmv 5 MC MS) s m args below meth c 2 uc us (MQ below (QG E (fun v u => v = none ∧ u = r)) args s MC MS (pA E)) h 143 [] [.ref t1, .ref t0] := by
  have hm1 : lez h (hX r) (hV r) := mX11_init_b143 hf
  have hcm : uc ≤ MC := (by have o0 := hm1.1; have o1 := hM; have o2 := hu; (try simp only [hX_sI, hX_sR, hX_sL, hX_sD, hX_sIa, hX_sRa, hV_sI, hV_sR, hV_sL, hV_sD, hV_sIa, hV_sRa, hX_new, hV_new] at o0 o1 o2 ⊢); omega)
  have hsm : us ≤ MS := (by have o0 := hm1.2; have o1 := hN; have o2 := hv; (try simp only [hX_sI, hX_sR, hX_sL, hX_sD, hX_sIa, hX_sRa, hV_sI, hV_sR, hV_sL, hV_sD, hV_sIa, hV_sRa, hX_new, hV_new] at o0 o1 o2 ⊢); omega)
  clear hm1
  unfold fX11_init_b143 at hf
  refine p_dup X (dcg dc_X11_init 67 rfl) rfl ?_
  obtain ⟨z34, hz34, hf⟩ := bd_some hf
  have hc1 := mJ4_init_da8c8 hz34
  have hm1 : lez _ (hX r) (hV r) := mX11_init_b147 hf
  refine p_callI (As := []) (ret1 := none) X ml_X11_81 (dcg dc_X11_init 68 rfl) rfl rfl  (wJ4_init_da8c8 hG hz34) (by decide) (room4 (Nat.le_of_ble_eq_true rfl)) (by have o0 := hm1.1; have o1 := hc1.1; have o2 := hM; have o3 := hu; (try simp only [hX_sI, hX_sR, hX_sL, hX_sD, hX_sIa, hX_sRa, hV_sI, hV_sR, hV_sL, hV_sD, hV_sIa, hV_sRa, hX_new, hV_new] at o0 o1 o2 o3 ⊢); omega) (by have o0 := hm1.2; have o1 := hc1.2; have o2 := hN; have o3 := hv; (try simp only [hX_sI, hX_sR, hX_sL, hX_sD, hX_sIa, hX_sRa, hV_sI, hV_sR, hV_sL, hV_sD, hV_sIa, hV_sRa, hX_new, hV_new] at o0 o1 o2 o3 ⊢); omega) ?_
  rintro _ u9 ⟨rfl, e9⟩; have e9 := e9.symm; subst e9
  refine p_pick [] ?_
  exact wX11_init_b147 X hG hnm hM hN (by have o0 := hc1.1; have o1 := hu; (try simp only [hX_sI, hX_sR, hX_sL, hX_sD, hX_sIa, hX_sRa, hV_sI, hV_sR, hV_sL, hV_sD, hV_sIa, hV_sRa, hX_new, hV_new] at o0 o1 ⊢); omega) (by have o0 := hc1.2; have o1 := hv; (try simp only [hX_sI, hX_sR, hX_sL, hX_sD, hX_sIa, hX_sRa, hV_sI, hV_sR, hV_sL, hV_sD, hV_sIa, hV_sRa, hX_new, hV_new] at o0 o1 ⊢); omega) hf 
noncomputable def fX11_init_b136 (v0 : Nat) (t0 : Nat) (t1 : Nat) (h : PH) : Option PH :=
  gd (hK h t0 = 11) (lt (sR h 11 t0 9 (some t1)) (fun h33 =>
  fX11_init_b143 v0 (hX h33) (hnew h33 13 4)))
set_option maxRecDepth 100000 in
theorem mX11_init_b136 {v0 : Nat} {t0 : Nat} {t1 : Nat} {h : PH} {r : PH} (hf : fX11_init_b136 v0 t0 t1 h = some r) : lez h (hX r) (hV r) := by
  unfold fX11_init_b136 at hf
  have hle := lez_rf h
  obtain ⟨hk32, hf⟩ := gd_some hf
  obtain ⟨h33, rfl, hf⟩ := lt_some hf
  have hle := lez_nw (c := 13) (n := 4) hle
  exact lez_rt (mX11_init_b143 hf) hle
set_option maxRecDepth 100000 in
theorem wX11_init_b136 {E : PE} {p : Program} {l : Launch} {e : Env} {s : State} {m : MethodId} {args : Array Value} {below : List Frame} {meth : Method} {c : Code} {X0 V0 MC MS uc us : Nat} (X : Cx E p l e (rmv 5 MC MS) s m args below meth c RX11 cX11_init 2 (none)) (hG : Gs E l) (hnm : meth.name = yX11_init.name) {v0 : Nat} {t0 : Nat} {t1 : Nat} {h : PH} {r : PH} (hM : MC + X0 = (hX r)) (hN : MS + V0 = (hV r)) (hu : uc + X0 = hX h) (hv : us + V0 = hV h) (hf : fX11_init_b136 v0 t0 t1 h = some r)  : PW E p l e (rmv 5 MC MS) s m args below meth c 2 uc us (MQ below (QG E (fun v u => v = none ∧ u = r)) args s MC MS (pA E)) h 136 [(0, some (.ref v0))] [.ref t1, .ref t0] := by
  have hm1 : lez h (hX r) (hV r) := mX11_init_b136 hf
  have hcm : uc ≤ MC := (by have o0 := hm1.1; have o1 := hM; have o2 := hu; (try simp only [hX_sI, hX_sR, hX_sL, hX_sD, hX_sIa, hX_sRa, hV_sI, hV_sR, hV_sL, hV_sD, hV_sIa, hV_sRa, hX_new, hV_new] at o0 o1 o2 ⊢); omega)
  have hsm : us ≤ MS := (by have o0 := hm1.2; have o1 := hN; have o2 := hv; (try simp only [hX_sI, hX_sR, hX_sL, hX_sD, hX_sIa, hX_sRa, hV_sI, hV_sR, hV_sL, hV_sD, hV_sIa, hV_sRa, hX_new, hV_new] at o0 o1 o2 ⊢); omega)
  clear hm1
  unfold fX11_init_b136 at hf
  obtain ⟨hk32, hf⟩ := gd_some hf
  refine p_putRf (v := some _) X fl_X11_75 rfl (by decide) (fun q hq => by cases hq; exact ⟨rfl, rfl⟩) hnm (nar_rf _ (by decide)) (fit_rf _ (by decide)) (dcg dc_X11_init 64 rfl) hk32 ?_
  obtain ⟨h33, rfl, hf⟩ := lt_some hf
  refine p_aload_n X (dcg dc_X11_init 65 rfl) rfl rfl ?_
  have hm1 : lez _ (hX r) (hV r) := mX11_init_b143 hf
  have hm2 := lez_new hm1
  refine p_newN (ci := 13) (q := (RJ4, TJ4, 4)) (n := 4) X rfl rfl (by decide) tw_357 tw_358 tw_114 (dcg dc_X11_init 66 rfl) (show uc + 1 ≤ MC from (by have o0 := hm2.1; have o1 := hM; have o2 := hu; (try simp only [hX_sI, hX_sR, hX_sL, hX_sD, hX_sIa, hX_sRa, hV_sI, hV_sR, hV_sL, hV_sD, hV_sIa, hV_sRa, hX_new, hV_new] at o0 o1 o2 ⊢); omega)) (show us + 4 ≤ MS from (by have o0 := hm2.2; have o1 := hN; have o2 := hv; (try simp only [hX_sI, hX_sR, hX_sL, hX_sD, hX_sIa, hX_sRa, hV_sI, hV_sR, hV_sL, hV_sD, hV_sIa, hV_sRa, hX_new, hV_new] at o0 o1 o2 ⊢); omega)) ?_
  refine p_pick [] ?_
  exact wX11_init_b143 X hG hnm hM hN (by have o0 := hu; (try simp only [hX_sI, hX_sR, hX_sL, hX_sD, hX_sIa, hX_sRa, hV_sI, hV_sR, hV_sL, hV_sD, hV_sIa, hV_sRa, hX_new, hV_new] at o0 ⊢); omega) (by have o0 := hv; (try simp only [hX_sI, hX_sR, hX_sL, hX_sD, hX_sIa, hX_sRa, hV_sI, hV_sR, hV_sL, hV_sD, hV_sIa, hV_sRa, hX_new, hV_new] at o0 ⊢); omega) hf 
noncomputable def fX11_init_b132 (v0 : Nat) (t0 : Nat) (t1 : Nat) (h : PH) : Option PH :=
  bd (fX0_init t1 h) (fun z31 =>
  fX11_init_b136 v0 t0 t1 z31)
set_option maxRecDepth 100000 in
theorem mX11_init_b132 {v0 : Nat} {t0 : Nat} {t1 : Nat} {h : PH} {r : PH} (hf : fX11_init_b132 v0 t0 t1 h = some r) : lez h (hX r) (hV r) := by
  unfold fX11_init_b132 at hf
  have hle := lez_rf h
  obtain ⟨z31, hz31, hf⟩ := bd_some hf
  have hle := lez_rt (mX0_init hz31) hle
  exact lez_rt (mX11_init_b136 hf) hle
set_option maxRecDepth 100000 in
theorem wX11_init_b132 {E : PE} {p : Program} {l : Launch} {e : Env} {s : State} {m : MethodId} {args : Array Value} {below : List Frame} {meth : Method} {c : Code} {X0 V0 MC MS uc us : Nat} (X : Cx E p l e (rmv 5 MC MS) s m args below meth c RX11 cX11_init 2 (none)) (hG : Gs E l) (hnm : meth.name = yX11_init.name) {v0 : Nat} {t0 : Nat} {t1 : Nat} {h : PH} {r : PH} (hM : MC + X0 = (hX r)) (hN : MS + V0 = (hV r)) (hu : uc + X0 = hX h) (hv : us + V0 = hV h) (hf : fX11_init_b132 v0 t0 t1 h = some r)  : PW E p l e (rmv 5 MC MS) s m args below meth c 2 uc us (MQ below (QG E (fun v u => v = none ∧ u = r)) args s MC MS (pA E)) h 132 [(0, some (.ref v0))] [.ref t1, .ref t0] := by
  have hm1 : lez h (hX r) (hV r) := mX11_init_b132 hf
  have hcm : uc ≤ MC := (by have o0 := hm1.1; have o1 := hM; have o2 := hu; (try simp only [hX_sI, hX_sR, hX_sL, hX_sD, hX_sIa, hX_sRa, hV_sI, hV_sR, hV_sL, hV_sD, hV_sIa, hV_sRa, hX_new, hV_new] at o0 o1 o2 ⊢); omega)
  have hsm : us ≤ MS := (by have o0 := hm1.2; have o1 := hN; have o2 := hv; (try simp only [hX_sI, hX_sR, hX_sL, hX_sD, hX_sIa, hX_sRa, hV_sI, hV_sR, hV_sL, hV_sD, hV_sIa, hV_sRa, hX_new, hV_new] at o0 o1 o2 ⊢); omega)
  clear hm1
  unfold fX11_init_b132 at hf
  refine p_dup X (dcg dc_X11_init 62 rfl) rfl ?_
  obtain ⟨z31, hz31, hf⟩ := bd_some hf
  have hc1 := mX0_init hz31
  have hm1 : lez _ (hX r) (hV r) := mX11_init_b136 hf
  refine p_callIn (As := []) (ret1 := none) X ml_X11_74 (dcg dc_X11_init 63 rfl) rfl rfl  (wX0_init hG hz31) (by decide) (room4 (Nat.le_of_ble_eq_true rfl)) (by have o0 := hm1.1; have o1 := hc1.1; have o2 := hM; have o3 := hu; (try simp only [hX_sI, hX_sR, hX_sL, hX_sD, hX_sIa, hX_sRa, hV_sI, hV_sR, hV_sL, hV_sD, hV_sIa, hV_sRa, hX_new, hV_new] at o0 o1 o2 o3 ⊢); omega) (by have o0 := hm1.2; have o1 := hc1.2; have o2 := hN; have o3 := hv; (try simp only [hX_sI, hX_sR, hX_sL, hX_sD, hX_sIa, hX_sRa, hV_sI, hV_sR, hV_sL, hV_sD, hV_sIa, hV_sRa, hX_new, hV_new] at o0 o1 o2 o3 ⊢); omega) ?_
  rintro _ u9 ⟨rfl, e9⟩; have e9 := e9.symm; subst e9
  refine p_pick [0] ?_
  exact wX11_init_b136 X hG hnm hM hN (by have o0 := hc1.1; have o1 := hu; (try simp only [hX_sI, hX_sR, hX_sL, hX_sD, hX_sIa, hX_sRa, hV_sI, hV_sR, hV_sL, hV_sD, hV_sIa, hV_sRa, hX_new, hV_new] at o0 o1 ⊢); omega) (by have o0 := hc1.2; have o1 := hv; (try simp only [hX_sI, hX_sR, hX_sL, hX_sD, hX_sIa, hX_sRa, hV_sI, hV_sR, hV_sL, hV_sD, hV_sIa, hV_sRa, hX_new, hV_new] at o0 o1 ⊢); omega) hf 
noncomputable def fX11_init_b125 (v0 : Nat) (t0 : Nat) (t1 : Nat) (h : PH) : Option PH :=
  gd (hK h t0 = 11) (lt (sR h 11 t0 8 (some t1)) (fun h30 =>
  fX11_init_b132 v0 v0 (hX h30) (hnew h30 0 5)))
set_option maxRecDepth 100000 in
theorem mX11_init_b125 {v0 : Nat} {t0 : Nat} {t1 : Nat} {h : PH} {r : PH} (hf : fX11_init_b125 v0 t0 t1 h = some r) : lez h (hX r) (hV r) := by
  unfold fX11_init_b125 at hf
  have hle := lez_rf h
  obtain ⟨hk29, hf⟩ := gd_some hf
  obtain ⟨h30, rfl, hf⟩ := lt_some hf
  have hle := lez_nw (c := 0) (n := 5) hle
  exact lez_rt (mX11_init_b132 hf) hle
set_option maxRecDepth 100000 in
theorem wX11_init_b125 {E : PE} {p : Program} {l : Launch} {e : Env} {s : State} {m : MethodId} {args : Array Value} {below : List Frame} {meth : Method} {c : Code} {X0 V0 MC MS uc us : Nat} (X : Cx E p l e (rmv 5 MC MS) s m args below meth c RX11 cX11_init 2 (none)) (hG : Gs E l) (hnm : meth.name = yX11_init.name) {v0 : Nat} {t0 : Nat} {t1 : Nat} {h : PH} {r : PH} (hM : MC + X0 = (hX r)) (hN : MS + V0 = (hV r)) (hu : uc + X0 = hX h) (hv : us + V0 = hV h) (hf : fX11_init_b125 v0 t0 t1 h = some r)  : PW E p l e (rmv 5 MC MS) s m args below meth c 2 uc us (MQ below (QG E (fun v u => v = none ∧ u = r)) args s MC MS (pA E)) h 125 [(0, some (.ref v0))] [.ref t1, .ref t0] := by
  have hm1 : lez h (hX r) (hV r) := mX11_init_b125 hf
  have hcm : uc ≤ MC := (by have o0 := hm1.1; have o1 := hM; have o2 := hu; (try simp only [hX_sI, hX_sR, hX_sL, hX_sD, hX_sIa, hX_sRa, hV_sI, hV_sR, hV_sL, hV_sD, hV_sIa, hV_sRa, hX_new, hV_new] at o0 o1 o2 ⊢); omega)
  have hsm : us ≤ MS := (by have o0 := hm1.2; have o1 := hN; have o2 := hv; (try simp only [hX_sI, hX_sR, hX_sL, hX_sD, hX_sIa, hX_sRa, hV_sI, hV_sR, hV_sL, hV_sD, hV_sIa, hV_sRa, hX_new, hV_new] at o0 o1 o2 ⊢); omega)
  clear hm1
  unfold fX11_init_b125 at hf
  obtain ⟨hk29, hf⟩ := gd_some hf
  refine p_putRf (v := some _) X fl_X11_68 rfl (by decide) (fun q hq => by cases hq; exact ⟨rfl, rfl⟩) hnm (nar_rf _ (by decide)) (fit_rf _ (by decide)) (dcg dc_X11_init 59 rfl) hk29 ?_
  obtain ⟨h30, rfl, hf⟩ := lt_some hf
  refine p_aload_n X (dcg dc_X11_init 60 rfl) rfl rfl ?_
  have hm1 : lez _ (hX r) (hV r) := mX11_init_b132 hf
  have hm2 := lez_new hm1
  refine p_newN (ci := 0) (q := (RX0, TX0, 5)) (n := 5) X rfl rfl (by decide) tw_321 tw_322 tw_111 (dcg dc_X11_init 61 rfl) (show uc + 1 ≤ MC from (by have o0 := hm2.1; have o1 := hM; have o2 := hu; (try simp only [hX_sI, hX_sR, hX_sL, hX_sD, hX_sIa, hX_sRa, hV_sI, hV_sR, hV_sL, hV_sD, hV_sIa, hV_sRa, hX_new, hV_new] at o0 o1 o2 ⊢); omega)) (show us + 5 ≤ MS from (by have o0 := hm2.2; have o1 := hN; have o2 := hv; (try simp only [hX_sI, hX_sR, hX_sL, hX_sD, hX_sIa, hX_sRa, hV_sI, hV_sR, hV_sL, hV_sD, hV_sIa, hV_sRa, hX_new, hV_new] at o0 o1 o2 ⊢); omega)) ?_
  refine p_pick [0] ?_
  exact wX11_init_b132 X hG hnm hM hN (by have o0 := hu; (try simp only [hX_sI, hX_sR, hX_sL, hX_sD, hX_sIa, hX_sRa, hV_sI, hV_sR, hV_sL, hV_sD, hV_sIa, hV_sRa, hX_new, hV_new] at o0 ⊢); omega) (by have o0 := hv; (try simp only [hX_sI, hX_sR, hX_sL, hX_sD, hX_sIa, hX_sRa, hV_sI, hV_sR, hV_sL, hV_sD, hV_sIa, hV_sRa, hX_new, hV_new] at o0 ⊢); omega) hf 
noncomputable def fX11_init_b121 (v0 : Nat) (t0 : Nat) (t1 : Nat) (h : PH) : Option PH :=
  bd (fX2_init t1 h) (fun z28 =>
  fX11_init_b125 v0 t0 t1 z28)
set_option maxRecDepth 100000 in
theorem mX11_init_b121 {v0 : Nat} {t0 : Nat} {t1 : Nat} {h : PH} {r : PH} (hf : fX11_init_b121 v0 t0 t1 h = some r) : lez h (hX r) (hV r) := by
  unfold fX11_init_b121 at hf
  have hle := lez_rf h
  obtain ⟨z28, hz28, hf⟩ := bd_some hf
  have hle := lez_rt (mX2_init hz28) hle
  exact lez_rt (mX11_init_b125 hf) hle
set_option maxRecDepth 100000 in
theorem wX11_init_b121 {E : PE} {p : Program} {l : Launch} {e : Env} {s : State} {m : MethodId} {args : Array Value} {below : List Frame} {meth : Method} {c : Code} {X0 V0 MC MS uc us : Nat} (X : Cx E p l e (rmv 5 MC MS) s m args below meth c RX11 cX11_init 2 (none)) (hG : Gs E l) (hnm : meth.name = yX11_init.name) {v0 : Nat} {t0 : Nat} {t1 : Nat} {h : PH} {r : PH} (hM : MC + X0 = (hX r)) (hN : MS + V0 = (hV r)) (hu : uc + X0 = hX h) (hv : us + V0 = hV h) (hf : fX11_init_b121 v0 t0 t1 h = some r)  : PW E p l e (rmv 5 MC MS) s m args below meth c 2 uc us (MQ below (QG E (fun v u => v = none ∧ u = r)) args s MC MS (pA E)) h 121 [(0, some (.ref v0))] [.ref t1, .ref t0] := by
  have hm1 : lez h (hX r) (hV r) := mX11_init_b121 hf
  have hcm : uc ≤ MC := (by have o0 := hm1.1; have o1 := hM; have o2 := hu; (try simp only [hX_sI, hX_sR, hX_sL, hX_sD, hX_sIa, hX_sRa, hV_sI, hV_sR, hV_sL, hV_sD, hV_sIa, hV_sRa, hX_new, hV_new] at o0 o1 o2 ⊢); omega)
  have hsm : us ≤ MS := (by have o0 := hm1.2; have o1 := hN; have o2 := hv; (try simp only [hX_sI, hX_sR, hX_sL, hX_sD, hX_sIa, hX_sRa, hV_sI, hV_sR, hV_sL, hV_sD, hV_sIa, hV_sRa, hX_new, hV_new] at o0 o1 o2 ⊢); omega)
  clear hm1
  unfold fX11_init_b121 at hf
  refine p_dup X (dcg dc_X11_init 57 rfl) rfl ?_
  obtain ⟨z28, hz28, hf⟩ := bd_some hf
  have hc1 := mX2_init hz28
  have hm1 : lez _ (hX r) (hV r) := mX11_init_b125 hf
  refine p_callIn (As := []) (ret1 := none) X ml_X11_67 (dcg dc_X11_init 58 rfl) rfl rfl  (wX2_init hG hz28) (by decide) (room4 (Nat.le_of_ble_eq_true rfl)) (by have o0 := hm1.1; have o1 := hc1.1; have o2 := hM; have o3 := hu; (try simp only [hX_sI, hX_sR, hX_sL, hX_sD, hX_sIa, hX_sRa, hV_sI, hV_sR, hV_sL, hV_sD, hV_sIa, hV_sRa, hX_new, hV_new] at o0 o1 o2 o3 ⊢); omega) (by have o0 := hm1.2; have o1 := hc1.2; have o2 := hN; have o3 := hv; (try simp only [hX_sI, hX_sR, hX_sL, hX_sD, hX_sIa, hX_sRa, hV_sI, hV_sR, hV_sL, hV_sD, hV_sIa, hV_sRa, hX_new, hV_new] at o0 o1 o2 o3 ⊢); omega) ?_
  rintro _ u9 ⟨rfl, e9⟩; have e9 := e9.symm; subst e9
  refine p_pick [0] ?_
  exact wX11_init_b125 X hG hnm hM hN (by have o0 := hc1.1; have o1 := hu; (try simp only [hX_sI, hX_sR, hX_sL, hX_sD, hX_sIa, hX_sRa, hV_sI, hV_sR, hV_sL, hV_sD, hV_sIa, hV_sRa, hX_new, hV_new] at o0 o1 ⊢); omega) (by have o0 := hc1.2; have o1 := hv; (try simp only [hX_sI, hX_sR, hX_sL, hX_sD, hX_sIa, hX_sRa, hV_sI, hV_sR, hV_sL, hV_sD, hV_sIa, hV_sRa, hX_new, hV_new] at o0 o1 ⊢); omega) hf 
noncomputable def fX11_init_b114 (v0 : Nat) (t0 : Nat) (t1 : Nat) (h : PH) : Option PH :=
  gd (hK h t0 = 11) (lt (sR h 11 t0 7 (some t1)) (fun h27 =>
  fX11_init_b121 v0 v0 (hX h27) (hnew h27 2 4)))
set_option maxRecDepth 100000 in
theorem mX11_init_b114 {v0 : Nat} {t0 : Nat} {t1 : Nat} {h : PH} {r : PH} (hf : fX11_init_b114 v0 t0 t1 h = some r) : lez h (hX r) (hV r) := by
  unfold fX11_init_b114 at hf
  have hle := lez_rf h
  obtain ⟨hk26, hf⟩ := gd_some hf
  obtain ⟨h27, rfl, hf⟩ := lt_some hf
  have hle := lez_nw (c := 2) (n := 4) hle
  exact lez_rt (mX11_init_b121 hf) hle
set_option maxRecDepth 100000 in
theorem wX11_init_b114 {E : PE} {p : Program} {l : Launch} {e : Env} {s : State} {m : MethodId} {args : Array Value} {below : List Frame} {meth : Method} {c : Code} {X0 V0 MC MS uc us : Nat} (X : Cx E p l e (rmv 5 MC MS) s m args below meth c RX11 cX11_init 2 (none)) (hG : Gs E l) (hnm : meth.name = yX11_init.name) {v0 : Nat} {t0 : Nat} {t1 : Nat} {h : PH} {r : PH} (hM : MC + X0 = (hX r)) (hN : MS + V0 = (hV r)) (hu : uc + X0 = hX h) (hv : us + V0 = hV h) (hf : fX11_init_b114 v0 t0 t1 h = some r)  : PW E p l e (rmv 5 MC MS) s m args below meth c 2 uc us (MQ below (QG E (fun v u => v = none ∧ u = r)) args s MC MS (pA E)) h 114 [(0, some (.ref v0))] [.ref t1, .ref t0] := by
  have hm1 : lez h (hX r) (hV r) := mX11_init_b114 hf
  have hcm : uc ≤ MC := (by have o0 := hm1.1; have o1 := hM; have o2 := hu; (try simp only [hX_sI, hX_sR, hX_sL, hX_sD, hX_sIa, hX_sRa, hV_sI, hV_sR, hV_sL, hV_sD, hV_sIa, hV_sRa, hX_new, hV_new] at o0 o1 o2 ⊢); omega)
  have hsm : us ≤ MS := (by have o0 := hm1.2; have o1 := hN; have o2 := hv; (try simp only [hX_sI, hX_sR, hX_sL, hX_sD, hX_sIa, hX_sRa, hV_sI, hV_sR, hV_sL, hV_sD, hV_sIa, hV_sRa, hX_new, hV_new] at o0 o1 o2 ⊢); omega)
  clear hm1
  unfold fX11_init_b114 at hf
  obtain ⟨hk26, hf⟩ := gd_some hf
  refine p_putRf (v := some _) X fl_X11_61 rfl (by decide) (fun q hq => by cases hq; exact ⟨rfl, rfl⟩) hnm (nar_rf _ (by decide)) (fit_rf _ (by decide)) (dcg dc_X11_init 54 rfl) hk26 ?_
  obtain ⟨h27, rfl, hf⟩ := lt_some hf
  refine p_aload_n X (dcg dc_X11_init 55 rfl) rfl rfl ?_
  have hm1 : lez _ (hX r) (hV r) := mX11_init_b121 hf
  have hm2 := lez_new hm1
  refine p_newN (ci := 2) (q := (RX2, TX2, 4)) (n := 4) X rfl rfl (by decide) tw_301 tw_302 tw_110 (dcg dc_X11_init 56 rfl) (show uc + 1 ≤ MC from (by have o0 := hm2.1; have o1 := hM; have o2 := hu; (try simp only [hX_sI, hX_sR, hX_sL, hX_sD, hX_sIa, hX_sRa, hV_sI, hV_sR, hV_sL, hV_sD, hV_sIa, hV_sRa, hX_new, hV_new] at o0 o1 o2 ⊢); omega)) (show us + 4 ≤ MS from (by have o0 := hm2.2; have o1 := hN; have o2 := hv; (try simp only [hX_sI, hX_sR, hX_sL, hX_sD, hX_sIa, hX_sRa, hV_sI, hV_sR, hV_sL, hV_sD, hV_sIa, hV_sRa, hX_new, hV_new] at o0 o1 o2 ⊢); omega)) ?_
  refine p_pick [0] ?_
  exact wX11_init_b121 X hG hnm hM hN (by have o0 := hu; (try simp only [hX_sI, hX_sR, hX_sL, hX_sD, hX_sIa, hX_sRa, hV_sI, hV_sR, hV_sL, hV_sD, hV_sIa, hV_sRa, hX_new, hV_new] at o0 ⊢); omega) (by have o0 := hv; (try simp only [hX_sI, hX_sR, hX_sL, hX_sD, hX_sIa, hX_sRa, hV_sI, hV_sR, hV_sL, hV_sD, hV_sIa, hV_sRa, hX_new, hV_new] at o0 ⊢); omega) hf 
noncomputable def fX11_init_b110 (v0 : Nat) (t0 : Nat) (t1 : Nat) (h : PH) : Option PH :=
  bd (fX1_init t1 h) (fun z25 =>
  fX11_init_b114 v0 t0 t1 z25)
set_option maxRecDepth 100000 in
theorem mX11_init_b110 {v0 : Nat} {t0 : Nat} {t1 : Nat} {h : PH} {r : PH} (hf : fX11_init_b110 v0 t0 t1 h = some r) : lez h (hX r) (hV r) := by
  unfold fX11_init_b110 at hf
  have hle := lez_rf h
  obtain ⟨z25, hz25, hf⟩ := bd_some hf
  have hle := lez_rt (mX1_init hz25) hle
  exact lez_rt (mX11_init_b114 hf) hle
set_option maxRecDepth 100000 in
theorem wX11_init_b110 {E : PE} {p : Program} {l : Launch} {e : Env} {s : State} {m : MethodId} {args : Array Value} {below : List Frame} {meth : Method} {c : Code} {X0 V0 MC MS uc us : Nat} (X : Cx E p l e (rmv 5 MC MS) s m args below meth c RX11 cX11_init 2 (none)) (hG : Gs E l) (hnm : meth.name = yX11_init.name) {v0 : Nat} {t0 : Nat} {t1 : Nat} {h : PH} {r : PH} (hM : MC + X0 = (hX r)) (hN : MS + V0 = (hV r)) (hu : uc + X0 = hX h) (hv : us + V0 = hV h) (hf : fX11_init_b110 v0 t0 t1 h = some r)  : PW E p l e (rmv 5 MC MS) s m args below meth c 2 uc us (MQ below (QG E (fun v u => v = none ∧ u = r)) args s MC MS (pA E)) h 110 [(0, some (.ref v0))] [.ref t1, .ref t0] := by
  have hm1 : lez h (hX r) (hV r) := mX11_init_b110 hf
  have hcm : uc ≤ MC := (by have o0 := hm1.1; have o1 := hM; have o2 := hu; (try simp only [hX_sI, hX_sR, hX_sL, hX_sD, hX_sIa, hX_sRa, hV_sI, hV_sR, hV_sL, hV_sD, hV_sIa, hV_sRa, hX_new, hV_new] at o0 o1 o2 ⊢); omega)
  have hsm : us ≤ MS := (by have o0 := hm1.2; have o1 := hN; have o2 := hv; (try simp only [hX_sI, hX_sR, hX_sL, hX_sD, hX_sIa, hX_sRa, hV_sI, hV_sR, hV_sL, hV_sD, hV_sIa, hV_sRa, hX_new, hV_new] at o0 o1 o2 ⊢); omega)
  clear hm1
  unfold fX11_init_b110 at hf
  refine p_dup X (dcg dc_X11_init 52 rfl) rfl ?_
  obtain ⟨z25, hz25, hf⟩ := bd_some hf
  have hc1 := mX1_init hz25
  have hm1 : lez _ (hX r) (hV r) := mX11_init_b114 hf
  refine p_callIn (As := []) (ret1 := none) X ml_X11_60 (dcg dc_X11_init 53 rfl) rfl rfl  (wX1_init hG hz25) (by decide) (room4 (Nat.le_of_ble_eq_true rfl)) (by have o0 := hm1.1; have o1 := hc1.1; have o2 := hM; have o3 := hu; (try simp only [hX_sI, hX_sR, hX_sL, hX_sD, hX_sIa, hX_sRa, hV_sI, hV_sR, hV_sL, hV_sD, hV_sIa, hV_sRa, hX_new, hV_new] at o0 o1 o2 o3 ⊢); omega) (by have o0 := hm1.2; have o1 := hc1.2; have o2 := hN; have o3 := hv; (try simp only [hX_sI, hX_sR, hX_sL, hX_sD, hX_sIa, hX_sRa, hV_sI, hV_sR, hV_sL, hV_sD, hV_sIa, hV_sRa, hX_new, hV_new] at o0 o1 o2 o3 ⊢); omega) ?_
  rintro _ u9 ⟨rfl, e9⟩; have e9 := e9.symm; subst e9
  refine p_pick [0] ?_
  exact wX11_init_b114 X hG hnm hM hN (by have o0 := hc1.1; have o1 := hu; (try simp only [hX_sI, hX_sR, hX_sL, hX_sD, hX_sIa, hX_sRa, hV_sI, hV_sR, hV_sL, hV_sD, hV_sIa, hV_sRa, hX_new, hV_new] at o0 o1 ⊢); omega) (by have o0 := hc1.2; have o1 := hv; (try simp only [hX_sI, hX_sR, hX_sL, hX_sD, hX_sIa, hX_sRa, hV_sI, hV_sR, hV_sL, hV_sD, hV_sIa, hV_sRa, hX_new, hV_new] at o0 o1 ⊢); omega) hf 
noncomputable def fX11_init_b95 (v0 : Nat) (v1 : Int32) (t0 : Option Nat) (t1 : Int32) (t2 : Nat) (h : PH) : Option ((Int32 × PH) ⊕ PH) :=
  bd (fX9_init t2) (fun z38 =>
  gs t0 (fun a39 =>
  gd (hK h a39 = 27 ∧ inb t1 (hN h a39)) (gd (okq h 9 (some t2) = true) (lt (sR h 27 a39 (Int32.toNatClampNeg t1) (some t2)) (fun h43 =>
  some (.inl ((v1 + 1), h43)))))))
set_option maxRecDepth 100000 in
theorem mX11_init_b95 {v0 : Nat} {v1 : Int32} {t0 : Option Nat} {t1 : Int32} {t2 : Nat} {h : PH} {x : ((Int32 × PH) ⊕ PH)} (hf : fX11_init_b95 v0 v1 t0 t1 t2 h = some x) : (∀ w9 : (Int32 × PH), x = .inl w9 → lez h (hX (w9.2)) (hV (w9.2))) ∧ (∀ w9 : PH, x = .inr w9 → lez h (hX w9) (hV w9)) := by
  unfold fX11_init_b95 at hf
  have hle := lez_rf h
  obtain ⟨z38, hz38, hf⟩ := bd_some hf
  obtain ⟨a39, e40, hf⟩ := gs_some hf
  obtain ⟨⟨hk42, hb41⟩, hf⟩ := gd_some hf
  obtain ⟨hg44, hf⟩ := gd_some hf
  obtain ⟨h43, rfl, hf⟩ := lt_some hf
  have ee := Option.some.inj hf; subst ee
  exact ⟨(fun z e => by have ee := Sum.inl.inj (e); subst ee; exact hle), (fun z e => nomatch e)⟩
set_option maxRecDepth 100000 in
theorem wX11_init_b95 {E : PE} {p : Program} {l : Launch} {e : Env} {s : State} {m : MethodId} {args : Array Value} {below : List Frame} {meth : Method} {c : Code} {X0 V0 MC MS uc us : Nat} (X : Cx E p l e (rmv 5 MC MS) s m args below meth c RX11 cX11_init 2 (none)) (hG : Gs E l) (hnm : meth.name = yX11_init.name) {v0 : Nat} {v1 : Int32} {t0 : Option Nat} {t1 : Int32} {t2 : Nat} {h : PH} {r : PH} {x : ((Int32 × PH) ⊕ PH)} (hM : MC + X0 = (hX r)) (hN : MS + V0 = (hV r)) (hu : uc + X0 = hX h) (hv : us + V0 = hV h) (hf : fX11_init_b95 v0 v1 t0 t1 t2 h = some x) (k0 : ∀ (z : (Int32 × PH)) (uc us : Nat), x = .inl z → uc + X0 = hX (z.2) → us + V0 = hV (z.2) → PW E p l e (rmv 5 MC MS) s m args below meth c 2 uc us (MQ below (QG E (fun v u => v = none ∧ u = r)) args s MC MS (pA E)) (z.2) 81 [(0, some (.ref v0)), (1, some (.int (z.1)))] []) (kl0 : ∀ z : (Int32 × PH), x = .inl z → lez (z.2) (hX r) (hV r)) (kf : ∀ z : PH, x = .inr z → z = r) : PW E p l e (rmv 5 MC MS) s m args below meth c 2 uc us (MQ below (QG E (fun v u => v = none ∧ u = r)) args s MC MS (pA E)) h 95 [(0, some (.ref v0)), (1, some (.int v1))] [.ref t2, .int t1, va_rf t0] := by
  have hm1 : lez h (hX r) (hV r) := by
    obtain ⟨c0, cf⟩ := mX11_init_b95 hf
    rcases hxx : x with zz | zz
    · exact lez_tr (c0 zz hxx) (kl0 zz hxx)
    · have ee := kf zz hxx; subst ee; exact cf zz hxx
  have hcm : uc ≤ MC := (by have o0 := hm1.1; have o1 := hM; have o2 := hu; (try simp only [hX_sI, hX_sR, hX_sL, hX_sD, hX_sIa, hX_sRa, hV_sI, hV_sR, hV_sL, hV_sD, hV_sIa, hV_sRa, hX_new, hV_new] at o0 o1 o2 ⊢); omega)
  have hsm : us ≤ MS := (by have o0 := hm1.2; have o1 := hN; have o2 := hv; (try simp only [hX_sI, hX_sR, hX_sL, hX_sD, hX_sIa, hX_sRa, hV_sI, hV_sR, hV_sL, hV_sD, hV_sIa, hV_sRa, hX_new, hV_new] at o0 o1 o2 ⊢); omega)
  clear hm1
  unfold fX11_init_b95 at hf
  refine p_dup X (dcg dc_X11_init 45 rfl) rfl ?_
  obtain ⟨z38, hz38, hf⟩ := bd_some hf
  refine p_callIn (As := []) (ret1 := none) X ml_X11_57 (dcg dc_X11_init 46 rfl) rfl rfl  (wX9_init hG hz38) (by decide) (room4 (Nat.le_of_ble_eq_true rfl)) hcm hsm ?_
  rintro _ u9 ⟨rfl, e9⟩; have e9 := e9.symm; subst e9
  obtain ⟨a39, e40, hf⟩ := gs_some hf
  first | subst e40 | (try rw [e40])
  obtain ⟨⟨hk42, hb41⟩, hf⟩ := gd_some hf
  obtain ⟨hg44, hf⟩ := gd_some hf
  refine p_aast27 (v := some _) X (dcg dc_X11_init 47 rfl) hk42 (vp_of_inb hb41) (okq_of hg44) ?_
  obtain ⟨h43, rfl, hf⟩ := lt_some hf
  refine p_iinc (v := 1) X (dcg dc_X11_init 48 rfl) rfl (by decide) (by decide) rfl ?_
  refine p_goto (tgt := 81) X (dcg dc_X11_init 49 rfl) (by decide) ?_
  refine p_pick [0, 1] ?_
  exact k0 _ _ _ (Option.some.inj hf).symm hu hv
noncomputable def fX11_init_c81 (v0 : Nat) (v1 : Int32) (h : PH) : Option ((Int32 × PH) ⊕ PH) :=
  if ((6 : Int32) ≤ v1) then (mr (fX11_init_b110 v0 v0 (hX h) (hnew h 1 5))) else
  gd (hK h v0 = 11) (fX11_init_b95 v0 v1 (hR h 11 v0 6) v1 (hX h) (hnew h 9 2))
set_option maxRecDepth 100000 in
theorem mX11_init_c81 {v0 : Nat} {v1 : Int32} {h : PH} {x : ((Int32 × PH) ⊕ PH)} (hf : fX11_init_c81 v0 v1 h = some x) : (∀ w9 : (Int32 × PH), x = .inl w9 → lez h (hX (w9.2)) (hV (w9.2))) ∧ (∀ w9 : PH, x = .inr w9 → lez h (hX w9) (hV w9)) := by
  unfold fX11_init_c81 at hf
  have hle := lez_rf h
  rcases ite_or hf with ⟨q, hf⟩ | ⟨q, hf⟩
  · have hf := if_t q hf
    obtain ⟨y23, hfm, rfl⟩ := mr_some hf; have hf := hfm; clear hfm
    have hle := lez_nw (c := 1) (n := 5) hle
    have cf := mX11_init_b110 hf
    exact ⟨(fun z e => nomatch e), (fun z e => by cases e <;> exact lez_rt cf hle)⟩
  · have hf := if_f q hf
    obtain ⟨hk37, hf⟩ := gd_some hf
    have hle := lez_nw (c := 9) (n := 2) hle
    obtain ⟨c0, cf⟩ := mX11_init_b95 hf
    exact ⟨fun z e => lez_rt (c0 z (e)) hle, fun z e => lez_rt (cf z (e)) hle⟩
set_option maxRecDepth 100000 in
theorem wX11_init_c81 {E : PE} {p : Program} {l : Launch} {e : Env} {s : State} {m : MethodId} {args : Array Value} {below : List Frame} {meth : Method} {c : Code} {X0 V0 MC MS uc us : Nat} (X : Cx E p l e (rmv 5 MC MS) s m args below meth c RX11 cX11_init 2 (none)) (hG : Gs E l) (hnm : meth.name = yX11_init.name) {v0 : Nat} {v1 : Int32} {h : PH} {r : PH} {x : ((Int32 × PH) ⊕ PH)} (hM : MC + X0 = (hX r)) (hN : MS + V0 = (hV r)) (hu : uc + X0 = hX h) (hv : us + V0 = hV h) (hf : fX11_init_c81 v0 v1 h = some x) (k0 : ∀ (z : (Int32 × PH)) (uc us : Nat), x = .inl z → uc + X0 = hX (z.2) → us + V0 = hV (z.2) → PW E p l e (rmv 5 MC MS) s m args below meth c 2 uc us (MQ below (QG E (fun v u => v = none ∧ u = r)) args s MC MS (pA E)) (z.2) 81 [(0, some (.ref v0)), (1, some (.int (z.1)))] []) (kl0 : ∀ z : (Int32 × PH), x = .inl z → lez (z.2) (hX r) (hV r)) (kf : ∀ z : PH, x = .inr z → z = r) : PW E p l e (rmv 5 MC MS) s m args below meth c 2 uc us (MQ below (QG E (fun v u => v = none ∧ u = r)) args s MC MS (pA E)) h 81 [(0, some (.ref v0)), (1, some (.int v1))] [] := by
  have hm1 : lez h (hX r) (hV r) := by
    obtain ⟨c0, cf⟩ := mX11_init_c81 hf
    rcases hxx : x with zz | zz
    · exact lez_tr (c0 zz hxx) (kl0 zz hxx)
    · have ee := kf zz hxx; subst ee; exact cf zz hxx
  have hcm : uc ≤ MC := (by have o0 := hm1.1; have o1 := hM; have o2 := hu; (try simp only [hX_sI, hX_sR, hX_sL, hX_sD, hX_sIa, hX_sRa, hV_sI, hV_sR, hV_sL, hV_sD, hV_sIa, hV_sRa, hX_new, hV_new] at o0 o1 o2 ⊢); omega)
  have hsm : us ≤ MS := (by have o0 := hm1.2; have o1 := hN; have o2 := hv; (try simp only [hX_sI, hX_sR, hX_sL, hX_sD, hX_sIa, hX_sRa, hV_sI, hV_sR, hV_sL, hV_sD, hV_sIa, hV_sRa, hX_new, hV_new] at o0 o1 o2 ⊢); omega)
  clear hm1
  unfold fX11_init_c81 at hf
  refine p_iload_n X (dcg dc_X11_init 38 rfl) rfl rfl ?_
  refine p_bipush (v := 6) X (dcg dc_X11_init 39 rfl) (by decide) ?_
  refine p_icmp_ge (tgt := 106) X (dcg dc_X11_init 40 rfl) (by decide) (fun q => ?_) (fun q => ?_)
  · have hf := if_t q hf
    obtain ⟨y23, hf, hy24⟩ := mr_some hf
    have hy24f := kf y23 hy24
    subst hy24f
    refine p_aload_n X (dcg dc_X11_init 50 rfl) rfl rfl ?_
    have hm1 := mX11_init_b110 hf
    have hm2 := lez_new hm1
    refine p_newN (ci := 1) (q := (RX1, TX1, 5)) (n := 5) X rfl rfl (by decide) tw_278 tw_279 tw_109 (dcg dc_X11_init 51 rfl) (show uc + 1 ≤ MC from (by have o0 := hm2.1; have o1 := hM; have o2 := hu; (try simp only [hX_sI, hX_sR, hX_sL, hX_sD, hX_sIa, hX_sRa, hV_sI, hV_sR, hV_sL, hV_sD, hV_sIa, hV_sRa, hX_new, hV_new] at o0 o1 o2 ⊢); omega)) (show us + 5 ≤ MS from (by have o0 := hm2.2; have o1 := hN; have o2 := hv; (try simp only [hX_sI, hX_sR, hX_sL, hX_sD, hX_sIa, hX_sRa, hV_sI, hV_sR, hV_sL, hV_sD, hV_sIa, hV_sRa, hX_new, hV_new] at o0 o1 o2 ⊢); omega)) ?_
    refine p_pick [0] ?_
    exact wX11_init_b110 X hG hnm hM hN (by have o0 := hu; (try simp only [hX_sI, hX_sR, hX_sL, hX_sD, hX_sIa, hX_sRa, hV_sI, hV_sR, hV_sL, hV_sD, hV_sIa, hV_sRa, hX_new, hV_new] at o0 ⊢); omega) (by have o0 := hv; (try simp only [hX_sI, hX_sR, hX_sL, hX_sD, hX_sIa, hX_sRa, hV_sI, hV_sR, hV_sL, hV_sD, hV_sIa, hV_sRa, hX_new, hV_new] at o0 ⊢); omega) hf 
  · have hf := if_f q hf
    refine p_aload_n X (dcg dc_X11_init 41 rfl) rfl rfl ?_
    obtain ⟨hk37, hf⟩ := gd_some hf
    refine p_getR X fl_X11_53 rfl (by decide) (dcg dc_X11_init 42 rfl) hk37 ?_
    refine p_iload_n X (dcg dc_X11_init 43 rfl) rfl rfl ?_
    obtain ⟨c0, cf⟩ := mX11_init_b95 hf
    have hm1 := (nst1 (fun zz hxx => lez_tr (c0 zz hxx) (kl0 zz hxx)) (fun zz hxx => by have ee := kf zz hxx; subst ee; exact cf zz hxx))
    have hm2 := lez_new hm1
    refine p_newN (ci := 9) (q := (RX9, TX9, 2)) (n := 2) X rfl rfl (by decide) tw_264 tw_266 tw_108 (dcg dc_X11_init 44 rfl) (show uc + 1 ≤ MC from (by have o0 := hm2.1; have o1 := hM; have o2 := hu; (try simp only [hX_sI, hX_sR, hX_sL, hX_sD, hX_sIa, hX_sRa, hV_sI, hV_sR, hV_sL, hV_sD, hV_sIa, hV_sRa, hX_new, hV_new] at o0 o1 o2 ⊢); omega)) (show us + 2 ≤ MS from (by have o0 := hm2.2; have o1 := hN; have o2 := hv; (try simp only [hX_sI, hX_sR, hX_sL, hX_sD, hX_sIa, hX_sRa, hV_sI, hV_sR, hV_sL, hV_sD, hV_sIa, hV_sRa, hX_new, hV_new] at o0 o1 o2 ⊢); omega)) ?_
    refine p_pick [0, 1] ?_
    exact wX11_init_b95 X hG hnm hM hN (by have o0 := hu; (try simp only [hX_sI, hX_sR, hX_sL, hX_sD, hX_sIa, hX_sRa, hV_sI, hV_sR, hV_sL, hV_sD, hV_sIa, hV_sRa, hX_new, hV_new] at o0 ⊢); omega) (by have o0 := hv; (try simp only [hX_sI, hX_sR, hX_sL, hX_sD, hX_sIa, hX_sRa, hV_sI, hV_sR, hV_sL, hV_sD, hV_sIa, hV_sRa, hX_new, hV_new] at o0 ⊢); omega) hf k0 kl0 kf
noncomputable def fX11_init_l81 (v0 : Nat) (v1 : Int32) (h : PH) : Option PH := wh (fun z : (Int32 × PH) => fX11_init_c81 v0 (z.1) (z.2)) (v1, h)
set_option maxRecDepth 100000 in
theorem mX11_init_l81 {v0 : Nat} {v1 : Int32} {h : PH} {r : PH} (hf : fX11_init_l81 v0 v1 h = some r) : lez h (hX r) (hV r) := by
  unfold fX11_init_l81 at hf
  refine wh_ind (P := fun z => lez (z.2) (hX r) (hV r)) (fun z x0 hs i1 i2 => ?_) _ hf
  obtain ⟨c0, cf⟩ := mX11_init_c81 (v0 := v0) (v1 := z.1) (h := z.2) hs
  rcases hxx : x0 with zz | zz
  · exact lez_tr (c0 zz hxx) (i1 zz hxx)
  · have ee := i2 zz hxx; subst ee; exact cf zz hxx
set_option maxRecDepth 100000 in
theorem wX11_init_l81 {E : PE} {p : Program} {l : Launch} {e : Env} {s : State} {m : MethodId} {args : Array Value} {below : List Frame} {meth : Method} {c : Code} {X0 V0 MC MS uc us : Nat} (X : Cx E p l e (rmv 5 MC MS) s m args below meth c RX11 cX11_init 2 (none)) (hG : Gs E l) (hnm : meth.name = yX11_init.name) {v0 : Nat} {v1 : Int32} {h : PH} {r : PH} (hM : MC + X0 = (hX r)) (hN : MS + V0 = (hV r)) (hu : uc + X0 = hX h) (hv : us + V0 = hV h) (hf : fX11_init_l81 v0 v1 h = some r)  : PW E p l e (rmv 5 MC MS) s m args below meth c 2 uc us (MQ below (QG E (fun v u => v = none ∧ u = r)) args s MC MS (pA E)) h 81 [(0, some (.ref v0)), (1, some (.int v1))] [] := by
  unfold fX11_init_l81 at hf
  refine wh_ind2 (P := fun z => ∀ uc us : Nat, uc + X0 = hX (z.2) → us + V0 = hV (z.2) → PW E p l e (rmv 5 MC MS) s m args below meth c 2 uc us (MQ below (QG E (fun v u => v = none ∧ u = r)) args s MC MS (pA E)) (z.2) 81 [(0, some (.ref v0)), (1, some (.int (z.1)))] []) (fun z x0 hs i1 i2 uc us hu hv => ?_) _ hf uc us hu hv
  exact wX11_init_c81 (r := r) (v0 := v0) (v1 := z.1) (h := z.2) X hG hnm hM hN hu hv hs (fun z1 uc1 us1 e1 e2 e3 => (i1 z1 e1).1 uc1 us1 e2 e3) (fun z1 e1 => mX11_init_l81 (v0 := v0) (v1 := z1.1) (h := z1.2) (by unfold fX11_init_l81; exact (i1 z1 e1).2))  i2
noncomputable def fX11_init_b76 (v0 : Nat) (t0 : Nat) (t1 : Nat) (h : PH) : Option PH :=
  gd (hK h t0 = 11) (lt (sR h 11 t0 6 (some t1)) (fun h22 =>
  fX11_init_l81 v0 (0 : Int32) h22))
set_option maxRecDepth 100000 in
theorem mX11_init_b76 {v0 : Nat} {t0 : Nat} {t1 : Nat} {h : PH} {r : PH} (hf : fX11_init_b76 v0 t0 t1 h = some r) : lez h (hX r) (hV r) := by
  unfold fX11_init_b76 at hf
  have hle := lez_rf h
  obtain ⟨hk21, hf⟩ := gd_some hf
  obtain ⟨h22, rfl, hf⟩ := lt_some hf
  exact lez_rt (mX11_init_l81 hf) hle
set_option maxRecDepth 100000 in
theorem wX11_init_b76 {E : PE} {p : Program} {l : Launch} {e : Env} {s : State} {m : MethodId} {args : Array Value} {below : List Frame} {meth : Method} {c : Code} {X0 V0 MC MS uc us : Nat} (X : Cx E p l e (rmv 5 MC MS) s m args below meth c RX11 cX11_init 2 (none)) (hG : Gs E l) (hnm : meth.name = yX11_init.name) {v0 : Nat} {t0 : Nat} {t1 : Nat} {h : PH} {r : PH} (hM : MC + X0 = (hX r)) (hN : MS + V0 = (hV r)) (hu : uc + X0 = hX h) (hv : us + V0 = hV h) (hf : fX11_init_b76 v0 t0 t1 h = some r)  : PW E p l e (rmv 5 MC MS) s m args below meth c 2 uc us (MQ below (QG E (fun v u => v = none ∧ u = r)) args s MC MS (pA E)) h 76 [(0, some (.ref v0))] [.ref t1, .ref t0] := by
  have hm1 : lez h (hX r) (hV r) := mX11_init_b76 hf
  have hcm : uc ≤ MC := (by have o0 := hm1.1; have o1 := hM; have o2 := hu; (try simp only [hX_sI, hX_sR, hX_sL, hX_sD, hX_sIa, hX_sRa, hV_sI, hV_sR, hV_sL, hV_sD, hV_sIa, hV_sRa, hX_new, hV_new] at o0 o1 o2 ⊢); omega)
  have hsm : us ≤ MS := (by have o0 := hm1.2; have o1 := hN; have o2 := hv; (try simp only [hX_sI, hX_sR, hX_sL, hX_sD, hX_sIa, hX_sRa, hV_sI, hV_sR, hV_sL, hV_sD, hV_sIa, hV_sRa, hX_new, hV_new] at o0 o1 o2 ⊢); omega)
  clear hm1
  unfold fX11_init_b76 at hf
  obtain ⟨hk21, hf⟩ := gd_some hf
  refine p_putRf (v := some _) X fl_X11_53 rfl (by decide) (fun q hq => by cases hq; exact ⟨rfl, rfl⟩) hnm (nar_rf _ (by decide)) (fit_rf _ (by decide)) (dcg dc_X11_init 35 rfl) hk21 ?_
  obtain ⟨h22, rfl, hf⟩ := lt_some hf
  refine p_iconst (v := 0) X (dcg dc_X11_init 36 rfl) (by decide) ?_
  refine p_istore_n X (dcg dc_X11_init 37 rfl) rfl (by decide) rfl ?_
  refine p_pick [0, 1] ?_
  exact wX11_init_l81 X hG hnm hM hN hu hv hf 
noncomputable def fX11_init_b67 (v0 : Nat) (t0 : Nat) (t1 : Nat) (h : PH) : Option PH :=
  gd (hK h t0 = 11) (lt (sR h 11 t0 5 (some t1)) (fun h19 =>
  gd (¬ (6 : Int32) < 0 ∧ (Int32.toNatClampNeg (6 : Int32)) ≤ 1000000) (fX11_init_b76 v0 v0 (hX h19) (hnew h19 27 (Int32.toNatClampNeg (6 : Int32))))))
set_option maxRecDepth 100000 in
theorem mX11_init_b67 {v0 : Nat} {t0 : Nat} {t1 : Nat} {h : PH} {r : PH} (hf : fX11_init_b67 v0 t0 t1 h = some r) : lez h (hX r) (hV r) := by
  unfold fX11_init_b67 at hf
  have hle := lez_rf h
  obtain ⟨hk18, hf⟩ := gd_some hf
  obtain ⟨h19, rfl, hf⟩ := lt_some hf
  obtain ⟨hg20, hf⟩ := gd_some hf
  have hle := lez_nw (c := 27) (n := (Int32.toNatClampNeg (6 : Int32))) hle
  exact lez_rt (mX11_init_b76 hf) hle
set_option maxRecDepth 100000 in
theorem wX11_init_b67 {E : PE} {p : Program} {l : Launch} {e : Env} {s : State} {m : MethodId} {args : Array Value} {below : List Frame} {meth : Method} {c : Code} {X0 V0 MC MS uc us : Nat} (X : Cx E p l e (rmv 5 MC MS) s m args below meth c RX11 cX11_init 2 (none)) (hG : Gs E l) (hnm : meth.name = yX11_init.name) {v0 : Nat} {t0 : Nat} {t1 : Nat} {h : PH} {r : PH} (hM : MC + X0 = (hX r)) (hN : MS + V0 = (hV r)) (hu : uc + X0 = hX h) (hv : us + V0 = hV h) (hf : fX11_init_b67 v0 t0 t1 h = some r)  : PW E p l e (rmv 5 MC MS) s m args below meth c 2 uc us (MQ below (QG E (fun v u => v = none ∧ u = r)) args s MC MS (pA E)) h 67 [(0, some (.ref v0))] [.ref t1, .ref t0] := by
  have hm1 : lez h (hX r) (hV r) := mX11_init_b67 hf
  have hcm : uc ≤ MC := (by have o0 := hm1.1; have o1 := hM; have o2 := hu; (try simp only [hX_sI, hX_sR, hX_sL, hX_sD, hX_sIa, hX_sRa, hV_sI, hV_sR, hV_sL, hV_sD, hV_sIa, hV_sRa, hX_new, hV_new] at o0 o1 o2 ⊢); omega)
  have hsm : us ≤ MS := (by have o0 := hm1.2; have o1 := hN; have o2 := hv; (try simp only [hX_sI, hX_sR, hX_sL, hX_sD, hX_sIa, hX_sRa, hV_sI, hV_sR, hV_sL, hV_sD, hV_sIa, hV_sRa, hX_new, hV_new] at o0 o1 o2 ⊢); omega)
  clear hm1
  unfold fX11_init_b67 at hf
  obtain ⟨hk18, hf⟩ := gd_some hf
  refine p_putRf (v := some _) X fl_X11_47 rfl (by decide) (fun q hq => by cases hq; exact ⟨rfl, rfl⟩) hnm (nar_rf _ (by decide)) (fit_rf _ (by decide)) (dcg dc_X11_init 31 rfl) hk18 ?_
  obtain ⟨h19, rfl, hf⟩ := lt_some hf
  refine p_aload_n X (dcg dc_X11_init 32 rfl) rfl rfl ?_
  refine p_bipush (v := 6) X (dcg dc_X11_init 33 rfl) (by decide) ?_
  obtain ⟨hg20, hf⟩ := gd_some hf
  have hm1 : lez _ (hX r) (hV r) := mX11_init_b76 hf
  have hm2 := lez_new hm1
  refine p_newq27 X tw_264 tl_265 (dcg dc_X11_init 34 rfl) hg20.1 hg20.2 (show uc + 1 ≤ MC from (by have o0 := hm2.1; have o1 := hM; have o2 := hu; (try simp only [hX_sI, hX_sR, hX_sL, hX_sD, hX_sIa, hX_sRa, hV_sI, hV_sR, hV_sL, hV_sD, hV_sIa, hV_sRa, hX_new, hV_new] at o0 o1 o2 ⊢); omega)) (show us + (Int32.toNatClampNeg (6 : Int32)) ≤ MS from (by have o0 := hm2.2; have o1 := hN; have o2 := hv; (try simp only [hX_sI, hX_sR, hX_sL, hX_sD, hX_sIa, hX_sRa, hV_sI, hV_sR, hV_sL, hV_sD, hV_sIa, hV_sRa, hX_new, hV_new] at o0 o1 o2 ⊢); omega)) ?_
  refine p_pick [0] ?_
  exact wX11_init_b76 X hG hnm hM hN (by have o0 := hu; (try simp only [hX_sI, hX_sR, hX_sL, hX_sD, hX_sIa, hX_sRa, hV_sI, hV_sR, hV_sL, hV_sD, hV_sIa, hV_sRa, hX_new, hV_new] at o0 ⊢); omega) (by have o0 := hv; (try simp only [hX_sI, hX_sR, hX_sL, hX_sD, hX_sIa, hX_sRa, hV_sI, hV_sR, hV_sL, hV_sD, hV_sIa, hV_sRa, hX_new, hV_new] at o0 ⊢); omega) hf 
noncomputable def fX11_init_b58 (v0 : Nat) (t0 : Nat) (t1 : Nat) (h : PH) : Option PH :=
  gd (hK h t0 = 11) (lt (sR h 11 t0 4 (some t1)) (fun h16 =>
  gd (¬ (6 : Int32) < 0 ∧ (Int32.toNatClampNeg (6 : Int32)) ≤ 1000000) (fX11_init_b67 v0 v0 (hX h16) (hnew h16 25 (Int32.toNatClampNeg (6 : Int32))))))
set_option maxRecDepth 100000 in
theorem mX11_init_b58 {v0 : Nat} {t0 : Nat} {t1 : Nat} {h : PH} {r : PH} (hf : fX11_init_b58 v0 t0 t1 h = some r) : lez h (hX r) (hV r) := by
  unfold fX11_init_b58 at hf
  have hle := lez_rf h
  obtain ⟨hk15, hf⟩ := gd_some hf
  obtain ⟨h16, rfl, hf⟩ := lt_some hf
  obtain ⟨hg17, hf⟩ := gd_some hf
  have hle := lez_nw (c := 25) (n := (Int32.toNatClampNeg (6 : Int32))) hle
  exact lez_rt (mX11_init_b67 hf) hle
set_option maxRecDepth 100000 in
theorem wX11_init_b58 {E : PE} {p : Program} {l : Launch} {e : Env} {s : State} {m : MethodId} {args : Array Value} {below : List Frame} {meth : Method} {c : Code} {X0 V0 MC MS uc us : Nat} (X : Cx E p l e (rmv 5 MC MS) s m args below meth c RX11 cX11_init 2 (none)) (hG : Gs E l) (hnm : meth.name = yX11_init.name) {v0 : Nat} {t0 : Nat} {t1 : Nat} {h : PH} {r : PH} (hM : MC + X0 = (hX r)) (hN : MS + V0 = (hV r)) (hu : uc + X0 = hX h) (hv : us + V0 = hV h) (hf : fX11_init_b58 v0 t0 t1 h = some r)  : PW E p l e (rmv 5 MC MS) s m args below meth c 2 uc us (MQ below (QG E (fun v u => v = none ∧ u = r)) args s MC MS (pA E)) h 58 [(0, some (.ref v0))] [.ref t1, .ref t0] := by
  have hm1 : lez h (hX r) (hV r) := mX11_init_b58 hf
  have hcm : uc ≤ MC := (by have o0 := hm1.1; have o1 := hM; have o2 := hu; (try simp only [hX_sI, hX_sR, hX_sL, hX_sD, hX_sIa, hX_sRa, hV_sI, hV_sR, hV_sL, hV_sD, hV_sIa, hV_sRa, hX_new, hV_new] at o0 o1 o2 ⊢); omega)
  have hsm : us ≤ MS := (by have o0 := hm1.2; have o1 := hN; have o2 := hv; (try simp only [hX_sI, hX_sR, hX_sL, hX_sD, hX_sIa, hX_sRa, hV_sI, hV_sR, hV_sL, hV_sD, hV_sIa, hV_sRa, hX_new, hV_new] at o0 o1 o2 ⊢); omega)
  clear hm1
  unfold fX11_init_b58 at hf
  obtain ⟨hk15, hf⟩ := gd_some hf
  refine p_putRf (v := some _) X fl_X11_41 rfl (by decide) (fun q hq => by cases hq; exact ⟨rfl, rfl⟩) hnm (nar_rf _ (by decide)) (fit_rf _ (by decide)) (dcg dc_X11_init 27 rfl) hk15 ?_
  obtain ⟨h16, rfl, hf⟩ := lt_some hf
  refine p_aload_n X (dcg dc_X11_init 28 rfl) rfl rfl ?_
  refine p_bipush (v := 6) X (dcg dc_X11_init 29 rfl) (by decide) ?_
  obtain ⟨hg17, hf⟩ := gd_some hf
  have hm1 : lez _ (hX r) (hV r) := mX11_init_b67 hf
  have hm2 := lez_new hm1
  refine p_newq25 X tw_262 tl_263 (dcg dc_X11_init 30 rfl) hg17.1 hg17.2 (show uc + 1 ≤ MC from (by have o0 := hm2.1; have o1 := hM; have o2 := hu; (try simp only [hX_sI, hX_sR, hX_sL, hX_sD, hX_sIa, hX_sRa, hV_sI, hV_sR, hV_sL, hV_sD, hV_sIa, hV_sRa, hX_new, hV_new] at o0 o1 o2 ⊢); omega)) (show us + (Int32.toNatClampNeg (6 : Int32)) ≤ MS from (by have o0 := hm2.2; have o1 := hN; have o2 := hv; (try simp only [hX_sI, hX_sR, hX_sL, hX_sD, hX_sIa, hX_sRa, hV_sI, hV_sR, hV_sL, hV_sD, hV_sIa, hV_sRa, hX_new, hV_new] at o0 o1 o2 ⊢); omega)) ?_
  refine p_pick [0] ?_
  exact wX11_init_b67 X hG hnm hM hN (by have o0 := hu; (try simp only [hX_sI, hX_sR, hX_sL, hX_sD, hX_sIa, hX_sRa, hV_sI, hV_sR, hV_sL, hV_sD, hV_sIa, hV_sRa, hX_new, hV_new] at o0 ⊢); omega) (by have o0 := hv; (try simp only [hX_sI, hX_sR, hX_sL, hX_sD, hX_sIa, hX_sRa, hV_sI, hV_sR, hV_sL, hV_sD, hV_sIa, hV_sRa, hX_new, hV_new] at o0 ⊢); omega) hf 
noncomputable def fX11_init_b54 (v0 : Nat) (t0 : Nat) (t1 : Nat) (h : PH) : Option PH :=
  bd (fX5_init t1 h) (fun z14 =>
  fX11_init_b58 v0 t0 t1 z14)
set_option maxRecDepth 100000 in
theorem mX11_init_b54 {v0 : Nat} {t0 : Nat} {t1 : Nat} {h : PH} {r : PH} (hf : fX11_init_b54 v0 t0 t1 h = some r) : lez h (hX r) (hV r) := by
  unfold fX11_init_b54 at hf
  have hle := lez_rf h
  obtain ⟨z14, hz14, hf⟩ := bd_some hf
  have hle := lez_rt (mX5_init hz14) hle
  exact lez_rt (mX11_init_b58 hf) hle
set_option maxRecDepth 100000 in
theorem wX11_init_b54 {E : PE} {p : Program} {l : Launch} {e : Env} {s : State} {m : MethodId} {args : Array Value} {below : List Frame} {meth : Method} {c : Code} {X0 V0 MC MS uc us : Nat} (X : Cx E p l e (rmv 5 MC MS) s m args below meth c RX11 cX11_init 2 (none)) (hG : Gs E l) (hnm : meth.name = yX11_init.name) {v0 : Nat} {t0 : Nat} {t1 : Nat} {h : PH} {r : PH} (hM : MC + X0 = (hX r)) (hN : MS + V0 = (hV r)) (hu : uc + X0 = hX h) (hv : us + V0 = hV h) (hf : fX11_init_b54 v0 t0 t1 h = some r)  : PW E p l e (rmv 5 MC MS) s m args below meth c 2 uc us (MQ below (QG E (fun v u => v = none ∧ u = r)) args s MC MS (pA E)) h 54 [(0, some (.ref v0))] [.ref t1, .ref t0] := by
  have hm1 : lez h (hX r) (hV r) := mX11_init_b54 hf
  have hcm : uc ≤ MC := (by have o0 := hm1.1; have o1 := hM; have o2 := hu; (try simp only [hX_sI, hX_sR, hX_sL, hX_sD, hX_sIa, hX_sRa, hV_sI, hV_sR, hV_sL, hV_sD, hV_sIa, hV_sRa, hX_new, hV_new] at o0 o1 o2 ⊢); omega)
  have hsm : us ≤ MS := (by have o0 := hm1.2; have o1 := hN; have o2 := hv; (try simp only [hX_sI, hX_sR, hX_sL, hX_sD, hX_sIa, hX_sRa, hV_sI, hV_sR, hV_sL, hV_sD, hV_sIa, hV_sRa, hX_new, hV_new] at o0 o1 o2 ⊢); omega)
  clear hm1
  unfold fX11_init_b54 at hf
  refine p_dup X (dcg dc_X11_init 25 rfl) rfl ?_
  obtain ⟨z14, hz14, hf⟩ := bd_some hf
  have hc1 := mX5_init hz14
  have hm1 : lez _ (hX r) (hV r) := mX11_init_b58 hf
  refine p_callIn (As := []) (ret1 := none) X ml_X11_40 (dcg dc_X11_init 26 rfl) rfl rfl  (wX5_init hG hz14) (by decide) (room4 (Nat.le_of_ble_eq_true rfl)) (by have o0 := hm1.1; have o1 := hc1.1; have o2 := hM; have o3 := hu; (try simp only [hX_sI, hX_sR, hX_sL, hX_sD, hX_sIa, hX_sRa, hV_sI, hV_sR, hV_sL, hV_sD, hV_sIa, hV_sRa, hX_new, hV_new] at o0 o1 o2 o3 ⊢); omega) (by have o0 := hm1.2; have o1 := hc1.2; have o2 := hN; have o3 := hv; (try simp only [hX_sI, hX_sR, hX_sL, hX_sD, hX_sIa, hX_sRa, hV_sI, hV_sR, hV_sL, hV_sD, hV_sIa, hV_sRa, hX_new, hV_new] at o0 o1 o2 o3 ⊢); omega) ?_
  rintro _ u9 ⟨rfl, e9⟩; have e9 := e9.symm; subst e9
  refine p_pick [0] ?_
  exact wX11_init_b58 X hG hnm hM hN (by have o0 := hc1.1; have o1 := hu; (try simp only [hX_sI, hX_sR, hX_sL, hX_sD, hX_sIa, hX_sRa, hV_sI, hV_sR, hV_sL, hV_sD, hV_sIa, hV_sRa, hX_new, hV_new] at o0 o1 ⊢); omega) (by have o0 := hc1.2; have o1 := hv; (try simp only [hX_sI, hX_sR, hX_sL, hX_sD, hX_sIa, hX_sRa, hV_sI, hV_sR, hV_sL, hV_sD, hV_sIa, hV_sRa, hX_new, hV_new] at o0 o1 ⊢); omega) hf 
noncomputable def fX11_init_b47 (v0 : Nat) (t0 : Nat) (t1 : Nat) (h : PH) : Option PH :=
  gd (hK h t0 = 11) (lt (sR h 11 t0 3 (some t1)) (fun h13 =>
  fX11_init_b54 v0 v0 (hX h13) (hnew h13 5 4)))
set_option maxRecDepth 100000 in
theorem mX11_init_b47 {v0 : Nat} {t0 : Nat} {t1 : Nat} {h : PH} {r : PH} (hf : fX11_init_b47 v0 t0 t1 h = some r) : lez h (hX r) (hV r) := by
  unfold fX11_init_b47 at hf
  have hle := lez_rf h
  obtain ⟨hk12, hf⟩ := gd_some hf
  obtain ⟨h13, rfl, hf⟩ := lt_some hf
  have hle := lez_nw (c := 5) (n := 4) hle
  exact lez_rt (mX11_init_b54 hf) hle
set_option maxRecDepth 100000 in
theorem wX11_init_b47 {E : PE} {p : Program} {l : Launch} {e : Env} {s : State} {m : MethodId} {args : Array Value} {below : List Frame} {meth : Method} {c : Code} {X0 V0 MC MS uc us : Nat} (X : Cx E p l e (rmv 5 MC MS) s m args below meth c RX11 cX11_init 2 (none)) (hG : Gs E l) (hnm : meth.name = yX11_init.name) {v0 : Nat} {t0 : Nat} {t1 : Nat} {h : PH} {r : PH} (hM : MC + X0 = (hX r)) (hN : MS + V0 = (hV r)) (hu : uc + X0 = hX h) (hv : us + V0 = hV h) (hf : fX11_init_b47 v0 t0 t1 h = some r)  : PW E p l e (rmv 5 MC MS) s m args below meth c 2 uc us (MQ below (QG E (fun v u => v = none ∧ u = r)) args s MC MS (pA E)) h 47 [(0, some (.ref v0))] [.ref t1, .ref t0] := by
  have hm1 : lez h (hX r) (hV r) := mX11_init_b47 hf
  have hcm : uc ≤ MC := (by have o0 := hm1.1; have o1 := hM; have o2 := hu; (try simp only [hX_sI, hX_sR, hX_sL, hX_sD, hX_sIa, hX_sRa, hV_sI, hV_sR, hV_sL, hV_sD, hV_sIa, hV_sRa, hX_new, hV_new] at o0 o1 o2 ⊢); omega)
  have hsm : us ≤ MS := (by have o0 := hm1.2; have o1 := hN; have o2 := hv; (try simp only [hX_sI, hX_sR, hX_sL, hX_sD, hX_sIa, hX_sRa, hV_sI, hV_sR, hV_sL, hV_sD, hV_sIa, hV_sRa, hX_new, hV_new] at o0 o1 o2 ⊢); omega)
  clear hm1
  unfold fX11_init_b47 at hf
  obtain ⟨hk12, hf⟩ := gd_some hf
  refine p_putRf (v := some _) X fl_X11_34 rfl (by decide) (fun q hq => by cases hq; exact ⟨rfl, rfl⟩) hnm (nar_rf _ (by decide)) (fit_rf _ (by decide)) (dcg dc_X11_init 22 rfl) hk12 ?_
  obtain ⟨h13, rfl, hf⟩ := lt_some hf
  refine p_aload_n X (dcg dc_X11_init 23 rfl) rfl rfl ?_
  have hm1 : lez _ (hX r) (hV r) := mX11_init_b54 hf
  have hm2 := lez_new hm1
  refine p_newN (ci := 5) (q := (RX5, TX5, 4)) (n := 4) X rfl rfl (by decide) tw_241 tw_242 tw_107 (dcg dc_X11_init 24 rfl) (show uc + 1 ≤ MC from (by have o0 := hm2.1; have o1 := hM; have o2 := hu; (try simp only [hX_sI, hX_sR, hX_sL, hX_sD, hX_sIa, hX_sRa, hV_sI, hV_sR, hV_sL, hV_sD, hV_sIa, hV_sRa, hX_new, hV_new] at o0 o1 o2 ⊢); omega)) (show us + 4 ≤ MS from (by have o0 := hm2.2; have o1 := hN; have o2 := hv; (try simp only [hX_sI, hX_sR, hX_sL, hX_sD, hX_sIa, hX_sRa, hV_sI, hV_sR, hV_sL, hV_sD, hV_sIa, hV_sRa, hX_new, hV_new] at o0 o1 o2 ⊢); omega)) ?_
  refine p_pick [0] ?_
  exact wX11_init_b54 X hG hnm hM hN (by have o0 := hu; (try simp only [hX_sI, hX_sR, hX_sL, hX_sD, hX_sIa, hX_sRa, hV_sI, hV_sR, hV_sL, hV_sD, hV_sIa, hV_sRa, hX_new, hV_new] at o0 ⊢); omega) (by have o0 := hv; (try simp only [hX_sI, hX_sR, hX_sL, hX_sD, hX_sIa, hX_sRa, hV_sI, hV_sR, hV_sL, hV_sD, hV_sIa, hV_sRa, hX_new, hV_new] at o0 ⊢); omega) hf 
noncomputable def fX11_init_b43 (v0 : Nat) (t0 : Nat) (t1 : Nat) (h : PH) : Option PH :=
  bd (fX3_init t1 h) (fun z11 =>
  fX11_init_b47 v0 t0 t1 z11)
set_option maxRecDepth 100000 in
theorem mX11_init_b43 {v0 : Nat} {t0 : Nat} {t1 : Nat} {h : PH} {r : PH} (hf : fX11_init_b43 v0 t0 t1 h = some r) : lez h (hX r) (hV r) := by
  unfold fX11_init_b43 at hf
  have hle := lez_rf h
  obtain ⟨z11, hz11, hf⟩ := bd_some hf
  have hle := lez_rt (mX3_init hz11) hle
  exact lez_rt (mX11_init_b47 hf) hle
set_option maxRecDepth 100000 in
theorem wX11_init_b43 {E : PE} {p : Program} {l : Launch} {e : Env} {s : State} {m : MethodId} {args : Array Value} {below : List Frame} {meth : Method} {c : Code} {X0 V0 MC MS uc us : Nat} (X : Cx E p l e (rmv 5 MC MS) s m args below meth c RX11 cX11_init 2 (none)) (hG : Gs E l) (hnm : meth.name = yX11_init.name) {v0 : Nat} {t0 : Nat} {t1 : Nat} {h : PH} {r : PH} (hM : MC + X0 = (hX r)) (hN : MS + V0 = (hV r)) (hu : uc + X0 = hX h) (hv : us + V0 = hV h) (hf : fX11_init_b43 v0 t0 t1 h = some r)  : PW E p l e (rmv 5 MC MS) s m args below meth c 2 uc us (MQ below (QG E (fun v u => v = none ∧ u = r)) args s MC MS (pA E)) h 43 [(0, some (.ref v0))] [.ref t1, .ref t0] := by
  have hm1 : lez h (hX r) (hV r) := mX11_init_b43 hf
  have hcm : uc ≤ MC := (by have o0 := hm1.1; have o1 := hM; have o2 := hu; (try simp only [hX_sI, hX_sR, hX_sL, hX_sD, hX_sIa, hX_sRa, hV_sI, hV_sR, hV_sL, hV_sD, hV_sIa, hV_sRa, hX_new, hV_new] at o0 o1 o2 ⊢); omega)
  have hsm : us ≤ MS := (by have o0 := hm1.2; have o1 := hN; have o2 := hv; (try simp only [hX_sI, hX_sR, hX_sL, hX_sD, hX_sIa, hX_sRa, hV_sI, hV_sR, hV_sL, hV_sD, hV_sIa, hV_sRa, hX_new, hV_new] at o0 o1 o2 ⊢); omega)
  clear hm1
  unfold fX11_init_b43 at hf
  refine p_dup X (dcg dc_X11_init 20 rfl) rfl ?_
  obtain ⟨z11, hz11, hf⟩ := bd_some hf
  have hc1 := mX3_init hz11
  have hm1 : lez _ (hX r) (hV r) := mX11_init_b47 hf
  refine p_callIn (As := []) (ret1 := none) X ml_X11_33 (dcg dc_X11_init 21 rfl) rfl rfl  (wX3_init hG hz11) (by decide) (room4 (Nat.le_of_ble_eq_true rfl)) (by have o0 := hm1.1; have o1 := hc1.1; have o2 := hM; have o3 := hu; (try simp only [hX_sI, hX_sR, hX_sL, hX_sD, hX_sIa, hX_sRa, hV_sI, hV_sR, hV_sL, hV_sD, hV_sIa, hV_sRa, hX_new, hV_new] at o0 o1 o2 o3 ⊢); omega) (by have o0 := hm1.2; have o1 := hc1.2; have o2 := hN; have o3 := hv; (try simp only [hX_sI, hX_sR, hX_sL, hX_sD, hX_sIa, hX_sRa, hV_sI, hV_sR, hV_sL, hV_sD, hV_sIa, hV_sRa, hX_new, hV_new] at o0 o1 o2 o3 ⊢); omega) ?_
  rintro _ u9 ⟨rfl, e9⟩; have e9 := e9.symm; subst e9
  refine p_pick [0] ?_
  exact wX11_init_b47 X hG hnm hM hN (by have o0 := hc1.1; have o1 := hu; (try simp only [hX_sI, hX_sR, hX_sL, hX_sD, hX_sIa, hX_sRa, hV_sI, hV_sR, hV_sL, hV_sD, hV_sIa, hV_sRa, hX_new, hV_new] at o0 o1 ⊢); omega) (by have o0 := hc1.2; have o1 := hv; (try simp only [hX_sI, hX_sR, hX_sL, hX_sD, hX_sIa, hX_sRa, hV_sI, hV_sR, hV_sL, hV_sD, hV_sIa, hV_sRa, hX_new, hV_new] at o0 o1 ⊢); omega) hf 
noncomputable def fX11_init_b36 (v0 : Nat) (t0 : Nat) (t1 : Nat) (h : PH) : Option PH :=
  gd (hK h t0 = 11) (lt (sR h 11 t0 2 (some t1)) (fun h10 =>
  fX11_init_b43 v0 v0 (hX h10) (hnew h10 3 2)))
set_option maxRecDepth 100000 in
theorem mX11_init_b36 {v0 : Nat} {t0 : Nat} {t1 : Nat} {h : PH} {r : PH} (hf : fX11_init_b36 v0 t0 t1 h = some r) : lez h (hX r) (hV r) := by
  unfold fX11_init_b36 at hf
  have hle := lez_rf h
  obtain ⟨hk9, hf⟩ := gd_some hf
  obtain ⟨h10, rfl, hf⟩ := lt_some hf
  have hle := lez_nw (c := 3) (n := 2) hle
  exact lez_rt (mX11_init_b43 hf) hle
set_option maxRecDepth 100000 in
theorem wX11_init_b36 {E : PE} {p : Program} {l : Launch} {e : Env} {s : State} {m : MethodId} {args : Array Value} {below : List Frame} {meth : Method} {c : Code} {X0 V0 MC MS uc us : Nat} (X : Cx E p l e (rmv 5 MC MS) s m args below meth c RX11 cX11_init 2 (none)) (hG : Gs E l) (hnm : meth.name = yX11_init.name) {v0 : Nat} {t0 : Nat} {t1 : Nat} {h : PH} {r : PH} (hM : MC + X0 = (hX r)) (hN : MS + V0 = (hV r)) (hu : uc + X0 = hX h) (hv : us + V0 = hV h) (hf : fX11_init_b36 v0 t0 t1 h = some r)  : PW E p l e (rmv 5 MC MS) s m args below meth c 2 uc us (MQ below (QG E (fun v u => v = none ∧ u = r)) args s MC MS (pA E)) h 36 [(0, some (.ref v0))] [.ref t1, .ref t0] := by
  have hm1 : lez h (hX r) (hV r) := mX11_init_b36 hf
  have hcm : uc ≤ MC := (by have o0 := hm1.1; have o1 := hM; have o2 := hu; (try simp only [hX_sI, hX_sR, hX_sL, hX_sD, hX_sIa, hX_sRa, hV_sI, hV_sR, hV_sL, hV_sD, hV_sIa, hV_sRa, hX_new, hV_new] at o0 o1 o2 ⊢); omega)
  have hsm : us ≤ MS := (by have o0 := hm1.2; have o1 := hN; have o2 := hv; (try simp only [hX_sI, hX_sR, hX_sL, hX_sD, hX_sIa, hX_sRa, hV_sI, hV_sR, hV_sL, hV_sD, hV_sIa, hV_sRa, hX_new, hV_new] at o0 o1 o2 ⊢); omega)
  clear hm1
  unfold fX11_init_b36 at hf
  obtain ⟨hk9, hf⟩ := gd_some hf
  refine p_putRf (v := some _) X fl_X11_27 rfl (by decide) (fun q hq => by cases hq; exact ⟨rfl, rfl⟩) hnm (nar_rf _ (by decide)) (fit_rf _ (by decide)) (dcg dc_X11_init 17 rfl) hk9 ?_
  obtain ⟨h10, rfl, hf⟩ := lt_some hf
  refine p_aload_n X (dcg dc_X11_init 18 rfl) rfl rfl ?_
  have hm1 : lez _ (hX r) (hV r) := mX11_init_b43 hf
  have hm2 := lez_new hm1
  refine p_newN (ci := 3) (q := (RX3, TX3, 2)) (n := 2) X rfl rfl (by decide) tw_202 tw_203 tw_103 (dcg dc_X11_init 19 rfl) (show uc + 1 ≤ MC from (by have o0 := hm2.1; have o1 := hM; have o2 := hu; (try simp only [hX_sI, hX_sR, hX_sL, hX_sD, hX_sIa, hX_sRa, hV_sI, hV_sR, hV_sL, hV_sD, hV_sIa, hV_sRa, hX_new, hV_new] at o0 o1 o2 ⊢); omega)) (show us + 2 ≤ MS from (by have o0 := hm2.2; have o1 := hN; have o2 := hv; (try simp only [hX_sI, hX_sR, hX_sL, hX_sD, hX_sIa, hX_sRa, hV_sI, hV_sR, hV_sL, hV_sD, hV_sIa, hV_sRa, hX_new, hV_new] at o0 o1 o2 ⊢); omega)) ?_
  refine p_pick [0] ?_
  exact wX11_init_b43 X hG hnm hM hN (by have o0 := hu; (try simp only [hX_sI, hX_sR, hX_sL, hX_sD, hX_sIa, hX_sRa, hV_sI, hV_sR, hV_sL, hV_sD, hV_sIa, hV_sRa, hX_new, hV_new] at o0 ⊢); omega) (by have o0 := hv; (try simp only [hX_sI, hX_sR, hX_sL, hX_sD, hX_sIa, hX_sRa, hV_sI, hV_sR, hV_sL, hV_sD, hV_sIa, hV_sRa, hX_new, hV_new] at o0 ⊢); omega) hf 
noncomputable def fX11_init_b27 (v0 : Nat) (t0 : Nat) (t1 : Nat) (h : PH) : Option PH :=
  gd (hK h t0 = 11) (lt (sR h 11 t0 1 (some t1)) (fun h7 =>
  gd (¬ (100 : Int32) < 0 ∧ (Int32.toNatClampNeg (100 : Int32)) ≤ 1000000) (fX11_init_b36 v0 v0 (hX h7) (hnew h7 26 (Int32.toNatClampNeg (100 : Int32))))))
set_option maxRecDepth 100000 in
theorem mX11_init_b27 {v0 : Nat} {t0 : Nat} {t1 : Nat} {h : PH} {r : PH} (hf : fX11_init_b27 v0 t0 t1 h = some r) : lez h (hX r) (hV r) := by
  unfold fX11_init_b27 at hf
  have hle := lez_rf h
  obtain ⟨hk6, hf⟩ := gd_some hf
  obtain ⟨h7, rfl, hf⟩ := lt_some hf
  obtain ⟨hg8, hf⟩ := gd_some hf
  have hle := lez_nw (c := 26) (n := (Int32.toNatClampNeg (100 : Int32))) hle
  exact lez_rt (mX11_init_b36 hf) hle
set_option maxRecDepth 100000 in
theorem wX11_init_b27 {E : PE} {p : Program} {l : Launch} {e : Env} {s : State} {m : MethodId} {args : Array Value} {below : List Frame} {meth : Method} {c : Code} {X0 V0 MC MS uc us : Nat} (X : Cx E p l e (rmv 5 MC MS) s m args below meth c RX11 cX11_init 2 (none)) (hG : Gs E l) (hnm : meth.name = yX11_init.name) {v0 : Nat} {t0 : Nat} {t1 : Nat} {h : PH} {r : PH} (hM : MC + X0 = (hX r)) (hN : MS + V0 = (hV r)) (hu : uc + X0 = hX h) (hv : us + V0 = hV h) (hf : fX11_init_b27 v0 t0 t1 h = some r)  : PW E p l e (rmv 5 MC MS) s m args below meth c 2 uc us (MQ below (QG E (fun v u => v = none ∧ u = r)) args s MC MS (pA E)) h 27 [(0, some (.ref v0))] [.ref t1, .ref t0] := by
  have hm1 : lez h (hX r) (hV r) := mX11_init_b27 hf
  have hcm : uc ≤ MC := (by have o0 := hm1.1; have o1 := hM; have o2 := hu; (try simp only [hX_sI, hX_sR, hX_sL, hX_sD, hX_sIa, hX_sRa, hV_sI, hV_sR, hV_sL, hV_sD, hV_sIa, hV_sRa, hX_new, hV_new] at o0 o1 o2 ⊢); omega)
  have hsm : us ≤ MS := (by have o0 := hm1.2; have o1 := hN; have o2 := hv; (try simp only [hX_sI, hX_sR, hX_sL, hX_sD, hX_sIa, hX_sRa, hV_sI, hV_sR, hV_sL, hV_sD, hV_sIa, hV_sRa, hX_new, hV_new] at o0 o1 o2 ⊢); omega)
  clear hm1
  unfold fX11_init_b27 at hf
  obtain ⟨hk6, hf⟩ := gd_some hf
  refine p_putRf (v := some _) X fl_X11_21 rfl (by decide) (fun q hq => by cases hq; exact ⟨rfl, rfl⟩) hnm (nar_rf _ (by decide)) (fit_rf _ (by decide)) (dcg dc_X11_init 13 rfl) hk6 ?_
  obtain ⟨h7, rfl, hf⟩ := lt_some hf
  refine p_aload_n X (dcg dc_X11_init 14 rfl) rfl rfl ?_
  refine p_bipush (v := 100) X (dcg dc_X11_init 15 rfl) (by decide) ?_
  obtain ⟨hg8, hf⟩ := gd_some hf
  have hm1 : lez _ (hX r) (hV r) := mX11_init_b36 hf
  have hm2 := lez_new hm1
  refine p_newq26 X tw_200 tl_201 (dcg dc_X11_init 16 rfl) hg8.1 hg8.2 (show uc + 1 ≤ MC from (by have o0 := hm2.1; have o1 := hM; have o2 := hu; (try simp only [hX_sI, hX_sR, hX_sL, hX_sD, hX_sIa, hX_sRa, hV_sI, hV_sR, hV_sL, hV_sD, hV_sIa, hV_sRa, hX_new, hV_new] at o0 o1 o2 ⊢); omega)) (show us + (Int32.toNatClampNeg (100 : Int32)) ≤ MS from (by have o0 := hm2.2; have o1 := hN; have o2 := hv; (try simp only [hX_sI, hX_sR, hX_sL, hX_sD, hX_sIa, hX_sRa, hV_sI, hV_sR, hV_sL, hV_sD, hV_sIa, hV_sRa, hX_new, hV_new] at o0 o1 o2 ⊢); omega)) ?_
  refine p_pick [0] ?_
  exact wX11_init_b36 X hG hnm hM hN (by have o0 := hu; (try simp only [hX_sI, hX_sR, hX_sL, hX_sD, hX_sIa, hX_sRa, hV_sI, hV_sR, hV_sL, hV_sD, hV_sIa, hV_sRa, hX_new, hV_new] at o0 ⊢); omega) (by have o0 := hv; (try simp only [hX_sI, hX_sR, hX_sL, hX_sD, hX_sIa, hX_sRa, hV_sI, hV_sR, hV_sL, hV_sD, hV_sIa, hV_sRa, hX_new, hV_new] at o0 ⊢); omega) hf 
noncomputable def fX11_init_b19 (v0 : Nat) (t0 : Nat) (t1 : Nat) (h : PH) : Option PH :=
  gd (hK h v0 = 11) (bd (fX6_init t1 (hR h 11 v0 0) h) (fun z5 =>
  fX11_init_b27 v0 t0 t1 z5))
set_option maxRecDepth 100000 in
theorem mX11_init_b19 {v0 : Nat} {t0 : Nat} {t1 : Nat} {h : PH} {r : PH} (hf : fX11_init_b19 v0 t0 t1 h = some r) : lez h (hX r) (hV r) := by
  unfold fX11_init_b19 at hf
  have hle := lez_rf h
  obtain ⟨hk4, hf⟩ := gd_some hf
  obtain ⟨z5, hz5, hf⟩ := bd_some hf
  have hle := lez_rt (mX6_init hz5) hle
  exact lez_rt (mX11_init_b27 hf) hle
set_option maxRecDepth 100000 in
theorem wX11_init_b19 {E : PE} {p : Program} {l : Launch} {e : Env} {s : State} {m : MethodId} {args : Array Value} {below : List Frame} {meth : Method} {c : Code} {X0 V0 MC MS uc us : Nat} (X : Cx E p l e (rmv 5 MC MS) s m args below meth c RX11 cX11_init 2 (none)) (hG : Gs E l) (hnm : meth.name = yX11_init.name) {v0 : Nat} {t0 : Nat} {t1 : Nat} {h : PH} {r : PH} (hM : MC + X0 = (hX r)) (hN : MS + V0 = (hV r)) (hu : uc + X0 = hX h) (hv : us + V0 = hV h) (hf : fX11_init_b19 v0 t0 t1 h = some r)  : PW E p l e (rmv 5 MC MS) s m args below meth c 2 uc us (MQ below (QG E (fun v u => v = none ∧ u = r)) args s MC MS (pA E)) h 19 [(0, some (.ref v0))] [.ref t1, .ref t0] := by
  have hm1 : lez h (hX r) (hV r) := mX11_init_b19 hf
  have hcm : uc ≤ MC := (by have o0 := hm1.1; have o1 := hM; have o2 := hu; (try simp only [hX_sI, hX_sR, hX_sL, hX_sD, hX_sIa, hX_sRa, hV_sI, hV_sR, hV_sL, hV_sD, hV_sIa, hV_sRa, hX_new, hV_new] at o0 o1 o2 ⊢); omega)
  have hsm : us ≤ MS := (by have o0 := hm1.2; have o1 := hN; have o2 := hv; (try simp only [hX_sI, hX_sR, hX_sL, hX_sD, hX_sIa, hX_sRa, hV_sI, hV_sR, hV_sL, hV_sD, hV_sIa, hV_sRa, hX_new, hV_new] at o0 o1 o2 ⊢); omega)
  clear hm1
  unfold fX11_init_b19 at hf
  refine p_dup X (dcg dc_X11_init 9 rfl) rfl ?_
  refine p_aload_n X (dcg dc_X11_init 10 rfl) rfl rfl ?_
  obtain ⟨hk4, hf⟩ := gd_some hf
  refine p_getR X fl_X11_10 rfl (by decide) (dcg dc_X11_init 11 rfl) hk4 ?_
  obtain ⟨z5, hz5, hf⟩ := bd_some hf
  have hc1 := mX6_init hz5
  have hm1 : lez _ (hX r) (hV r) := mX11_init_b27 hf
  refine p_callI (As := [va_rf _]) (ret1 := none) X ml_X11_18 (dcg dc_X11_init 12 rfl) rfl rfl  (wX6_init hG hz5) (by decide) (room4 (Nat.le_of_ble_eq_true rfl)) (by have o0 := hm1.1; have o1 := hc1.1; have o2 := hM; have o3 := hu; (try simp only [hX_sI, hX_sR, hX_sL, hX_sD, hX_sIa, hX_sRa, hV_sI, hV_sR, hV_sL, hV_sD, hV_sIa, hV_sRa, hX_new, hV_new] at o0 o1 o2 o3 ⊢); omega) (by have o0 := hm1.2; have o1 := hc1.2; have o2 := hN; have o3 := hv; (try simp only [hX_sI, hX_sR, hX_sL, hX_sD, hX_sIa, hX_sRa, hV_sI, hV_sR, hV_sL, hV_sD, hV_sIa, hV_sRa, hX_new, hV_new] at o0 o1 o2 o3 ⊢); omega) ?_
  rintro _ u9 ⟨rfl, e9⟩; have e9 := e9.symm; subst e9
  refine p_pick [0] ?_
  exact wX11_init_b27 X hG hnm hM hN (by have o0 := hc1.1; have o1 := hu; (try simp only [hX_sI, hX_sR, hX_sL, hX_sD, hX_sIa, hX_sRa, hV_sI, hV_sR, hV_sL, hV_sD, hV_sIa, hV_sRa, hX_new, hV_new] at o0 o1 ⊢); omega) (by have o0 := hc1.2; have o1 := hv; (try simp only [hX_sI, hX_sR, hX_sL, hX_sD, hX_sIa, hX_sRa, hV_sI, hV_sR, hV_sL, hV_sD, hV_sIa, hV_sRa, hX_new, hV_new] at o0 o1 ⊢); omega) hf 
noncomputable def fX11_init_b12 (v0 : Nat) (t0 : Nat) (t1 : Nat) (h : PH) : Option PH :=
  gd (hK h t0 = 11) (lt (sR h 11 t0 0 (some t1)) (fun h3 =>
  fX11_init_b19 v0 v0 (hX h3) (hnew h3 6 8)))
set_option maxRecDepth 100000 in
theorem mX11_init_b12 {v0 : Nat} {t0 : Nat} {t1 : Nat} {h : PH} {r : PH} (hf : fX11_init_b12 v0 t0 t1 h = some r) : lez h (hX r) (hV r) := by
  unfold fX11_init_b12 at hf
  have hle := lez_rf h
  obtain ⟨hk2, hf⟩ := gd_some hf
  obtain ⟨h3, rfl, hf⟩ := lt_some hf
  have hle := lez_nw (c := 6) (n := 8) hle
  exact lez_rt (mX11_init_b19 hf) hle
set_option maxRecDepth 100000 in
theorem wX11_init_b12 {E : PE} {p : Program} {l : Launch} {e : Env} {s : State} {m : MethodId} {args : Array Value} {below : List Frame} {meth : Method} {c : Code} {X0 V0 MC MS uc us : Nat} (X : Cx E p l e (rmv 5 MC MS) s m args below meth c RX11 cX11_init 2 (none)) (hG : Gs E l) (hnm : meth.name = yX11_init.name) {v0 : Nat} {t0 : Nat} {t1 : Nat} {h : PH} {r : PH} (hM : MC + X0 = (hX r)) (hN : MS + V0 = (hV r)) (hu : uc + X0 = hX h) (hv : us + V0 = hV h) (hf : fX11_init_b12 v0 t0 t1 h = some r)  : PW E p l e (rmv 5 MC MS) s m args below meth c 2 uc us (MQ below (QG E (fun v u => v = none ∧ u = r)) args s MC MS (pA E)) h 12 [(0, some (.ref v0))] [.ref t1, .ref t0] := by
  have hm1 : lez h (hX r) (hV r) := mX11_init_b12 hf
  have hcm : uc ≤ MC := (by have o0 := hm1.1; have o1 := hM; have o2 := hu; (try simp only [hX_sI, hX_sR, hX_sL, hX_sD, hX_sIa, hX_sRa, hV_sI, hV_sR, hV_sL, hV_sD, hV_sIa, hV_sRa, hX_new, hV_new] at o0 o1 o2 ⊢); omega)
  have hsm : us ≤ MS := (by have o0 := hm1.2; have o1 := hN; have o2 := hv; (try simp only [hX_sI, hX_sR, hX_sL, hX_sD, hX_sIa, hX_sRa, hV_sI, hV_sR, hV_sL, hV_sD, hV_sIa, hV_sRa, hX_new, hV_new] at o0 o1 o2 ⊢); omega)
  clear hm1
  unfold fX11_init_b12 at hf
  obtain ⟨hk2, hf⟩ := gd_some hf
  refine p_putRf (v := some _) X fl_X11_10 rfl (by decide) (fun q hq => by cases hq; exact ⟨rfl, rfl⟩) hnm (nar_rf _ (by decide)) (fit_rf _ (by decide)) (dcg dc_X11_init 6 rfl) hk2 ?_
  obtain ⟨h3, rfl, hf⟩ := lt_some hf
  refine p_aload_n X (dcg dc_X11_init 7 rfl) rfl rfl ?_
  have hm1 : lez _ (hX r) (hV r) := mX11_init_b19 hf
  have hm2 := lez_new hm1
  refine p_newN (ci := 6) (q := (RX6, TX6, 8)) (n := 8) X rfl rfl (by decide) tw_169 tw_170 tw_102 (dcg dc_X11_init 8 rfl) (show uc + 1 ≤ MC from (by have o0 := hm2.1; have o1 := hM; have o2 := hu; (try simp only [hX_sI, hX_sR, hX_sL, hX_sD, hX_sIa, hX_sRa, hV_sI, hV_sR, hV_sL, hV_sD, hV_sIa, hV_sRa, hX_new, hV_new] at o0 o1 o2 ⊢); omega)) (show us + 8 ≤ MS from (by have o0 := hm2.2; have o1 := hN; have o2 := hv; (try simp only [hX_sI, hX_sR, hX_sL, hX_sD, hX_sIa, hX_sRa, hV_sI, hV_sR, hV_sL, hV_sD, hV_sIa, hV_sRa, hX_new, hV_new] at o0 o1 o2 ⊢); omega)) ?_
  refine p_pick [0] ?_
  exact wX11_init_b19 X hG hnm hM hN (by have o0 := hu; (try simp only [hX_sI, hX_sR, hX_sL, hX_sD, hX_sIa, hX_sRa, hV_sI, hV_sR, hV_sL, hV_sD, hV_sIa, hV_sRa, hX_new, hV_new] at o0 ⊢); omega) (by have o0 := hv; (try simp only [hX_sI, hX_sR, hX_sL, hX_sD, hX_sIa, hX_sRa, hV_sI, hV_sR, hV_sL, hV_sD, hV_sIa, hV_sRa, hX_new, hV_new] at o0 ⊢); omega) hf 
noncomputable def fX11_init_b8 (v0 : Nat) (t0 : Nat) (t1 : Nat) (h : PH) : Option PH :=
  bd (fX7_init t1 h) (fun z1 =>
  fX11_init_b12 v0 t0 t1 z1)
set_option maxRecDepth 100000 in
theorem mX11_init_b8 {v0 : Nat} {t0 : Nat} {t1 : Nat} {h : PH} {r : PH} (hf : fX11_init_b8 v0 t0 t1 h = some r) : lez h (hX r) (hV r) := by
  unfold fX11_init_b8 at hf
  have hle := lez_rf h
  obtain ⟨z1, hz1, hf⟩ := bd_some hf
  have hle := lez_rt (mX7_init hz1) hle
  exact lez_rt (mX11_init_b12 hf) hle
set_option maxRecDepth 100000 in
theorem wX11_init_b8 {E : PE} {p : Program} {l : Launch} {e : Env} {s : State} {m : MethodId} {args : Array Value} {below : List Frame} {meth : Method} {c : Code} {X0 V0 MC MS uc us : Nat} (X : Cx E p l e (rmv 5 MC MS) s m args below meth c RX11 cX11_init 2 (none)) (hG : Gs E l) (hnm : meth.name = yX11_init.name) {v0 : Nat} {t0 : Nat} {t1 : Nat} {h : PH} {r : PH} (hM : MC + X0 = (hX r)) (hN : MS + V0 = (hV r)) (hu : uc + X0 = hX h) (hv : us + V0 = hV h) (hf : fX11_init_b8 v0 t0 t1 h = some r)  : PW E p l e (rmv 5 MC MS) s m args below meth c 2 uc us (MQ below (QG E (fun v u => v = none ∧ u = r)) args s MC MS (pA E)) h 8 [(0, some (.ref v0))] [.ref t1, .ref t0] := by
  have hm1 : lez h (hX r) (hV r) := mX11_init_b8 hf
  have hcm : uc ≤ MC := (by have o0 := hm1.1; have o1 := hM; have o2 := hu; (try simp only [hX_sI, hX_sR, hX_sL, hX_sD, hX_sIa, hX_sRa, hV_sI, hV_sR, hV_sL, hV_sD, hV_sIa, hV_sRa, hX_new, hV_new] at o0 o1 o2 ⊢); omega)
  have hsm : us ≤ MS := (by have o0 := hm1.2; have o1 := hN; have o2 := hv; (try simp only [hX_sI, hX_sR, hX_sL, hX_sD, hX_sIa, hX_sRa, hV_sI, hV_sR, hV_sL, hV_sD, hV_sIa, hV_sRa, hX_new, hV_new] at o0 o1 o2 ⊢); omega)
  clear hm1
  unfold fX11_init_b8 at hf
  refine p_dup X (dcg dc_X11_init 4 rfl) rfl ?_
  obtain ⟨z1, hz1, hf⟩ := bd_some hf
  have hc1 := mX7_init hz1
  have hm1 : lez _ (hX r) (hV r) := mX11_init_b12 hf
  refine p_callIn (As := []) (ret1 := none) X ml_X11_9 (dcg dc_X11_init 5 rfl) rfl rfl  (wX7_init hG hz1) (by decide) (room4 (Nat.le_of_ble_eq_true rfl)) (by have o0 := hm1.1; have o1 := hc1.1; have o2 := hM; have o3 := hu; (try simp only [hX_sI, hX_sR, hX_sL, hX_sD, hX_sIa, hX_sRa, hV_sI, hV_sR, hV_sL, hV_sD, hV_sIa, hV_sRa, hX_new, hV_new] at o0 o1 o2 o3 ⊢); omega) (by have o0 := hm1.2; have o1 := hc1.2; have o2 := hN; have o3 := hv; (try simp only [hX_sI, hX_sR, hX_sL, hX_sD, hX_sIa, hX_sRa, hV_sI, hV_sR, hV_sL, hV_sD, hV_sIa, hV_sRa, hX_new, hV_new] at o0 o1 o2 o3 ⊢); omega) ?_
  rintro _ u9 ⟨rfl, e9⟩; have e9 := e9.symm; subst e9
  refine p_pick [0] ?_
  exact wX11_init_b12 X hG hnm hM hN (by have o0 := hc1.1; have o1 := hu; (try simp only [hX_sI, hX_sR, hX_sL, hX_sD, hX_sIa, hX_sRa, hV_sI, hV_sR, hV_sL, hV_sD, hV_sIa, hV_sRa, hX_new, hV_new] at o0 o1 ⊢); omega) (by have o0 := hc1.2; have o1 := hv; (try simp only [hX_sI, hX_sR, hX_sL, hX_sD, hX_sIa, hX_sRa, hV_sI, hV_sR, hV_sL, hV_sD, hV_sIa, hV_sRa, hX_new, hV_new] at o0 o1 ⊢); omega) hf 
noncomputable def fX11_init_b0 (v0 : Nat) (h : PH) : Option PH :=
  fX11_init_b8 v0 v0 (hX h) (hnew h 7 3)
set_option maxRecDepth 100000 in
theorem mX11_init_b0 {v0 : Nat} {h : PH} {r : PH} (hf : fX11_init_b0 v0 h = some r) : lez h (hX r) (hV r) := by
  unfold fX11_init_b0 at hf
  have hle := lez_rf h
  have hle := lez_nw (c := 7) (n := 3) hle
  exact lez_rt (mX11_init_b8 hf) hle
set_option maxRecDepth 100000 in
theorem wX11_init_b0 {E : PE} {p : Program} {l : Launch} {e : Env} {s : State} {m : MethodId} {args : Array Value} {below : List Frame} {meth : Method} {c : Code} {X0 V0 MC MS uc us : Nat} (X : Cx E p l e (rmv 5 MC MS) s m args below meth c RX11 cX11_init 2 (none)) (hG : Gs E l) (hnm : meth.name = yX11_init.name) {v0 : Nat} {h : PH} {r : PH} (hM : MC + X0 = (hX r)) (hN : MS + V0 = (hV r)) (hu : uc + X0 = hX h) (hv : us + V0 = hV h) (hf : fX11_init_b0 v0 h = some r)  : PW E p l e (rmv 5 MC MS) s m args below meth c 2 uc us (MQ below (QG E (fun v u => v = none ∧ u = r)) args s MC MS (pA E)) h 0 [(0, some (.ref v0))] [] := by
  have hm1 : lez h (hX r) (hV r) := mX11_init_b0 hf
  have hcm : uc ≤ MC := (by have o0 := hm1.1; have o1 := hM; have o2 := hu; (try simp only [hX_sI, hX_sR, hX_sL, hX_sD, hX_sIa, hX_sRa, hV_sI, hV_sR, hV_sL, hV_sD, hV_sIa, hV_sRa, hX_new, hV_new] at o0 o1 o2 ⊢); omega)
  have hsm : us ≤ MS := (by have o0 := hm1.2; have o1 := hN; have o2 := hv; (try simp only [hX_sI, hX_sR, hX_sL, hX_sD, hX_sIa, hX_sRa, hV_sI, hV_sR, hV_sL, hV_sD, hV_sIa, hV_sRa, hX_new, hV_new] at o0 o1 o2 ⊢); omega)
  clear hm1
  unfold fX11_init_b0 at hf
  refine p_aload_n X (dcg dc_X11_init 0 rfl) rfl rfl ?_
  refine p_objinit X tw_145 tw_146 tw_147 (dcg dc_X11_init 1 rfl) (Nat.le_of_ble_eq_true rfl) (Nat.le_trans (Nat.add_le_add_right (room4 (Nat.le_of_ble_eq_true rfl)) 12) (Nat.le_of_ble_eq_true rfl)) (fun ls hl => hl.1.trans X.2.2.1.symm) ?_
  refine p_aload_n X (dcg dc_X11_init 2 rfl) rfl rfl ?_
  have hm1 : lez _ (hX r) (hV r) := mX11_init_b8 hf
  have hm2 := lez_new hm1
  refine p_newN (ci := 7) (q := (RX7, TX7, 3)) (n := 3) X rfl rfl (by decide) tw_148 tw_149 tw_101 (dcg dc_X11_init 3 rfl) (show uc + 1 ≤ MC from (by have o0 := hm2.1; have o1 := hM; have o2 := hu; (try simp only [hX_sI, hX_sR, hX_sL, hX_sD, hX_sIa, hX_sRa, hV_sI, hV_sR, hV_sL, hV_sD, hV_sIa, hV_sRa, hX_new, hV_new] at o0 o1 o2 ⊢); omega)) (show us + 3 ≤ MS from (by have o0 := hm2.2; have o1 := hN; have o2 := hv; (try simp only [hX_sI, hX_sR, hX_sL, hX_sD, hX_sIa, hX_sRa, hV_sI, hV_sR, hV_sL, hV_sD, hV_sIa, hV_sRa, hX_new, hV_new] at o0 o1 o2 ⊢); omega)) ?_
  refine p_pick [0] ?_
  exact wX11_init_b8 X hG hnm hM hN (by have o0 := hu; (try simp only [hX_sI, hX_sR, hX_sL, hX_sD, hX_sIa, hX_sRa, hV_sI, hV_sR, hV_sL, hV_sD, hV_sIa, hV_sRa, hX_new, hV_new] at o0 ⊢); omega) (by have o0 := hv; (try simp only [hX_sI, hX_sR, hX_sL, hX_sD, hX_sIa, hX_sRa, hV_sI, hV_sR, hV_sL, hV_sD, hV_sIa, hV_sRa, hX_new, hV_new] at o0 ⊢); omega) hf 
noncomputable def fX11_init (v0 : Nat) (h : PH) : Option PH :=
  fX11_init_b0 v0 h
set_option maxRecDepth 100000 in
theorem mX11_init {v0 : Nat} {h : PH} {r : PH} (hf : fX11_init v0 h = some r) : lez h (hX r) (hV r) := by
  unfold fX11_init at hf
  have hle := lez_rf h
  exact lez_rt (mX11_init_b0 hf) hle
set_option maxRecDepth 100000 in
theorem wX11_init {E : PE} {l : Launch} (hG : Gs E l) {v0 : Nat} {h : PH} {r : PH} (hf : fX11_init v0 h = some r) : Ct E l 5 ((hX r) - hX h) ((hV r) - hV h) yX11_init cX11_init 2 (none) [.ref v0] h (fun v u => v = none ∧ u = r) := by
  have hmm := mX11_init hf
  refine ct_of hG (by decide) (Nat.le_of_ble_eq_true rfl) ?_
  intro p e s m args below meth c X hnm
  show PW E p l e _ s m args below meth c _ 0 0 _ h 0 [(0, some (.ref v0))] []
  unfold fX11_init at hf
  have hM := Nat.sub_add_cancel hmm.1
  have hN := Nat.sub_add_cancel hmm.2
  refine p_pick [0] ?_
  exact wX11_init_b0 X hG hnm hM hN (Nat.zero_add _) (Nat.zero_add _) hf
theorem dc_X11_append : decs cX11_append [(0, .iload_n 1, 1), (1, .invokestatic 86, 3), (4, .iload_n 2, 1), (5, .invokestatic 86, 3), (8, .iadd, 1), (9, .iload_n 3, 1), (10, .invokestatic 86, 3), (13, .iadd, 1), (14, .iload 4, 2), (16, .invokestatic 86, 3), (19, .iadd, 1), (20, .iload 5, 2), (22, .invokestatic 86, 3), (25, .iadd, 1), (26, .istore 6, 2), (28, .aload_n 0, 1), (29, .getfield 10, 3), (32, .getfield 90, 3), (35, .iload 6, 2), (37, .iadd, 1), (38, .sipush 300, 3), (41, .if_icmp .le 11, 3), (44, .new 94, 3), (47, .dup, 1), (48, .invokespecial 96, 3), (51, .athrow, 1), (52, .aload_n 0, 1), (53, .getfield 10, 3), (56, .iload_n 1, 1), (57, .invokevirtual 97, 3), (60, .aload_n 0, 1), (61, .getfield 10, 3), (64, .iload_n 2, 1), (65, .invokevirtual 97, 3), (68, .aload_n 0, 1), (69, .getfield 10, 3), (72, .iload_n 3, 1), (73, .invokevirtual 97, 3), (76, .aload_n 0, 1), (77, .getfield 10, 3), (80, .iload 4, 2), (82, .invokevirtual 97, 3), (85, .aload_n 0, 1), (86, .getfield 10, 3), (89, .iload 5, 2), (91, .invokevirtual 97, 3), (94, .aload_n 0, 1), (95, .getfield 10, 3), (98, .getfield 90, 3), (101, .ireturn, 1)] = true := by decide +kernel
noncomputable def fX11_append_b0 (v0 : Nat) (v1 : Int32) (v2 : Int32) (v3 : Int32) (v4 : Int32) (v5 : Int32) (h : PH) : Option ((Int32 × PH) ⊕ (Nat × PH)) :=
  bd (fX7_bytesOf v1) (fun z1 =>
  bd (fX7_bytesOf v2) (fun z2 =>
  bd (fX7_bytesOf v3) (fun z3 =>
  bd (fX7_bytesOf v4) (fun z4 =>
  bd (fX7_bytesOf v5) (fun z5 =>
  gd (hK h v0 = 11) (gs (hR h 11 v0 0) (fun a7 =>
  gd (hK h a7 = 7) (if (((hI h 7 a7 1) + ((((z1 + z2) + z3) + z4) + z5)) ≤ (300 : Int32)) then (gs (hR h 11 v0 0) (fun a10 =>
  gd (hK h a10 = 7) (bd (fX7_addBytes a10 v1 h) (fun z13 =>
  gd (hK z13 v0 = 11) (gs (hR z13 11 v0 0) (fun a15 =>
  gd (hK z13 a15 = 7) (bd (fX7_addBytes a15 v2 z13) (fun z18 =>
  gd (hK z18 v0 = 11) (gs (hR z18 11 v0 0) (fun a20 =>
  gd (hK z18 a20 = 7) (bd (fX7_addBytes a20 v3 z18) (fun z23 =>
  gd (hK z23 v0 = 11) (gs (hR z23 11 v0 0) (fun a25 =>
  gd (hK z23 a25 = 7) (bd (fX7_addBytes a25 v4 z23) (fun z28 =>
  gd (hK z28 v0 = 11) (gs (hR z28 11 v0 0) (fun a30 =>
  gd (hK z28 a30 = 7) (bd (fX7_addBytes a30 v5 z28) (fun z33 =>
  gd (hK z33 v0 = 11) (gs (hR z33 11 v0 0) (fun a35 =>
  gd (hK z33 a35 = 7) (some (.inl (((hI z33 7 a35 1), z33)))))))))))))))))))))))))) else
  some (.inr (0, h))))))))))
set_option maxRecDepth 100000 in
theorem mX11_append_b0 {v0 : Nat} {v1 : Int32} {v2 : Int32} {v3 : Int32} {v4 : Int32} {v5 : Int32} {h : PH} {r : ((Int32 × PH) ⊕ (Nat × PH))} (hf : fX11_append_b0 v0 v1 v2 v3 v4 v5 h = some r) : lez h (xT2 r) (vT2 r) := by
  unfold fX11_append_b0 at hf
  have hle := lez_rf h
  obtain ⟨z1, hz1, hf⟩ := bd_some hf
  obtain ⟨z2, hz2, hf⟩ := bd_some hf
  obtain ⟨z3, hz3, hf⟩ := bd_some hf
  obtain ⟨z4, hz4, hf⟩ := bd_some hf
  obtain ⟨z5, hz5, hf⟩ := bd_some hf
  obtain ⟨hk6, hf⟩ := gd_some hf
  obtain ⟨a7, e8, hf⟩ := gs_some hf
  obtain ⟨hk9, hf⟩ := gd_some hf
  rcases ite_or hf with ⟨q, hf⟩ | ⟨q, hf⟩
  · have hf := if_t q hf
    obtain ⟨a10, e11, hf⟩ := gs_some hf
    obtain ⟨hk12, hf⟩ := gd_some hf
    obtain ⟨z13, hz13, hf⟩ := bd_some hf
    have hle := lez_rt (lez_eq (mX7_addBytes hz13)) hle
    obtain ⟨hk14, hf⟩ := gd_some hf
    obtain ⟨a15, e16, hf⟩ := gs_some hf
    obtain ⟨hk17, hf⟩ := gd_some hf
    obtain ⟨z18, hz18, hf⟩ := bd_some hf
    have hle := lez_rt (lez_eq (mX7_addBytes hz18)) hle
    obtain ⟨hk19, hf⟩ := gd_some hf
    obtain ⟨a20, e21, hf⟩ := gs_some hf
    obtain ⟨hk22, hf⟩ := gd_some hf
    obtain ⟨z23, hz23, hf⟩ := bd_some hf
    have hle := lez_rt (lez_eq (mX7_addBytes hz23)) hle
    obtain ⟨hk24, hf⟩ := gd_some hf
    obtain ⟨a25, e26, hf⟩ := gs_some hf
    obtain ⟨hk27, hf⟩ := gd_some hf
    obtain ⟨z28, hz28, hf⟩ := bd_some hf
    have hle := lez_rt (lez_eq (mX7_addBytes hz28)) hle
    obtain ⟨hk29, hf⟩ := gd_some hf
    obtain ⟨a30, e31, hf⟩ := gs_some hf
    obtain ⟨hk32, hf⟩ := gd_some hf
    obtain ⟨z33, hz33, hf⟩ := bd_some hf
    have hle := lez_rt (lez_eq (mX7_addBytes hz33)) hle
    obtain ⟨hk34, hf⟩ := gd_some hf
    obtain ⟨a35, e36, hf⟩ := gs_some hf
    obtain ⟨hk37, hf⟩ := gd_some hf
    have ee := Option.some.inj hf; subst ee; exact hle
  · have hf := if_f q hf
    cases hf; exact lez_up hle
set_option maxRecDepth 100000 in
theorem wX11_append_b0 {E : PE} {p : Program} {l : Launch} {e : Env} {s : State} {m : MethodId} {args : Array Value} {below : List Frame} {meth : Method} {c : Code} {X0 V0 MC MS uc us : Nat} (X : Cx E p l e (rmv 8 MC MS) s m args below meth c RX11 cX11_append 7 (some .int)) (hG : Gs E l) (hex : ∀ x ∈ c.exceptionTable.toList, False) {v0 : Nat} {v1 : Int32} {v2 : Int32} {v3 : Int32} {v4 : Int32} {v5 : Int32} {h : PH} {r : ((Int32 × PH) ⊕ (Nat × PH))} (hM : MC + X0 = (xT2 r)) (hN : MS + V0 = (vT2 r)) (hu : uc + X0 = hX h) (hv : us + V0 = hV h) (hf : fX11_append_b0 v0 v1 v2 v3 v4 v5 h = some r)  : PW E p l e (rmv 8 MC MS) s m args below meth c 7 uc us (vx_MQ below (QG E (fun v u => ∃ z, r = .inl z ∧ v = some (.int z.1) ∧ u = z.2)) (XG E (fun En u => ∃ (z : Nat × PH) (n : Nat), r = .inr z ∧ En = exn z.1 ∧ hX z.2 ≤ n ∧ u = hbump z.2 n)) args s MC MS (pA E)) h 0 [(0, some (.ref v0)), (1, some (.int v1)), (2, some (.int v2)), (3, some (.int v3)), (4, some (.int v4)), (5, some (.int v5))] [] := by
  have hm1 : lez h (xT2 r) (vT2 r) := mX11_append_b0 hf
  have hcm : uc ≤ MC := (by have o0 := hm1.1; have o1 := hM; have o2 := hu; (try simp only [hX_sI, hX_sR, hX_sL, hX_sD, hX_sIa, hX_sRa, hV_sI, hV_sR, hV_sL, hV_sD, hV_sIa, hV_sRa, hX_new, hV_new] at o0 o1 o2 ⊢); omega)
  have hsm : us ≤ MS := (by have o0 := hm1.2; have o1 := hN; have o2 := hv; (try simp only [hX_sI, hX_sR, hX_sL, hX_sD, hX_sIa, hX_sRa, hV_sI, hV_sR, hV_sL, hV_sD, hV_sIa, hV_sRa, hX_new, hV_new] at o0 o1 o2 ⊢); omega)
  clear hm1
  unfold fX11_append_b0 at hf
  refine p_iload_n X (dcg dc_X11_append 0 rfl) rfl rfl ?_
  obtain ⟨z1, hz1, hf⟩ := bd_some hf
  refine p_callS (As := [_]) X ml_X11_86 (dcg dc_X11_append 1 rfl) rfl rfl  (wX7_bytesOf hG hz1) (by decide) (room4 (Nat.le_of_ble_eq_true rfl)) hcm hsm ?_
  rintro _ u9 ⟨rfl, e9⟩; have e9 := e9.symm; subst e9
  refine p_iload_n X (dcg dc_X11_append 2 rfl) rfl rfl ?_
  obtain ⟨z2, hz2, hf⟩ := bd_some hf
  refine p_callS (As := [_]) X ml_X11_86 (dcg dc_X11_append 3 rfl) rfl rfl  (wX7_bytesOf hG hz2) (by decide) (room4 (Nat.le_of_ble_eq_true rfl)) hcm hsm ?_
  rintro _ u9 ⟨rfl, e9⟩; have e9 := e9.symm; subst e9
  refine p_iadd X (dcg dc_X11_append 4 rfl) ?_
  refine p_iload_n X (dcg dc_X11_append 5 rfl) rfl rfl ?_
  obtain ⟨z3, hz3, hf⟩ := bd_some hf
  refine p_callS (As := [_]) X ml_X11_86 (dcg dc_X11_append 6 rfl) rfl rfl  (wX7_bytesOf hG hz3) (by decide) (room4 (Nat.le_of_ble_eq_true rfl)) hcm hsm ?_
  rintro _ u9 ⟨rfl, e9⟩; have e9 := e9.symm; subst e9
  refine p_iadd X (dcg dc_X11_append 7 rfl) ?_
  refine p_iload X (dcg dc_X11_append 8 rfl) rfl ?_
  obtain ⟨z4, hz4, hf⟩ := bd_some hf
  refine p_callS (As := [_]) X ml_X11_86 (dcg dc_X11_append 9 rfl) rfl rfl  (wX7_bytesOf hG hz4) (by decide) (room4 (Nat.le_of_ble_eq_true rfl)) hcm hsm ?_
  rintro _ u9 ⟨rfl, e9⟩; have e9 := e9.symm; subst e9
  refine p_iadd X (dcg dc_X11_append 10 rfl) ?_
  refine p_iload X (dcg dc_X11_append 11 rfl) rfl ?_
  obtain ⟨z5, hz5, hf⟩ := bd_some hf
  refine p_callS (As := [_]) X ml_X11_86 (dcg dc_X11_append 12 rfl) rfl rfl  (wX7_bytesOf hG hz5) (by decide) (room4 (Nat.le_of_ble_eq_true rfl)) hcm hsm ?_
  rintro _ u9 ⟨rfl, e9⟩; have e9 := e9.symm; subst e9
  refine p_iadd X (dcg dc_X11_append 13 rfl) ?_
  refine p_istore X (dcg dc_X11_append 14 rfl) (by decide) rfl ?_
  refine p_aload_n X (dcg dc_X11_append 15 rfl) rfl rfl ?_
  obtain ⟨hk6, hf⟩ := gd_some hf
  refine p_getR X fl_X11_10 rfl (by decide) (dcg dc_X11_append 16 rfl) hk6 ?_
  obtain ⟨a7, e8, hf⟩ := gs_some hf
  first | subst e8 | (try rw [e8])
  obtain ⟨hk9, hf⟩ := gd_some hf
  refine p_getIn X fl_X11_90 rfl (by decide) (dcg dc_X11_append 17 rfl) hk9 ?_
  refine p_iload X (dcg dc_X11_append 18 rfl) rfl ?_
  refine p_iadd X (dcg dc_X11_append 19 rfl) ?_
  refine p_sipush (v := 300) X (dcg dc_X11_append 20 rfl) (by decide) ?_
  refine p_icmp_le (tgt := 52) X (dcg dc_X11_append 21 rfl) (by decide) (fun q => ?_) (fun q => ?_)
  · have hf := if_t q hf
    refine p_aload_n X (dcg dc_X11_append 26 rfl) rfl rfl ?_
    refine p_getR X fl_X11_10 rfl (by decide) (dcg dc_X11_append 27 rfl) hk6 ?_
    refine p_iload_n X (dcg dc_X11_append 28 rfl) rfl rfl ?_
    obtain ⟨a10, e11, hf⟩ := gs_some hf
    first | subst e11 | (try rw [e11])
    obtain ⟨hk12, hf⟩ := gd_some hf
    obtain ⟨z13, hz13, hf⟩ := bd_some hf
    refine p_callV (As := [_]) X ml_X11_97 (dcg dc_X11_append 29 rfl) rfl rfl hk12 (wX7_addBytes hG hz13) (by decide) (room4 (Nat.le_of_ble_eq_true rfl)) hcm hsm ?_
    rintro _ u9 ⟨rfl, e9⟩; have e9 := e9.symm; subst e9
    have hu := hu.trans (mX7_addBytes hz13).1
    have hv := hv.trans (mX7_addBytes hz13).2
    refine p_aload_n X (dcg dc_X11_append 30 rfl) rfl rfl ?_
    obtain ⟨hk14, hf⟩ := gd_some hf
    refine p_getR X fl_X11_10 rfl (by decide) (dcg dc_X11_append 31 rfl) hk14 ?_
    refine p_iload_n X (dcg dc_X11_append 32 rfl) rfl rfl ?_
    obtain ⟨a15, e16, hf⟩ := gs_some hf
    first | subst e16 | (try rw [e16])
    obtain ⟨hk17, hf⟩ := gd_some hf
    obtain ⟨z18, hz18, hf⟩ := bd_some hf
    refine p_callV (As := [_]) X ml_X11_97 (dcg dc_X11_append 33 rfl) rfl rfl hk17 (wX7_addBytes hG hz18) (by decide) (room4 (Nat.le_of_ble_eq_true rfl)) hcm hsm ?_
    rintro _ u9 ⟨rfl, e9⟩; have e9 := e9.symm; subst e9
    have hu := hu.trans (mX7_addBytes hz18).1
    have hv := hv.trans (mX7_addBytes hz18).2
    refine p_aload_n X (dcg dc_X11_append 34 rfl) rfl rfl ?_
    obtain ⟨hk19, hf⟩ := gd_some hf
    refine p_getR X fl_X11_10 rfl (by decide) (dcg dc_X11_append 35 rfl) hk19 ?_
    refine p_iload_n X (dcg dc_X11_append 36 rfl) rfl rfl ?_
    obtain ⟨a20, e21, hf⟩ := gs_some hf
    first | subst e21 | (try rw [e21])
    obtain ⟨hk22, hf⟩ := gd_some hf
    obtain ⟨z23, hz23, hf⟩ := bd_some hf
    refine p_callV (As := [_]) X ml_X11_97 (dcg dc_X11_append 37 rfl) rfl rfl hk22 (wX7_addBytes hG hz23) (by decide) (room4 (Nat.le_of_ble_eq_true rfl)) hcm hsm ?_
    rintro _ u9 ⟨rfl, e9⟩; have e9 := e9.symm; subst e9
    have hu := hu.trans (mX7_addBytes hz23).1
    have hv := hv.trans (mX7_addBytes hz23).2
    refine p_aload_n X (dcg dc_X11_append 38 rfl) rfl rfl ?_
    obtain ⟨hk24, hf⟩ := gd_some hf
    refine p_getR X fl_X11_10 rfl (by decide) (dcg dc_X11_append 39 rfl) hk24 ?_
    refine p_iload X (dcg dc_X11_append 40 rfl) rfl ?_
    obtain ⟨a25, e26, hf⟩ := gs_some hf
    first | subst e26 | (try rw [e26])
    obtain ⟨hk27, hf⟩ := gd_some hf
    obtain ⟨z28, hz28, hf⟩ := bd_some hf
    refine p_callV (As := [_]) X ml_X11_97 (dcg dc_X11_append 41 rfl) rfl rfl hk27 (wX7_addBytes hG hz28) (by decide) (room4 (Nat.le_of_ble_eq_true rfl)) hcm hsm ?_
    rintro _ u9 ⟨rfl, e9⟩; have e9 := e9.symm; subst e9
    have hu := hu.trans (mX7_addBytes hz28).1
    have hv := hv.trans (mX7_addBytes hz28).2
    refine p_aload_n X (dcg dc_X11_append 42 rfl) rfl rfl ?_
    obtain ⟨hk29, hf⟩ := gd_some hf
    refine p_getR X fl_X11_10 rfl (by decide) (dcg dc_X11_append 43 rfl) hk29 ?_
    refine p_iload X (dcg dc_X11_append 44 rfl) rfl ?_
    obtain ⟨a30, e31, hf⟩ := gs_some hf
    first | subst e31 | (try rw [e31])
    obtain ⟨hk32, hf⟩ := gd_some hf
    obtain ⟨z33, hz33, hf⟩ := bd_some hf
    refine p_callV (As := [_]) X ml_X11_97 (dcg dc_X11_append 45 rfl) rfl rfl hk32 (wX7_addBytes hG hz33) (by decide) (room4 (Nat.le_of_ble_eq_true rfl)) hcm hsm ?_
    rintro _ u9 ⟨rfl, e9⟩; have e9 := e9.symm; subst e9
    have hu := hu.trans (mX7_addBytes hz33).1
    have hv := hv.trans (mX7_addBytes hz33).2
    refine p_aload_n X (dcg dc_X11_append 46 rfl) rfl rfl ?_
    obtain ⟨hk34, hf⟩ := gd_some hf
    refine p_getR X fl_X11_10 rfl (by decide) (dcg dc_X11_append 47 rfl) hk34 ?_
    obtain ⟨a35, e36, hf⟩ := gs_some hf
    first | subst e36 | (try rw [e36])
    obtain ⟨hk37, hf⟩ := gd_some hf
    refine p_getIn X fl_X11_90 rfl (by decide) (dcg dc_X11_append 48 rfl) hk37 ?_
    have er := Option.some.inj hf
    subst er
    refine p_vx ?_
    exact p_iret X rfl (dcg dc_X11_append 49 rfl) ⟨_, rfl, rfl, rfl⟩ hcm hsm
  · have hf := if_f q hf
    have er := Option.some.inj hf
    subst er
    exact p_throw0 (cls := "java/lang/IllegalStateException") (names := ["java/lang/RuntimeException", "java/lang/Exception"]) X hex (by decide) (by decide) tw_1121 tw_121 th_X11_96a th_X11_96b th_X11_96c th_X11_96d (dcg dc_X11_append 22 rfl) (dcg dc_X11_append 23 rfl) (dcg dc_X11_append 24 rfl) (dcg dc_X11_append 25 rfl) (Nat.le_of_ble_eq_true rfl) (Nat.le_trans (Nat.add_le_add_right (room4 (Nat.le_of_ble_eq_true rfl)) _) (Nat.le_of_ble_eq_true rfl)) (show uc + 1 ≤ MC from (by have o0 := (show MC + X0 = hX h + 1 from hM); have o1 := hu; (try simp only [hX_sI, hX_sR, hX_sL, hX_sD, hX_sIa, hX_sRa, hV_sI, hV_sR, hV_sL, hV_sD, hV_sIa, hV_sRa, hX_new, hV_new] at o0 o1 ⊢); omega)) (show us + 6 ≤ MS from (by have o0 := (show MS + V0 = hV h + 6 from hN); have o1 := hv; (try simp only [hX_sI, hX_sR, hX_sL, hX_sD, hX_sIa, hX_sRa, hV_sI, hV_sR, hV_sL, hV_sD, hV_sIa, hV_sRa, hX_new, hV_new] at o0 o1 ⊢); omega)) (show uc + 1 ≤ MC from (by have o0 := (show MC + X0 = hX h + 1 from hM); have o1 := hu; (try simp only [hX_sI, hX_sR, hX_sL, hX_sD, hX_sIa, hX_sRa, hV_sI, hV_sR, hV_sL, hV_sD, hV_sIa, hV_sRa, hX_new, hV_new] at o0 o1 ⊢); omega)) (show us + 6 ≤ MS from (by have o0 := (show MS + V0 = hV h + 6 from hN); have o1 := hv; (try simp only [hX_sI, hX_sR, hX_sL, hX_sD, hX_sIa, hX_sRa, hV_sI, hV_sR, hV_sL, hV_sD, hV_sIa, hV_sRa, hX_new, hV_new] at o0 o1 ⊢); omega)) (fun n hn => ⟨_, n, rfl, rfl, hn, rfl⟩)
noncomputable def fX11_append (v0 : Nat) (v1 : Int32) (v2 : Int32) (v3 : Int32) (v4 : Int32) (v5 : Int32) (h : PH) : Option ((Int32 × PH) ⊕ (Nat × PH)) :=
  fX11_append_b0 v0 v1 v2 v3 v4 v5 h
set_option maxRecDepth 100000 in
theorem mX11_append {v0 : Nat} {v1 : Int32} {v2 : Int32} {v3 : Int32} {v4 : Int32} {v5 : Int32} {h : PH} {r : ((Int32 × PH) ⊕ (Nat × PH))} (hf : fX11_append v0 v1 v2 v3 v4 v5 h = some r) : lez h (xT2 r) (vT2 r) := by
  unfold fX11_append at hf
  have hle := lez_rf h
  exact lez_rt (mX11_append_b0 hf) hle
set_option maxRecDepth 100000 in
theorem wX11_append {E : PE} {l : Launch} (hG : Gs E l) {v0 : Nat} {v1 : Int32} {v2 : Int32} {v3 : Int32} {v4 : Int32} {v5 : Int32} {h : PH} {r : ((Int32 × PH) ⊕ (Nat × PH))} (hf : fX11_append v0 v1 v2 v3 v4 v5 h = some r) : CtX E l 8 ((xT2 r) - hX h) ((vT2 r) - hV h) yX11_append cX11_append 7 (some .int) [.ref v0, .int v1, .int v2, .int v3, .int v4, .int v5] h (fun v u => ∃ z, r = .inl z ∧ v = some (.int z.1) ∧ u = z.2) (fun En u => ∃ (z : Nat × PH) (n : Nat), r = .inr z ∧ En = exn z.1 ∧ hX z.2 ≤ n ∧ u = hbump z.2 n) := by
  have hmm := mX11_append hf
  refine ctx_of hG (by decide) (Nat.le_of_ble_eq_true rfl) ?_
  intro p e s m args below meth c X hex
  show PW E p l e _ s m args below meth c _ 0 0 _ h 0 [(0, some (.ref v0)), (1, some (.int v1)), (2, some (.int v2)), (3, some (.int v3)), (4, some (.int v4)), (5, some (.int v5))] []
  unfold fX11_append at hf
  have hM := Nat.sub_add_cancel hmm.1
  have hN := Nat.sub_add_cancel hmm.2
  refine p_pick [0, 1, 2, 3, 4, 5] ?_
  exact wX11_append_b0 X hG hex hM hN (Nat.zero_add _) (Nat.zero_add _) hf
theorem dc_X11_clearTape : decs cX11_clearTape [(0, .aload_n 0, 1), (1, .getfield 10, 3), (4, .getfield 90, 3), (7, .istore_n 1, 1), (8, .aload_n 0, 1), (9, .getfield 10, 3), (12, .iconst 0, 1), (13, .putfield 90, 3), (16, .iload_n 1, 1), (17, .ireturn, 1)] = true := by decide +kernel
noncomputable def fX11_clearTape (v0 : Nat) (h : PH) : Option (Int32 × PH) :=
  gd (hK h v0 = 11) (gs (hR h 11 v0 0) (fun a2 =>
  gd (hK h a2 = 7) (gs (hR h 11 v0 0) (fun a5 =>
  gd (hK h a5 = 7) (lt (sI h 7 a5 1 (0 : Int32)) (fun h8 =>
  some (((hI h 7 a2 1), h8))))))))
set_option maxRecDepth 100000 in
theorem mX11_clearTape {v0 : Nat} {h : PH} {r : (Int32 × PH)} (hf : fX11_clearTape v0 h = some r) : eqz h (hX r.2) (hV r.2) := by
  unfold fX11_clearTape at hf
  have hle := eqz_rf h
  obtain ⟨hk1, hf⟩ := gd_some hf
  obtain ⟨a2, e3, hf⟩ := gs_some hf
  obtain ⟨hk4, hf⟩ := gd_some hf
  obtain ⟨a5, e6, hf⟩ := gs_some hf
  obtain ⟨hk7, hf⟩ := gd_some hf
  obtain ⟨h8, rfl, hf⟩ := lt_some hf
  have ee := Option.some.inj hf; subst ee; exact hle
set_option maxRecDepth 100000 in
theorem wX11_clearTape {E : PE} {l : Launch} (hG : Gs E l) {v0 : Nat} {h : PH} {r : (Int32 × PH)} (hf : fX11_clearTape v0 h = some r) : Ct E l 0 0 0 yX11_clearTape cX11_clearTape 2 (some .int) [.ref v0] h (fun v u => v = some (.int r.1) ∧ u = r.2) := by
  refine ct_of hG (by decide) (Nat.le_of_ble_eq_true rfl) ?_
  intro p e s m args below meth c X hnm
  show PW E p l e _ s m args below meth c _ 0 0 _ h 0 [(0, some (.ref v0))] []
  unfold fX11_clearTape at hf
  refine p_aload_n X (dcg dc_X11_clearTape 0 rfl) rfl rfl ?_
  obtain ⟨hk1, hf⟩ := gd_some hf
  refine p_getR X fl_X11_10 rfl (by decide) (dcg dc_X11_clearTape 1 rfl) hk1 ?_
  obtain ⟨a2, e3, hf⟩ := gs_some hf
  first | subst e3 | (try rw [e3])
  obtain ⟨hk4, hf⟩ := gd_some hf
  refine p_getIn X fl_X11_90 rfl (by decide) (dcg dc_X11_clearTape 2 rfl) hk4 ?_
  refine p_istore_n X (dcg dc_X11_clearTape 3 rfl) rfl (by decide) rfl ?_
  refine p_aload_n X (dcg dc_X11_clearTape 4 rfl) rfl rfl ?_
  refine p_getR X fl_X11_10 rfl (by decide) (dcg dc_X11_clearTape 5 rfl) hk1 ?_
  refine p_iconst (v := 0) X (dcg dc_X11_clearTape 6 rfl) (by decide) ?_
  obtain ⟨a5, e6, hf⟩ := gs_some hf
  first | subst e6 | (try rw [e6])
  obtain ⟨hk7, hf⟩ := gd_some hf
  refine p_putIn X fl_X11_90 rfl (by decide) (fun q hq => by cases hq; rfl) rfl rfl (dcg dc_X11_clearTape 7 rfl) hk7 ?_
  obtain ⟨h8, rfl, hf⟩ := lt_some hf
  refine p_iload_n X (dcg dc_X11_clearTape 8 rfl) rfl rfl ?_
  have er := Option.some.inj hf
  subst er
  exact p_iret X rfl (dcg dc_X11_clearTape 9 rfl) ⟨rfl, rfl⟩ (Nat.le_refl _) (Nat.le_refl _)
theorem dc_X11_errorPosition : decs cX11_errorPosition [(0, .aload_n 0, 1), (1, .getfield 10, 3), (4, .getfield 101, 3), (7, .ireturn, 1)] = true := by decide +kernel
noncomputable def fX11_errorPosition (v0 : Nat) (h : PH) : Option Int32 :=
  gd (hK h v0 = 11) (gs (hR h 11 v0 0) (fun a2 =>
  gd (hK h a2 = 7) (some ((hI h 7 a2 2)))))
set_option maxRecDepth 100000 in
theorem wX11_errorPosition {E : PE} {l : Launch} (hG : Gs E l) {v0 : Nat} {h : PH} {r : Int32} (hf : fX11_errorPosition v0 h = some r) : Ct E l 0 0 0 yX11_errorPosition cX11_errorPosition 1 (some .int) [.ref v0] h (fun v u => v = some (.int r) ∧ u = h) := by
  refine ct_of hG (by decide) (Nat.le_of_ble_eq_true rfl) ?_
  intro p e s m args below meth c X hnm
  show PW E p l e _ s m args below meth c _ 0 0 _ h 0 [(0, some (.ref v0))] []
  unfold fX11_errorPosition at hf
  refine p_aload_n X (dcg dc_X11_errorPosition 0 rfl) rfl rfl ?_
  obtain ⟨hk1, hf⟩ := gd_some hf
  refine p_getR X fl_X11_10 rfl (by decide) (dcg dc_X11_errorPosition 1 rfl) hk1 ?_
  obtain ⟨a2, e3, hf⟩ := gs_some hf
  first | subst e3 | (try rw [e3])
  obtain ⟨hk4, hf⟩ := gd_some hf
  refine p_getIn X fl_X11_101 rfl (by decide) (dcg dc_X11_errorPosition 2 rfl) hk4 ?_
  have er := Option.some.inj hf
  subst er
  exact p_iret X rfl (dcg dc_X11_errorPosition 3 rfl) ⟨rfl, rfl⟩ (Nat.le_refl _) (Nat.le_refl _)
theorem dc_X11_freeNumber : decs cX11_freeNumber [(0, .iconst 0, 1), (1, .istore_n 1, 1), (2, .iload_n 1, 1), (3, .bipush 100, 2), (5, .if_icmp .ge 20, 3), (8, .aload_n 0, 1), (9, .getfield 27, 3), (12, .iload_n 1, 1), (13, .aaload, 1), (14, .ifnonnull 5, 3), (17, .iload_n 1, 1), (18, .ireturn, 1), (19, .iinc 1 1, 3), (22, .goto (-20), 3), (25, .iconst (-1), 1), (26, .ireturn, 1)] = true := by decide +kernel
noncomputable def fX11_freeNumber_c2 (v0 : Nat) (v1 : Int32) (h : PH) : Option ((Int32) ⊕ Int32) :=
  if ((100 : Int32) ≤ v1) then (mr (some ((-1 : Int32)))) else
  gd (hK h v0 = 11) (gs (hR h 11 v0 2) (fun a4 =>
  gd (hK h a4 = 26 ∧ inb v1 (hN h a4)) (mq (hR h 26 a4 (Int32.toNatClampNeg v1)) (mr (some (v1))) (fun a8 =>
  some (.inl ((v1 + 1)))))))
set_option maxRecDepth 100000 in
theorem wX11_freeNumber_c2 {E : PE} {p : Program} {l : Launch} {e : Env} {s : State} {m : MethodId} {args : Array Value} {below : List Frame} {meth : Method} {c : Code} (X : Cx E p l e (rmv 0 0 0) s m args below meth c RX11 cX11_freeNumber 2 (some .int)) (hG : Gs E l) (hnm : meth.name = yX11_freeNumber.name) {v0 : Nat} {v1 : Int32} {h : PH} {r : Int32} {x : ((Int32) ⊕ Int32)} (hf : fX11_freeNumber_c2 v0 v1 h = some x) (k0 : ∀ z : (Int32), x = .inl z → PW E p l e (rmv 0 0 0) s m args below meth c 2 0 0 (MQ below (QG E (fun v u => v = some (.int r) ∧ u = h)) args s 0 0 (pA E)) h 2 [(0, some (.ref v0)), (1, some (.int (z)))] []) (kf : ∀ z : Int32, x = .inr z → z = r) : PW E p l e (rmv 0 0 0) s m args below meth c 2 0 0 (MQ below (QG E (fun v u => v = some (.int r) ∧ u = h)) args s 0 0 (pA E)) h 2 [(0, some (.ref v0)), (1, some (.int v1))] [] := by
  unfold fX11_freeNumber_c2 at hf
  refine p_iload_n X (dcg dc_X11_freeNumber 2 rfl) rfl rfl ?_
  refine p_bipush (v := 100) X (dcg dc_X11_freeNumber 3 rfl) (by decide) ?_
  refine p_icmp_ge (tgt := 25) X (dcg dc_X11_freeNumber 4 rfl) (by decide) (fun q => ?_) (fun q => ?_)
  · have hf := if_t q hf
    obtain ⟨y1, hf, hy2⟩ := mr_some hf
    have hy2f := kf y1 hy2
    subst hy2f
    refine p_iconst (v := -1) X (dcg dc_X11_freeNumber 14 rfl) (by decide) ?_
    have er := Option.some.inj hf
    subst er
    exact p_iret X rfl (dcg dc_X11_freeNumber 15 rfl) ⟨rfl, rfl⟩ (Nat.le_refl _) (Nat.le_refl _)
  · have hf := if_f q hf
    refine p_aload_n X (dcg dc_X11_freeNumber 5 rfl) rfl rfl ?_
    obtain ⟨hk3, hf⟩ := gd_some hf
    refine p_getR X fl_X11_27 rfl (by decide) (dcg dc_X11_freeNumber 6 rfl) hk3 ?_
    refine p_iload_n X (dcg dc_X11_freeNumber 7 rfl) rfl rfl ?_
    obtain ⟨a4, e5, hf⟩ := gs_some hf
    first | subst e5 | (try rw [e5])
    obtain ⟨⟨hk7, hb6⟩, hf⟩ := gd_some hf
    refine p_aald26 X (dcg dc_X11_freeNumber 8 rfl) hk7 (vp_of_inb hb6) ?_
    refine p_ifnonnull (tgt := 19) X (dcg dc_X11_freeNumber 9 rfl) (by decide) (fun a8 q => ?_) (fun q => ?_)
    · have hk11 := mq_s q hf
      first | subst q | (try rw [q])
      have hf := hk11
      refine p_iinc (v := 1) X (dcg dc_X11_freeNumber 12 rfl) rfl (by decide) (by decide) rfl ?_
      refine p_goto (tgt := 2) X (dcg dc_X11_freeNumber 13 rfl) (by decide) ?_
      refine p_pick [0, 1] ?_
      exact k0 _ (Option.some.inj hf).symm
    · have hk11 := mq_n q hf
      first | subst q | (try rw [q])
      have hf := hk11
      obtain ⟨y9, hf, hy10⟩ := mr_some hf
      have hy10f := kf y9 hy10
      subst hy10f
      refine p_iload_n X (dcg dc_X11_freeNumber 10 rfl) rfl rfl ?_
      have er := Option.some.inj hf
      subst er
      exact p_iret X rfl (dcg dc_X11_freeNumber 11 rfl) ⟨rfl, rfl⟩ (Nat.le_refl _) (Nat.le_refl _)
noncomputable def fX11_freeNumber_l2 (v0 : Nat) (v1 : Int32) (h : PH) : Option Int32 := wh (fun z : (Int32) => fX11_freeNumber_c2 v0 (z) h) (v1)
set_option maxRecDepth 100000 in
theorem wX11_freeNumber_l2 {E : PE} {p : Program} {l : Launch} {e : Env} {s : State} {m : MethodId} {args : Array Value} {below : List Frame} {meth : Method} {c : Code} (X : Cx E p l e (rmv 0 0 0) s m args below meth c RX11 cX11_freeNumber 2 (some .int)) (hG : Gs E l) (hnm : meth.name = yX11_freeNumber.name) {v0 : Nat} {v1 : Int32} {h : PH} {r : Int32} (hf : fX11_freeNumber_l2 v0 v1 h = some r)  : PW E p l e (rmv 0 0 0) s m args below meth c 2 0 0 (MQ below (QG E (fun v u => v = some (.int r) ∧ u = h)) args s 0 0 (pA E)) h 2 [(0, some (.ref v0)), (1, some (.int v1))] [] := by
  unfold fX11_freeNumber_l2 at hf
  refine wh_ind (P := fun z => PW E p l e (rmv 0 0 0) s m args below meth c 2 0 0 (MQ below (QG E (fun v u => v = some (.int r) ∧ u = h)) args s 0 0 (pA E)) h 2 [(0, some (.ref v0)), (1, some (.int (z)))] []) (fun z x0 hs i1 i2 => ?_) _ hf
  exact wX11_freeNumber_c2 (r := r) (v0 := v0) (v1 := z) (h := h) X hG hnm hs i1  i2
noncomputable def fX11_freeNumber (v0 : Nat) (h : PH) : Option Int32 :=
  fX11_freeNumber_l2 v0 (0 : Int32) h
set_option maxRecDepth 100000 in
theorem wX11_freeNumber {E : PE} {l : Launch} (hG : Gs E l) {v0 : Nat} {h : PH} {r : Int32} (hf : fX11_freeNumber v0 h = some r) : Ct E l 0 0 0 yX11_freeNumber cX11_freeNumber 2 (some .int) [.ref v0] h (fun v u => v = some (.int r) ∧ u = h) := by
  refine ct_of hG (by decide) (Nat.le_of_ble_eq_true rfl) ?_
  intro p e s m args below meth c X hnm
  show PW E p l e _ s m args below meth c _ 0 0 _ h 0 [(0, some (.ref v0))] []
  unfold fX11_freeNumber at hf
  refine p_iconst (v := 0) X (dcg dc_X11_freeNumber 0 rfl) (by decide) ?_
  refine p_istore_n X (dcg dc_X11_freeNumber 1 rfl) rfl (by decide) rfl ?_
  refine p_pick [0, 1] ?_
  exact wX11_freeNumber_l2 X hG hnm hf 
theorem dc_X11_isSatisfied : decs cX11_isSatisfied [(0, .aload_n 0, 1), (1, .getfield 27, 3), (4, .iload_n 2, 1), (5, .aaload, 1), (6, .ifnull 21, 3), (9, .aload_n 1, 1), (10, .aload_n 0, 1), (11, .getfield 27, 3), (14, .iload_n 2, 1), (15, .aaload, 1), (16, .iconst 0, 1), (17, .invokestatic 355, 3), (20, .ifCond .eq 7, 3), (23, .iconst 1, 1), (24, .goto 4, 3), (27, .iconst 0, 1), (28, .ireturn, 1)] = true := by decide +kernel
noncomputable def fX11_isSatisfied_b28 (t0 : Int32) (h : PH) : Option Int32 :=
  gd (t0 &&& 1 = t0) (some (t0))
set_option maxRecDepth 100000 in
theorem wX11_isSatisfied_b28 {E : PE} {p : Program} {l : Launch} {e : Env} {s : State} {m : MethodId} {args : Array Value} {below : List Frame} {meth : Method} {c : Code} (X : Cx E p l e (rmv 48 0 0) s m args below meth c RX11 cX11_isSatisfied 3 (some .boolean)) (hG : Gs E l) (hnm : meth.name = yX11_isSatisfied.name) {t0 : Int32} {h : PH} {r : Int32} (hf : fX11_isSatisfied_b28 t0 h = some r)  : PW E p l e (rmv 48 0 0) s m args below meth c 3 0 0 (MQ below (QG E (fun v u => v = some (.int r) ∧ u = h)) args s 0 0 (pA E)) h 28 [] [.int t0] := by
  unfold fX11_isSatisfied_b28 at hf
  obtain ⟨hg7, hf⟩ := gd_some hf
  have er := Option.some.inj hf
  subst er
  exact p_zret X rfl (congrArg Value.int hg7) (dcg dc_X11_isSatisfied 16 rfl) ⟨rfl, rfl⟩ (Nat.le_refl _) (Nat.le_refl _)
noncomputable def fX11_isSatisfied_b27  (h : PH) : Option Int32 :=
  fX11_isSatisfied_b28 (0 : Int32) h
set_option maxRecDepth 100000 in
theorem wX11_isSatisfied_b27 {E : PE} {p : Program} {l : Launch} {e : Env} {s : State} {m : MethodId} {args : Array Value} {below : List Frame} {meth : Method} {c : Code} (X : Cx E p l e (rmv 48 0 0) s m args below meth c RX11 cX11_isSatisfied 3 (some .boolean)) (hG : Gs E l) (hnm : meth.name = yX11_isSatisfied.name)  {h : PH} {r : Int32} (hf : fX11_isSatisfied_b27  h = some r)  : PW E p l e (rmv 48 0 0) s m args below meth c 3 0 0 (MQ below (QG E (fun v u => v = some (.int r) ∧ u = h)) args s 0 0 (pA E)) h 27 [] [] := by
  unfold fX11_isSatisfied_b27 at hf
  refine p_iconst (v := 0) X (dcg dc_X11_isSatisfied 15 rfl) (by decide) ?_
  refine p_pick [] ?_
  exact wX11_isSatisfied_b28 X hG hnm hf 
noncomputable def fX11_isSatisfied (v0 : Nat) (v1 : Option Nat) (v2 : Int32) (h : PH) : Option Int32 :=
  gd (hK h v0 = 11) (gs (hR h 11 v0 2) (fun a2 =>
  gd (hK h a2 = 26 ∧ inb v2 (hN h a2)) (mq (hR h 26 a2 (Int32.toNatClampNeg v2)) (fX11_isSatisfied_b27  h) (fun a6 =>
  gs (hR h 11 v0 2) (fun a8 =>
  gd (hK h a8 = 26 ∧ inb v2 (hN h a8)) (bd (fX4_isMet v1 (hR h 26 a8 (Int32.toNatClampNeg v2)) (0 : Int32) h) (fun z12 =>
  if (z12 = 0) then (fX11_isSatisfied_b27  h) else
  fX11_isSatisfied_b28 (1 : Int32) h)))))))
set_option maxRecDepth 100000 in
theorem wX11_isSatisfied {E : PE} {l : Launch} (hG : Gs E l) {v0 : Nat} {v1 : Option Nat} {v2 : Int32} {h : PH} {r : Int32} (hf : fX11_isSatisfied v0 v1 v2 h = some r) : Ct E l 48 0 0 yX11_isSatisfied cX11_isSatisfied 3 (some .boolean) [.ref v0, va_rf v1, .int v2] h (fun v u => v = some (.int r) ∧ u = h) := by
  refine ct_of hG (by decide) (by simp [lg_sl, cat_rf, cat_r, cat_i, cat_l, cat_d, cat_f]) ?_
  intro p e s m args below meth c X hnm
  rw [show pargs 0 [.ref v0, va_rf v1, .int v2] = [(0, some (.ref v0)), (1, some (va_rf v1)), (2, some (.int v2))] from by simp [pargs, cat_rf, cat_r, cat_i, cat_l, cat_d, cat_f]]
  unfold fX11_isSatisfied at hf
  refine p_aload_n X (dcg dc_X11_isSatisfied 0 rfl) rfl rfl ?_
  obtain ⟨hk1, hf⟩ := gd_some hf
  refine p_getR X fl_X11_27 rfl (by decide) (dcg dc_X11_isSatisfied 1 rfl) hk1 ?_
  refine p_iload_n X (dcg dc_X11_isSatisfied 2 rfl) rfl rfl ?_
  obtain ⟨a2, e3, hf⟩ := gs_some hf
  first | subst e3 | (try rw [e3])
  obtain ⟨⟨hk5, hb4⟩, hf⟩ := gd_some hf
  refine p_aald26 X (dcg dc_X11_isSatisfied 3 rfl) hk5 (vp_of_inb hb4) ?_
  refine p_ifnull (tgt := 27) X (dcg dc_X11_isSatisfied 4 rfl) (by decide) (fun q => ?_) (fun a6 q => ?_)
  · have hk13 := mq_n q hf
    first | subst q | (try rw [q])
    have hf := hk13
    refine p_pick [] ?_
    exact wX11_isSatisfied_b27 X hG hnm hf 
  · have hk13 := mq_s q hf
    first | subst q | (try rw [q])
    have hf := hk13
    refine p_aloadq_n X (dcg dc_X11_isSatisfied 5 rfl) rfl rfl ?_
    refine p_aload_n X (dcg dc_X11_isSatisfied 6 rfl) rfl rfl ?_
    refine p_getR X fl_X11_27 rfl (by decide) (dcg dc_X11_isSatisfied 7 rfl) hk1 ?_
    refine p_iload_n X (dcg dc_X11_isSatisfied 8 rfl) rfl rfl ?_
    obtain ⟨a8, e9, hf⟩ := gs_some hf
    first | subst e9 | (try rw [e9])
    obtain ⟨⟨hk11, hb10⟩, hf⟩ := gd_some hf
    refine p_aald26 X (dcg dc_X11_isSatisfied 9 rfl) hk11 (vp_of_inb hb10) ?_
    refine p_iconst (v := 0) X (dcg dc_X11_isSatisfied 10 rfl) (by decide) ?_
    obtain ⟨z12, hz12, hf⟩ := bd_some hf
    refine p_callSn (As := [va_rf _, va_rf _, _]) X ml_X11_355 (dcg dc_X11_isSatisfied 11 rfl) rfl rfl  (wX4_isMet hG hz12) (by decide) (room4 (Nat.le_of_ble_eq_true rfl)) (Nat.le_refl _) (Nat.le_refl _) ?_
    rintro _ u9 ⟨rfl, e9⟩; have e9 := e9.symm; subst e9
    refine p_if_eq (tgt := 27) X (dcg dc_X11_isSatisfied 12 rfl) (by decide) (fun q => ?_) (fun q => ?_)
    · have hf := if_t q hf
      refine p_pick [] ?_
      exact wX11_isSatisfied_b27 X hG hnm hf 
    · have hf := if_f q hf
      refine p_iconst (v := 1) X (dcg dc_X11_isSatisfied 13 rfl) (by decide) ?_
      refine p_goto (tgt := 28) X (dcg dc_X11_isSatisfied 14 rfl) (by decide) ?_
      refine p_pick [] ?_
      exact wX11_isSatisfied_b28 X hG hnm hf 
theorem dc_X11_exchange : decs cX11_exchange [(0, .aload_n 0, 1), (1, .getfield 34, 3), (4, .iload_n 1, 1), (5, .aload_n 0, 1), (6, .getfield 27, 3), (9, .iload_n 1, 1), (10, .aaload, 1), (11, .aload_n 2, 1), (12, .invokevirtual 339, 3), (15, .aload_n 0, 1), (16, .getfield 27, 3), (19, .iload_n 1, 1), (20, .aload_n 2, 1), (21, .aastore, 1), (22, .iconst 0, 1), (23, .istore_n 3, 1), (24, .iload_n 3, 1), (25, .bipush 6, 2), (27, .if_icmp .ge 60, 3), (30, .aload_n 0, 1), (31, .getfield 47, 3), (34, .iload_n 3, 1), (35, .aaload, 1), (36, .ifnonnull 6, 3), (39, .goto 42, 3), (42, .aload_n 0, 1), (43, .aload_n 0, 1), (44, .getfield 47, 3), (47, .iload_n 3, 1), (48, .aaload, 1), (49, .iload_n 1, 1), (50, .invokevirtual 343, 3), (53, .istore 4, 2), (55, .aload_n 0, 1), (56, .getfield 53, 3), (59, .iload_n 3, 1), (60, .aaload, 1), (61, .iload_n 1, 1), (62, .iload 4, 2), (64, .invokevirtual 347, 3), (67, .ifCond .eq 14, 3), (70, .aload_n 0, 1), (71, .getfield 61, 3), (74, .iload_n 3, 1), (75, .iload_n 1, 1), (76, .iload 4, 2), (78, .invokevirtual 351, 3), (81, .iinc 3 1, 3), (84, .goto (-60), 3), (87, .return_, 1)] = true := by decide +kernel
noncomputable def fX11_exchange_b81 (v0 : Nat) (v1 : Int32) (v3 : Int32) (h : PH) : Option ((Int32 × PH) ⊕ PH) :=
  some (.inl ((v3 + 1), h))
set_option maxRecDepth 100000 in
theorem mX11_exchange_b81 {v0 : Nat} {v1 : Int32} {v3 : Int32} {h : PH} {x : ((Int32 × PH) ⊕ PH)} (hf : fX11_exchange_b81 v0 v1 v3 h = some x) : (∀ w9 : (Int32 × PH), x = .inl w9 → lez h (hX (w9.2)) (hV (w9.2))) ∧ (∀ w9 : PH, x = .inr w9 → lez h (hX w9) (hV w9)) := by
  unfold fX11_exchange_b81 at hf
  have hle := lez_rf h
  have ee := Option.some.inj hf; subst ee
  exact ⟨(fun z e => by have ee := Sum.inl.inj (e); subst ee; exact hle), (fun z e => nomatch e)⟩
set_option maxRecDepth 100000 in
theorem wX11_exchange_b81 {E : PE} {p : Program} {l : Launch} {e : Env} {s : State} {m : MethodId} {args : Array Value} {below : List Frame} {meth : Method} {c : Code} {X0 V0 MC MS uc us : Nat} (X : Cx E p l e (rmv 49 MC MS) s m args below meth c RX11 cX11_exchange 5 (none)) (hG : Gs E l) (hnm : meth.name = yX11_exchange.name) {v0 : Nat} {v1 : Int32} {v3 : Int32} {h : PH} {r : PH} {x : ((Int32 × PH) ⊕ PH)} (hM : MC + X0 = (hX r)) (hN : MS + V0 = (hV r)) (hu : uc + X0 = hX h) (hv : us + V0 = hV h) (hf : fX11_exchange_b81 v0 v1 v3 h = some x) (k0 : ∀ (z : (Int32 × PH)) (uc us : Nat), x = .inl z → uc + X0 = hX (z.2) → us + V0 = hV (z.2) → PW E p l e (rmv 49 MC MS) s m args below meth c 5 uc us (MQ below (QG E (fun v u => v = none ∧ u = r)) args s MC MS (pA E)) (z.2) 24 [(0, some (.ref v0)), (1, some (.int v1)), (3, some (.int (z.1)))] []) (kl0 : ∀ z : (Int32 × PH), x = .inl z → lez (z.2) (hX r) (hV r)) (kf : ∀ z : PH, x = .inr z → z = r) : PW E p l e (rmv 49 MC MS) s m args below meth c 5 uc us (MQ below (QG E (fun v u => v = none ∧ u = r)) args s MC MS (pA E)) h 81 [(0, some (.ref v0)), (1, some (.int v1)), (3, some (.int v3))] [] := by
  have hm1 : lez h (hX r) (hV r) := by
    obtain ⟨c0, cf⟩ := mX11_exchange_b81 hf
    rcases hxx : x with zz | zz
    · exact lez_tr (c0 zz hxx) (kl0 zz hxx)
    · have ee := kf zz hxx; subst ee; exact cf zz hxx
  have hcm : uc ≤ MC := (by have o0 := hm1.1; have o1 := hM; have o2 := hu; (try simp only [hX_sI, hX_sR, hX_sL, hX_sD, hX_sIa, hX_sRa, hV_sI, hV_sR, hV_sL, hV_sD, hV_sIa, hV_sRa, hX_new, hV_new] at o0 o1 o2 ⊢); omega)
  have hsm : us ≤ MS := (by have o0 := hm1.2; have o1 := hN; have o2 := hv; (try simp only [hX_sI, hX_sR, hX_sL, hX_sD, hX_sIa, hX_sRa, hV_sI, hV_sR, hV_sL, hV_sD, hV_sIa, hV_sRa, hX_new, hV_new] at o0 o1 o2 ⊢); omega)
  clear hm1
  unfold fX11_exchange_b81 at hf
  refine p_iinc (v := 1) X (dcg dc_X11_exchange 47 rfl) rfl (by decide) (by decide) rfl ?_
  refine p_goto (tgt := 24) X (dcg dc_X11_exchange 48 rfl) (by decide) ?_
  refine p_pick [0, 1, 3] ?_
  exact k0 _ _ _ (Option.some.inj hf).symm hu hv
noncomputable def fX11_exchange_c24 (v0 : Nat) (v1 : Int32) (v3 : Int32) (h : PH) : Option ((Int32 × PH) ⊕ PH) :=
  if ((6 : Int32) ≤ v3) then (mr (some (h))) else
  gd (hK h v0 = 11) (gs (hR h 11 v0 5) (fun a20 =>
  gd (hK h a20 = 25 ∧ inb v3 (hN h a20)) (mq (hR h 25 a20 (Int32.toNatClampNeg v3)) (fX11_exchange_b81 v0 v1 v3 h) (fun a24 =>
  gs (hR h 11 v0 5) (fun a25 =>
  gd (hK h a25 = 25 ∧ inb v3 (hN h a25)) (bd (fX11_isSatisfied v0 (hR h 25 a25 (Int32.toNatClampNeg v3)) v1 h) (fun z29 =>
  gs (hR h 11 v0 6) (fun a30 =>
  gd (hK h a30 = 27 ∧ inb v3 (hN h a30)) (gs (hR h 27 a30 (Int32.toNatClampNeg v3)) (fun a34 =>
  gd (hK h a34 = 9) (bd (fX9_turn a34 v1 z29 h) (fun z37 =>
  if (z37.1 = 0) then (fX11_exchange_b81 v0 v1 v3 z37.2) else
  gd (hK z37.2 v0 = 11) (gs (hR z37.2 11 v0 7) (fun a39 =>
  gd (hK z37.2 a39 = 1) (bd (fX1_record a39 v3 v1 z29 z37.2) (fun z42 =>
  fX11_exchange_b81 v0 v1 v3 z42))))))))))))))))
set_option maxRecDepth 100000 in
theorem mX11_exchange_c24 {v0 : Nat} {v1 : Int32} {v3 : Int32} {h : PH} {x : ((Int32 × PH) ⊕ PH)} (hf : fX11_exchange_c24 v0 v1 v3 h = some x) : (∀ w9 : (Int32 × PH), x = .inl w9 → lez h (hX (w9.2)) (hV (w9.2))) ∧ (∀ w9 : PH, x = .inr w9 → lez h (hX w9) (hV w9)) := by
  unfold fX11_exchange_c24 at hf
  have hle := lez_rf h
  rcases ite_or hf with ⟨q, hf⟩ | ⟨q, hf⟩
  · have hf := if_t q hf
    obtain ⟨y17, hfm, rfl⟩ := mr_some hf; have hf := hfm; clear hfm
    have ee := Option.some.inj hf; subst ee
    exact ⟨(fun z e => nomatch e), (fun z e => by have ee := Sum.inr.inj (e); subst ee; exact hle)⟩
  · have hf := if_f q hf
    obtain ⟨hk19, hf⟩ := gd_some hf
    obtain ⟨a20, e21, hf⟩ := gs_some hf
    obtain ⟨⟨hk23, hb22⟩, hf⟩ := gd_some hf
    rcases mq_or hf with ⟨q, hf⟩ | ⟨a24, q, hf⟩
    · have hf := mq_n q hf
      obtain ⟨c0, cf⟩ := mX11_exchange_b81 hf
      exact ⟨fun z e => lez_rt (c0 z (e)) hle, fun z e => lez_rt (cf z (e)) hle⟩
    · have hk43 := mq_s q hf
      first | subst q | skip
      have hf := hk43
      obtain ⟨a25, e26, hf⟩ := gs_some hf
      obtain ⟨⟨hk28, hb27⟩, hf⟩ := gd_some hf
      obtain ⟨z29, hz29, hf⟩ := bd_some hf
      obtain ⟨a30, e31, hf⟩ := gs_some hf
      obtain ⟨⟨hk33, hb32⟩, hf⟩ := gd_some hf
      obtain ⟨a34, e35, hf⟩ := gs_some hf
      obtain ⟨hk36, hf⟩ := gd_some hf
      obtain ⟨z37, hz37, hf⟩ := bd_some hf
      have hle := lez_rt (lez_eq (mX9_turn hz37)) hle
      rcases ite_or hf with ⟨q, hf⟩ | ⟨q, hf⟩
      · have hf := if_t q hf
        obtain ⟨c0, cf⟩ := mX11_exchange_b81 hf
        exact ⟨fun z e => lez_rt (c0 z (e)) hle, fun z e => lez_rt (cf z (e)) hle⟩
      · have hf := if_f q hf
        obtain ⟨hk38, hf⟩ := gd_some hf
        obtain ⟨a39, e40, hf⟩ := gs_some hf
        obtain ⟨hk41, hf⟩ := gd_some hf
        obtain ⟨z42, hz42, hf⟩ := bd_some hf
        have hle := lez_rt (lez_eq (mX1_record hz42)) hle
        obtain ⟨c0, cf⟩ := mX11_exchange_b81 hf
        exact ⟨fun z e => lez_rt (c0 z (e)) hle, fun z e => lez_rt (cf z (e)) hle⟩
set_option maxRecDepth 100000 in
theorem wX11_exchange_c24 {E : PE} {p : Program} {l : Launch} {e : Env} {s : State} {m : MethodId} {args : Array Value} {below : List Frame} {meth : Method} {c : Code} {X0 V0 MC MS uc us : Nat} (X : Cx E p l e (rmv 49 MC MS) s m args below meth c RX11 cX11_exchange 5 (none)) (hG : Gs E l) (hnm : meth.name = yX11_exchange.name) {v0 : Nat} {v1 : Int32} {v3 : Int32} {h : PH} {r : PH} {x : ((Int32 × PH) ⊕ PH)} (hM : MC + X0 = (hX r)) (hN : MS + V0 = (hV r)) (hu : uc + X0 = hX h) (hv : us + V0 = hV h) (hf : fX11_exchange_c24 v0 v1 v3 h = some x) (k0 : ∀ (z : (Int32 × PH)) (uc us : Nat), x = .inl z → uc + X0 = hX (z.2) → us + V0 = hV (z.2) → PW E p l e (rmv 49 MC MS) s m args below meth c 5 uc us (MQ below (QG E (fun v u => v = none ∧ u = r)) args s MC MS (pA E)) (z.2) 24 [(0, some (.ref v0)), (1, some (.int v1)), (3, some (.int (z.1)))] []) (kl0 : ∀ z : (Int32 × PH), x = .inl z → lez (z.2) (hX r) (hV r)) (kf : ∀ z : PH, x = .inr z → z = r) : PW E p l e (rmv 49 MC MS) s m args below meth c 5 uc us (MQ below (QG E (fun v u => v = none ∧ u = r)) args s MC MS (pA E)) h 24 [(0, some (.ref v0)), (1, some (.int v1)), (3, some (.int v3))] [] := by
  have hm1 : lez h (hX r) (hV r) := by
    obtain ⟨c0, cf⟩ := mX11_exchange_c24 hf
    rcases hxx : x with zz | zz
    · exact lez_tr (c0 zz hxx) (kl0 zz hxx)
    · have ee := kf zz hxx; subst ee; exact cf zz hxx
  have hcm : uc ≤ MC := (by have o0 := hm1.1; have o1 := hM; have o2 := hu; (try simp only [hX_sI, hX_sR, hX_sL, hX_sD, hX_sIa, hX_sRa, hV_sI, hV_sR, hV_sL, hV_sD, hV_sIa, hV_sRa, hX_new, hV_new] at o0 o1 o2 ⊢); omega)
  have hsm : us ≤ MS := (by have o0 := hm1.2; have o1 := hN; have o2 := hv; (try simp only [hX_sI, hX_sR, hX_sL, hX_sD, hX_sIa, hX_sRa, hV_sI, hV_sR, hV_sL, hV_sD, hV_sIa, hV_sRa, hX_new, hV_new] at o0 o1 o2 ⊢); omega)
  clear hm1
  unfold fX11_exchange_c24 at hf
  refine p_iload_n X (dcg dc_X11_exchange 16 rfl) rfl rfl ?_
  refine p_bipush (v := 6) X (dcg dc_X11_exchange 17 rfl) (by decide) ?_
  refine p_icmp_ge (tgt := 87) X (dcg dc_X11_exchange 18 rfl) (by decide) (fun q => ?_) (fun q => ?_)
  · have hf := if_t q hf
    obtain ⟨y17, hf, hy18⟩ := mr_some hf
    have hy18f := kf y17 hy18
    subst hy18f
    have er := Option.some.inj hf
    subst er
    exact p_vret X rfl (dcg dc_X11_exchange 49 rfl) ⟨rfl, rfl⟩ hcm hsm
  · have hf := if_f q hf
    refine p_aload_n X (dcg dc_X11_exchange 19 rfl) rfl rfl ?_
    obtain ⟨hk19, hf⟩ := gd_some hf
    refine p_getR X fl_X11_47 rfl (by decide) (dcg dc_X11_exchange 20 rfl) hk19 ?_
    refine p_iload_n X (dcg dc_X11_exchange 21 rfl) rfl rfl ?_
    obtain ⟨a20, e21, hf⟩ := gs_some hf
    first | subst e21 | (try rw [e21])
    obtain ⟨⟨hk23, hb22⟩, hf⟩ := gd_some hf
    refine p_aald25 X (dcg dc_X11_exchange 22 rfl) hk23 (vp_of_inb hb22) ?_
    refine p_ifnonnull (tgt := 42) X (dcg dc_X11_exchange 23 rfl) (by decide) (fun a24 q => ?_) (fun q => ?_)
    · have hk43 := mq_s q hf
      first | subst q | (try rw [q])
      have hf := hk43
      refine p_aload_n X (dcg dc_X11_exchange 25 rfl) rfl rfl ?_
      refine p_aload_n X (dcg dc_X11_exchange 26 rfl) rfl rfl ?_
      refine p_getR X fl_X11_47 rfl (by decide) (dcg dc_X11_exchange 27 rfl) hk19 ?_
      refine p_iload_n X (dcg dc_X11_exchange 28 rfl) rfl rfl ?_
      obtain ⟨a25, e26, hf⟩ := gs_some hf
      first | subst e26 | (try rw [e26])
      obtain ⟨⟨hk28, hb27⟩, hf⟩ := gd_some hf
      refine p_aald25 X (dcg dc_X11_exchange 29 rfl) hk28 (vp_of_inb hb27) ?_
      refine p_iload_n X (dcg dc_X11_exchange 30 rfl) rfl rfl ?_
      obtain ⟨z29, hz29, hf⟩ := bd_some hf
      refine p_callV (As := [va_rf _, _]) X ml_X11_343 (dcg dc_X11_exchange 31 rfl) rfl rfl hk19 (wX11_isSatisfied hG hz29) (by decide) (room4 (Nat.le_of_ble_eq_true rfl)) hcm hsm ?_
      rintro _ u9 ⟨rfl, e9⟩; have e9 := e9.symm; subst e9
      refine p_istore X (dcg dc_X11_exchange 32 rfl) (by decide) rfl ?_
      refine p_aload_n X (dcg dc_X11_exchange 33 rfl) rfl rfl ?_
      refine p_getR X fl_X11_53 rfl (by decide) (dcg dc_X11_exchange 34 rfl) hk19 ?_
      refine p_iload_n X (dcg dc_X11_exchange 35 rfl) rfl rfl ?_
      obtain ⟨a30, e31, hf⟩ := gs_some hf
      first | subst e31 | (try rw [e31])
      obtain ⟨⟨hk33, hb32⟩, hf⟩ := gd_some hf
      refine p_aald27 X (dcg dc_X11_exchange 36 rfl) hk33 (vp_of_inb hb32) ?_
      refine p_iload_n X (dcg dc_X11_exchange 37 rfl) rfl rfl ?_
      refine p_iload X (dcg dc_X11_exchange 38 rfl) rfl ?_
      obtain ⟨a34, e35, hf⟩ := gs_some hf
      first | subst e35 | (try rw [e35])
      obtain ⟨hk36, hf⟩ := gd_some hf
      obtain ⟨z37, hz37, hf⟩ := bd_some hf
      refine p_callV (As := [_, _]) X ml_X11_347 (dcg dc_X11_exchange 39 rfl) rfl rfl hk36 (wX9_turn hG hz37) (by decide) (room4 (Nat.le_of_ble_eq_true rfl)) hcm hsm ?_
      rintro _ u9 ⟨rfl, e9⟩; have e9 := e9.symm; subst e9
      have hu := hu.trans (mX9_turn hz37).1
      have hv := hv.trans (mX9_turn hz37).2
      refine p_if_eq (tgt := 81) X (dcg dc_X11_exchange 40 rfl) (by decide) (fun q => ?_) (fun q => ?_)
      · have hf := if_t q hf
        refine p_pick [0, 1, 3] ?_
        exact wX11_exchange_b81 X hG hnm hM hN hu hv hf k0 kl0 kf
      · have hf := if_f q hf
        refine p_aload_n X (dcg dc_X11_exchange 41 rfl) rfl rfl ?_
        obtain ⟨hk38, hf⟩ := gd_some hf
        refine p_getR X fl_X11_61 rfl (by decide) (dcg dc_X11_exchange 42 rfl) hk38 ?_
        refine p_iload_n X (dcg dc_X11_exchange 43 rfl) rfl rfl ?_
        refine p_iload_n X (dcg dc_X11_exchange 44 rfl) rfl rfl ?_
        refine p_iload X (dcg dc_X11_exchange 45 rfl) rfl ?_
        obtain ⟨a39, e40, hf⟩ := gs_some hf
        first | subst e40 | (try rw [e40])
        obtain ⟨hk41, hf⟩ := gd_some hf
        obtain ⟨z42, hz42, hf⟩ := bd_some hf
        refine p_callV (As := [_, _, _]) X ml_X11_351 (dcg dc_X11_exchange 46 rfl) rfl rfl hk41 (wX1_record hG hz42) (by decide) (room4 (Nat.le_of_ble_eq_true rfl)) hcm hsm ?_
        rintro _ u9 ⟨rfl, e9⟩; have e9 := e9.symm; subst e9
        have hu := hu.trans (mX1_record hz42).1
        have hv := hv.trans (mX1_record hz42).2
        refine p_pick [0, 1, 3] ?_
        exact wX11_exchange_b81 X hG hnm hM hN hu hv hf k0 kl0 kf
    · have hk43 := mq_n q hf
      first | subst q | (try rw [q])
      have hf := hk43
      refine p_goto (tgt := 81) X (dcg dc_X11_exchange 24 rfl) (by decide) ?_
      refine p_pick [0, 1, 3] ?_
      exact wX11_exchange_b81 X hG hnm hM hN hu hv hf k0 kl0 kf
noncomputable def fX11_exchange_l24 (v0 : Nat) (v1 : Int32) (v3 : Int32) (h : PH) : Option PH := wh (fun z : (Int32 × PH) => fX11_exchange_c24 v0 v1 (z.1) (z.2)) (v3, h)
set_option maxRecDepth 100000 in
theorem mX11_exchange_l24 {v0 : Nat} {v1 : Int32} {v3 : Int32} {h : PH} {r : PH} (hf : fX11_exchange_l24 v0 v1 v3 h = some r) : lez h (hX r) (hV r) := by
  unfold fX11_exchange_l24 at hf
  refine wh_ind (P := fun z => lez (z.2) (hX r) (hV r)) (fun z x0 hs i1 i2 => ?_) _ hf
  obtain ⟨c0, cf⟩ := mX11_exchange_c24 (v0 := v0) (v1 := v1) (v3 := z.1) (h := z.2) hs
  rcases hxx : x0 with zz | zz
  · exact lez_tr (c0 zz hxx) (i1 zz hxx)
  · have ee := i2 zz hxx; subst ee; exact cf zz hxx
set_option maxRecDepth 100000 in
theorem wX11_exchange_l24 {E : PE} {p : Program} {l : Launch} {e : Env} {s : State} {m : MethodId} {args : Array Value} {below : List Frame} {meth : Method} {c : Code} {X0 V0 MC MS uc us : Nat} (X : Cx E p l e (rmv 49 MC MS) s m args below meth c RX11 cX11_exchange 5 (none)) (hG : Gs E l) (hnm : meth.name = yX11_exchange.name) {v0 : Nat} {v1 : Int32} {v3 : Int32} {h : PH} {r : PH} (hM : MC + X0 = (hX r)) (hN : MS + V0 = (hV r)) (hu : uc + X0 = hX h) (hv : us + V0 = hV h) (hf : fX11_exchange_l24 v0 v1 v3 h = some r)  : PW E p l e (rmv 49 MC MS) s m args below meth c 5 uc us (MQ below (QG E (fun v u => v = none ∧ u = r)) args s MC MS (pA E)) h 24 [(0, some (.ref v0)), (1, some (.int v1)), (3, some (.int v3))] [] := by
  unfold fX11_exchange_l24 at hf
  refine wh_ind2 (P := fun z => ∀ uc us : Nat, uc + X0 = hX (z.2) → us + V0 = hV (z.2) → PW E p l e (rmv 49 MC MS) s m args below meth c 5 uc us (MQ below (QG E (fun v u => v = none ∧ u = r)) args s MC MS (pA E)) (z.2) 24 [(0, some (.ref v0)), (1, some (.int v1)), (3, some (.int (z.1)))] []) (fun z x0 hs i1 i2 uc us hu hv => ?_) _ hf uc us hu hv
  exact wX11_exchange_c24 (r := r) (v0 := v0) (v1 := v1) (v3 := z.1) (h := z.2) X hG hnm hM hN hu hv hs (fun z1 uc1 us1 e1 e2 e3 => (i1 z1 e1).1 uc1 us1 e2 e3) (fun z1 e1 => mX11_exchange_l24 (v0 := v0) (v1 := v1) (v3 := z1.1) (h := z1.2) (by unfold fX11_exchange_l24; exact (i1 z1 e1).2))  i2
noncomputable def fX11_exchange_b15 (v0 : Nat) (v1 : Int32) (v2 : Option Nat) (h : PH) : Option PH :=
  gd (hK h v0 = 11) (gs (hR h 11 v0 2) (fun a11 =>
  gd (hK h a11 = 26 ∧ inb v1 (hN h a11)) (gd (okq h 8 v2 = true) (lt (sR h 26 a11 (Int32.toNatClampNeg v1) v2) (fun h15 =>
  fX11_exchange_l24 v0 v1 (0 : Int32) h15)))))
set_option maxRecDepth 100000 in
theorem mX11_exchange_b15 {v0 : Nat} {v1 : Int32} {v2 : Option Nat} {h : PH} {r : PH} (hf : fX11_exchange_b15 v0 v1 v2 h = some r) : lez h (hX r) (hV r) := by
  unfold fX11_exchange_b15 at hf
  have hle := lez_rf h
  obtain ⟨hk10, hf⟩ := gd_some hf
  obtain ⟨a11, e12, hf⟩ := gs_some hf
  obtain ⟨⟨hk14, hb13⟩, hf⟩ := gd_some hf
  obtain ⟨hg16, hf⟩ := gd_some hf
  obtain ⟨h15, rfl, hf⟩ := lt_some hf
  exact lez_rt (mX11_exchange_l24 hf) hle
set_option maxRecDepth 100000 in
theorem wX11_exchange_b15 {E : PE} {p : Program} {l : Launch} {e : Env} {s : State} {m : MethodId} {args : Array Value} {below : List Frame} {meth : Method} {c : Code} {X0 V0 MC MS uc us : Nat} (X : Cx E p l e (rmv 49 MC MS) s m args below meth c RX11 cX11_exchange 5 (none)) (hG : Gs E l) (hnm : meth.name = yX11_exchange.name) {v0 : Nat} {v1 : Int32} {v2 : Option Nat} {h : PH} {r : PH} (hM : MC + X0 = (hX r)) (hN : MS + V0 = (hV r)) (hu : uc + X0 = hX h) (hv : us + V0 = hV h) (hf : fX11_exchange_b15 v0 v1 v2 h = some r)  : PW E p l e (rmv 49 MC MS) s m args below meth c 5 uc us (MQ below (QG E (fun v u => v = none ∧ u = r)) args s MC MS (pA E)) h 15 [(0, some (.ref v0)), (1, some (.int v1)), (2, some (va_rf v2))] [] := by
  have hm1 : lez h (hX r) (hV r) := mX11_exchange_b15 hf
  have hcm : uc ≤ MC := (by have o0 := hm1.1; have o1 := hM; have o2 := hu; (try simp only [hX_sI, hX_sR, hX_sL, hX_sD, hX_sIa, hX_sRa, hV_sI, hV_sR, hV_sL, hV_sD, hV_sIa, hV_sRa, hX_new, hV_new] at o0 o1 o2 ⊢); omega)
  have hsm : us ≤ MS := (by have o0 := hm1.2; have o1 := hN; have o2 := hv; (try simp only [hX_sI, hX_sR, hX_sL, hX_sD, hX_sIa, hX_sRa, hV_sI, hV_sR, hV_sL, hV_sD, hV_sIa, hV_sRa, hX_new, hV_new] at o0 o1 o2 ⊢); omega)
  clear hm1
  unfold fX11_exchange_b15 at hf
  refine p_aload_n X (dcg dc_X11_exchange 9 rfl) rfl rfl ?_
  obtain ⟨hk10, hf⟩ := gd_some hf
  refine p_getR X fl_X11_27 rfl (by decide) (dcg dc_X11_exchange 10 rfl) hk10 ?_
  refine p_iload_n X (dcg dc_X11_exchange 11 rfl) rfl rfl ?_
  refine p_aloadq_n X (dcg dc_X11_exchange 12 rfl) rfl rfl ?_
  obtain ⟨a11, e12, hf⟩ := gs_some hf
  first | subst e12 | (try rw [e12])
  obtain ⟨⟨hk14, hb13⟩, hf⟩ := gd_some hf
  obtain ⟨hg16, hf⟩ := gd_some hf
  refine p_aast26 X (dcg dc_X11_exchange 13 rfl) hk14 (vp_of_inb hb13) (okq_of hg16) ?_
  obtain ⟨h15, rfl, hf⟩ := lt_some hf
  refine p_iconst (v := 0) X (dcg dc_X11_exchange 14 rfl) (by decide) ?_
  refine p_istore_n X (dcg dc_X11_exchange 15 rfl) rfl (by decide) (nwq (k := 2) rfl) ?_
  refine p_pick [0, 1, 3] ?_
  exact wX11_exchange_l24 X hG hnm hM hN hu hv hf 
noncomputable def fX11_exchange_b0 (v0 : Nat) (v1 : Int32) (v2 : Option Nat) (h : PH) : Option PH :=
  gd (hK h v0 = 11) (gs (hR h 11 v0 2) (fun a2 =>
  gd (hK h a2 = 26 ∧ inb v1 (hN h a2)) (gs (hR h 11 v0 3) (fun a6 =>
  gd (hK h a6 = 3) (bd (fX3_follow a6 v1 (hR h 26 a2 (Int32.toNatClampNeg v1)) v2 h) (fun z9 =>
  fX11_exchange_b15 v0 v1 v2 z9))))))
set_option maxRecDepth 100000 in
theorem mX11_exchange_b0 {v0 : Nat} {v1 : Int32} {v2 : Option Nat} {h : PH} {r : PH} (hf : fX11_exchange_b0 v0 v1 v2 h = some r) : lez h (hX r) (hV r) := by
  unfold fX11_exchange_b0 at hf
  have hle := lez_rf h
  obtain ⟨hk1, hf⟩ := gd_some hf
  obtain ⟨a2, e3, hf⟩ := gs_some hf
  obtain ⟨⟨hk5, hb4⟩, hf⟩ := gd_some hf
  obtain ⟨a6, e7, hf⟩ := gs_some hf
  obtain ⟨hk8, hf⟩ := gd_some hf
  obtain ⟨z9, hz9, hf⟩ := bd_some hf
  have hle := lez_rt (mX3_follow hz9) hle
  exact lez_rt (mX11_exchange_b15 hf) hle
set_option maxRecDepth 100000 in
theorem wX11_exchange_b0 {E : PE} {p : Program} {l : Launch} {e : Env} {s : State} {m : MethodId} {args : Array Value} {below : List Frame} {meth : Method} {c : Code} {X0 V0 MC MS uc us : Nat} (X : Cx E p l e (rmv 49 MC MS) s m args below meth c RX11 cX11_exchange 5 (none)) (hG : Gs E l) (hnm : meth.name = yX11_exchange.name) {v0 : Nat} {v1 : Int32} {v2 : Option Nat} {h : PH} {r : PH} (hM : MC + X0 = (hX r)) (hN : MS + V0 = (hV r)) (hu : uc + X0 = hX h) (hv : us + V0 = hV h) (hf : fX11_exchange_b0 v0 v1 v2 h = some r)  : PW E p l e (rmv 49 MC MS) s m args below meth c 5 uc us (MQ below (QG E (fun v u => v = none ∧ u = r)) args s MC MS (pA E)) h 0 [(0, some (.ref v0)), (1, some (.int v1)), (2, some (va_rf v2))] [] := by
  have hm1 : lez h (hX r) (hV r) := mX11_exchange_b0 hf
  have hcm : uc ≤ MC := (by have o0 := hm1.1; have o1 := hM; have o2 := hu; (try simp only [hX_sI, hX_sR, hX_sL, hX_sD, hX_sIa, hX_sRa, hV_sI, hV_sR, hV_sL, hV_sD, hV_sIa, hV_sRa, hX_new, hV_new] at o0 o1 o2 ⊢); omega)
  have hsm : us ≤ MS := (by have o0 := hm1.2; have o1 := hN; have o2 := hv; (try simp only [hX_sI, hX_sR, hX_sL, hX_sD, hX_sIa, hX_sRa, hV_sI, hV_sR, hV_sL, hV_sD, hV_sIa, hV_sRa, hX_new, hV_new] at o0 o1 o2 ⊢); omega)
  clear hm1
  unfold fX11_exchange_b0 at hf
  refine p_aload_n X (dcg dc_X11_exchange 0 rfl) rfl rfl ?_
  obtain ⟨hk1, hf⟩ := gd_some hf
  refine p_getR X fl_X11_34 rfl (by decide) (dcg dc_X11_exchange 1 rfl) hk1 ?_
  refine p_iload_n X (dcg dc_X11_exchange 2 rfl) rfl rfl ?_
  refine p_aload_n X (dcg dc_X11_exchange 3 rfl) rfl rfl ?_
  refine p_getR X fl_X11_27 rfl (by decide) (dcg dc_X11_exchange 4 rfl) hk1 ?_
  refine p_iload_n X (dcg dc_X11_exchange 5 rfl) rfl rfl ?_
  obtain ⟨a2, e3, hf⟩ := gs_some hf
  first | subst e3 | (try rw [e3])
  obtain ⟨⟨hk5, hb4⟩, hf⟩ := gd_some hf
  refine p_aald26 X (dcg dc_X11_exchange 6 rfl) hk5 (vp_of_inb hb4) ?_
  refine p_aloadq_n X (dcg dc_X11_exchange 7 rfl) rfl rfl ?_
  obtain ⟨a6, e7, hf⟩ := gs_some hf
  first | subst e7 | (try rw [e7])
  obtain ⟨hk8, hf⟩ := gd_some hf
  obtain ⟨z9, hz9, hf⟩ := bd_some hf
  have hc1 := mX3_follow hz9
  have hm1 : lez _ (hX r) (hV r) := mX11_exchange_b15 hf
  refine p_callV (As := [_, va_rf _, va_rf _]) X ml_X11_339 (dcg dc_X11_exchange 8 rfl) rfl rfl hk8 (wX3_follow hG hz9) (by decide) (room4 (Nat.le_of_ble_eq_true rfl)) (by have o0 := hm1.1; have o1 := hc1.1; have o2 := hM; have o3 := hu; (try simp only [hX_sI, hX_sR, hX_sL, hX_sD, hX_sIa, hX_sRa, hV_sI, hV_sR, hV_sL, hV_sD, hV_sIa, hV_sRa, hX_new, hV_new] at o0 o1 o2 o3 ⊢); omega) (by have o0 := hm1.2; have o1 := hc1.2; have o2 := hN; have o3 := hv; (try simp only [hX_sI, hX_sR, hX_sL, hX_sD, hX_sIa, hX_sRa, hV_sI, hV_sR, hV_sL, hV_sD, hV_sIa, hV_sRa, hX_new, hV_new] at o0 o1 o2 o3 ⊢); omega) ?_
  rintro _ u9 ⟨rfl, e9⟩; have e9 := e9.symm; subst e9
  refine p_pick [0, 1, 2] ?_
  exact wX11_exchange_b15 X hG hnm hM hN (by have o0 := hc1.1; have o1 := hu; (try simp only [hX_sI, hX_sR, hX_sL, hX_sD, hX_sIa, hX_sRa, hV_sI, hV_sR, hV_sL, hV_sD, hV_sIa, hV_sRa, hX_new, hV_new] at o0 o1 ⊢); omega) (by have o0 := hc1.2; have o1 := hv; (try simp only [hX_sI, hX_sR, hX_sL, hX_sD, hX_sIa, hX_sRa, hV_sI, hV_sR, hV_sL, hV_sD, hV_sIa, hV_sRa, hX_new, hV_new] at o0 o1 ⊢); omega) hf 
noncomputable def fX11_exchange (v0 : Nat) (v1 : Int32) (v2 : Option Nat) (h : PH) : Option PH :=
  fX11_exchange_b0 v0 v1 v2 h
set_option maxRecDepth 100000 in
theorem mX11_exchange {v0 : Nat} {v1 : Int32} {v2 : Option Nat} {h : PH} {r : PH} (hf : fX11_exchange v0 v1 v2 h = some r) : lez h (hX r) (hV r) := by
  unfold fX11_exchange at hf
  have hle := lez_rf h
  exact lez_rt (mX11_exchange_b0 hf) hle
set_option maxRecDepth 100000 in
theorem wX11_exchange {E : PE} {l : Launch} (hG : Gs E l) {v0 : Nat} {v1 : Int32} {v2 : Option Nat} {h : PH} {r : PH} (hf : fX11_exchange v0 v1 v2 h = some r) : Ct E l 49 ((hX r) - hX h) ((hV r) - hV h) yX11_exchange cX11_exchange 5 (none) [.ref v0, .int v1, va_rf v2] h (fun v u => v = none ∧ u = r) := by
  have hmm := mX11_exchange hf
  refine ct_of hG (by decide) (by simp [lg_sl, cat_rf, cat_r, cat_i, cat_l, cat_d, cat_f]) ?_
  intro p e s m args below meth c X hnm
  rw [show pargs 0 [.ref v0, .int v1, va_rf v2] = [(0, some (.ref v0)), (1, some (.int v1)), (2, some (va_rf v2))] from by simp [pargs, cat_rf, cat_r, cat_i, cat_l, cat_d, cat_f]]
  unfold fX11_exchange at hf
  have hM := Nat.sub_add_cancel hmm.1
  have hN := Nat.sub_add_cancel hmm.2
  refine p_pick [0, 1, 2] ?_
  exact wX11_exchange_b0 X hG hnm hM hN (Nat.zero_add _) (Nat.zero_add _) hf
theorem dc_X11_change : decs cX11_change [(0, .aload_n 0, 1), (1, .getfield 41, 3), (4, .iload_n 1, 1), (5, .aload_n 0, 1), (6, .getfield 27, 3), (9, .iload_n 1, 1), (10, .aaload, 1), (11, .invokevirtual 336, 3), (14, .aload_n 0, 1), (15, .iload_n 1, 1), (16, .aload_n 2, 1), (17, .invokevirtual 160, 3), (20, .return_, 1)] = true := by decide +kernel
noncomputable def fX11_change_b20  (h : PH) : Option PH :=
  some (h)
set_option maxRecDepth 100000 in
theorem mX11_change_b20  {h : PH} {r : PH} (hf : fX11_change_b20  h = some r) : lez h (hX r) (hV r) := by
  unfold fX11_change_b20 at hf
  have hle := lez_rf h
  have ee := Option.some.inj hf; subst ee; exact hle
set_option maxRecDepth 100000 in
theorem wX11_change_b20 {E : PE} {p : Program} {l : Launch} {e : Env} {s : State} {m : MethodId} {args : Array Value} {below : List Frame} {meth : Method} {c : Code} {X0 V0 MC MS uc us : Nat} (X : Cx E p l e (rmv 50 MC MS) s m args below meth c RX11 cX11_change 3 (none)) (hG : Gs E l) (hnm : meth.name = yX11_change.name)  {h : PH} {r : PH} (hM : MC + X0 = (hX r)) (hN : MS + V0 = (hV r)) (hu : uc + X0 = hX h) (hv : us + V0 = hV h) (hf : fX11_change_b20  h = some r)  : PW E p l e (rmv 50 MC MS) s m args below meth c 3 uc us (MQ below (QG E (fun v u => v = none ∧ u = r)) args s MC MS (pA E)) h 20 [] [] := by
  have hm1 : lez h (hX r) (hV r) := mX11_change_b20 hf
  have hcm : uc ≤ MC := (by have o0 := hm1.1; have o1 := hM; have o2 := hu; (try simp only [hX_sI, hX_sR, hX_sL, hX_sD, hX_sIa, hX_sRa, hV_sI, hV_sR, hV_sL, hV_sD, hV_sIa, hV_sRa, hX_new, hV_new] at o0 o1 o2 ⊢); omega)
  have hsm : us ≤ MS := (by have o0 := hm1.2; have o1 := hN; have o2 := hv; (try simp only [hX_sI, hX_sR, hX_sL, hX_sD, hX_sIa, hX_sRa, hV_sI, hV_sR, hV_sL, hV_sD, hV_sIa, hV_sRa, hX_new, hV_new] at o0 o1 o2 ⊢); omega)
  clear hm1
  unfold fX11_change_b20 at hf
  have er := Option.some.inj hf
  subst er
  exact p_vret X rfl (dcg dc_X11_change 12 rfl) ⟨rfl, rfl⟩ hcm hsm
noncomputable def fX11_change_b0 (v0 : Nat) (v1 : Int32) (v2 : Option Nat) (h : PH) : Option PH :=
  gd (hK h v0 = 11) (gs (hR h 11 v0 2) (fun a2 =>
  gd (hK h a2 = 26 ∧ inb v1 (hN h a2)) (gs (hR h 11 v0 4) (fun a6 =>
  gd (hK h a6 = 5) (bd (fX5_remember a6 v1 (hR h 26 a2 (Int32.toNatClampNeg v1)) h) (fun z9 =>
  gd (hK z9 v0 = 11) (bd (fX11_exchange v0 v1 v2 z9) (fun z11 =>
  fX11_change_b20  z11))))))))
set_option maxRecDepth 100000 in
theorem mX11_change_b0 {v0 : Nat} {v1 : Int32} {v2 : Option Nat} {h : PH} {r : PH} (hf : fX11_change_b0 v0 v1 v2 h = some r) : lez h (hX r) (hV r) := by
  unfold fX11_change_b0 at hf
  have hle := lez_rf h
  obtain ⟨hk1, hf⟩ := gd_some hf
  obtain ⟨a2, e3, hf⟩ := gs_some hf
  obtain ⟨⟨hk5, hb4⟩, hf⟩ := gd_some hf
  obtain ⟨a6, e7, hf⟩ := gs_some hf
  obtain ⟨hk8, hf⟩ := gd_some hf
  obtain ⟨z9, hz9, hf⟩ := bd_some hf
  have hle := lez_rt (lez_eq (mX5_remember hz9)) hle
  obtain ⟨hk10, hf⟩ := gd_some hf
  obtain ⟨z11, hz11, hf⟩ := bd_some hf
  have hle := lez_rt (mX11_exchange hz11) hle
  exact lez_rt (mX11_change_b20 hf) hle
set_option maxRecDepth 100000 in
theorem wX11_change_b0 {E : PE} {p : Program} {l : Launch} {e : Env} {s : State} {m : MethodId} {args : Array Value} {below : List Frame} {meth : Method} {c : Code} {X0 V0 MC MS uc us : Nat} (X : Cx E p l e (rmv 50 MC MS) s m args below meth c RX11 cX11_change 3 (none)) (hG : Gs E l) (hnm : meth.name = yX11_change.name) {v0 : Nat} {v1 : Int32} {v2 : Option Nat} {h : PH} {r : PH} (hM : MC + X0 = (hX r)) (hN : MS + V0 = (hV r)) (hu : uc + X0 = hX h) (hv : us + V0 = hV h) (hf : fX11_change_b0 v0 v1 v2 h = some r)  : PW E p l e (rmv 50 MC MS) s m args below meth c 3 uc us (MQ below (QG E (fun v u => v = none ∧ u = r)) args s MC MS (pA E)) h 0 [(0, some (.ref v0)), (1, some (.int v1)), (2, some (va_rf v2))] [] := by
  have hm1 : lez h (hX r) (hV r) := mX11_change_b0 hf
  have hcm : uc ≤ MC := (by have o0 := hm1.1; have o1 := hM; have o2 := hu; (try simp only [hX_sI, hX_sR, hX_sL, hX_sD, hX_sIa, hX_sRa, hV_sI, hV_sR, hV_sL, hV_sD, hV_sIa, hV_sRa, hX_new, hV_new] at o0 o1 o2 ⊢); omega)
  have hsm : us ≤ MS := (by have o0 := hm1.2; have o1 := hN; have o2 := hv; (try simp only [hX_sI, hX_sR, hX_sL, hX_sD, hX_sIa, hX_sRa, hV_sI, hV_sR, hV_sL, hV_sD, hV_sIa, hV_sRa, hX_new, hV_new] at o0 o1 o2 ⊢); omega)
  clear hm1
  unfold fX11_change_b0 at hf
  refine p_aload_n X (dcg dc_X11_change 0 rfl) rfl rfl ?_
  obtain ⟨hk1, hf⟩ := gd_some hf
  refine p_getR X fl_X11_41 rfl (by decide) (dcg dc_X11_change 1 rfl) hk1 ?_
  refine p_iload_n X (dcg dc_X11_change 2 rfl) rfl rfl ?_
  refine p_aload_n X (dcg dc_X11_change 3 rfl) rfl rfl ?_
  refine p_getR X fl_X11_27 rfl (by decide) (dcg dc_X11_change 4 rfl) hk1 ?_
  refine p_iload_n X (dcg dc_X11_change 5 rfl) rfl rfl ?_
  obtain ⟨a2, e3, hf⟩ := gs_some hf
  first | subst e3 | (try rw [e3])
  obtain ⟨⟨hk5, hb4⟩, hf⟩ := gd_some hf
  refine p_aald26 X (dcg dc_X11_change 6 rfl) hk5 (vp_of_inb hb4) ?_
  obtain ⟨a6, e7, hf⟩ := gs_some hf
  first | subst e7 | (try rw [e7])
  obtain ⟨hk8, hf⟩ := gd_some hf
  obtain ⟨z9, hz9, hf⟩ := bd_some hf
  refine p_callV (As := [_, va_rf _]) X ml_X11_336 (dcg dc_X11_change 7 rfl) rfl rfl hk8 (wX5_remember hG hz9) (by decide) (room4 (Nat.le_of_ble_eq_true rfl)) hcm hsm ?_
  rintro _ u9 ⟨rfl, e9⟩; have e9 := e9.symm; subst e9
  have hu := hu.trans (mX5_remember hz9).1
  have hv := hv.trans (mX5_remember hz9).2
  refine p_aload_n X (dcg dc_X11_change 8 rfl) rfl rfl ?_
  refine p_iload_n X (dcg dc_X11_change 9 rfl) rfl rfl ?_
  refine p_aloadq_n X (dcg dc_X11_change 10 rfl) rfl rfl ?_
  obtain ⟨hk10, hf⟩ := gd_some hf
  obtain ⟨z11, hz11, hf⟩ := bd_some hf
  have hc1 := mX11_exchange hz11
  have hm1 : lez _ (hX r) (hV r) := mX11_change_b20 hf
  refine p_callV (As := [_, va_rf _]) X ml_X11_160 (dcg dc_X11_change 11 rfl) rfl rfl hk10 (wX11_exchange hG hz11) (by decide) (room4 (Nat.le_of_ble_eq_true rfl)) (by have o0 := hm1.1; have o1 := hc1.1; have o2 := hM; have o3 := hu; (try simp only [hX_sI, hX_sR, hX_sL, hX_sD, hX_sIa, hX_sRa, hV_sI, hV_sR, hV_sL, hV_sD, hV_sIa, hV_sRa, hX_new, hV_new] at o0 o1 o2 o3 ⊢); omega) (by have o0 := hm1.2; have o1 := hc1.2; have o2 := hN; have o3 := hv; (try simp only [hX_sI, hX_sR, hX_sL, hX_sD, hX_sIa, hX_sRa, hV_sI, hV_sR, hV_sL, hV_sD, hV_sIa, hV_sRa, hX_new, hV_new] at o0 o1 o2 o3 ⊢); omega) ?_
  rintro _ u9 ⟨rfl, e9⟩; have e9 := e9.symm; subst e9
  refine p_pick [] ?_
  exact wX11_change_b20 X hG hnm hM hN (by have o0 := hc1.1; have o1 := hu; (try simp only [hX_sI, hX_sR, hX_sL, hX_sD, hX_sIa, hX_sRa, hV_sI, hV_sR, hV_sL, hV_sD, hV_sIa, hV_sRa, hX_new, hV_new] at o0 o1 ⊢); omega) (by have o0 := hc1.2; have o1 := hv; (try simp only [hX_sI, hX_sR, hX_sL, hX_sD, hX_sIa, hX_sRa, hV_sI, hV_sR, hV_sL, hV_sD, hV_sIa, hV_sRa, hX_new, hV_new] at o0 o1 ⊢); omega) hf 
noncomputable def fX11_change (v0 : Nat) (v1 : Int32) (v2 : Option Nat) (h : PH) : Option PH :=
  fX11_change_b0 v0 v1 v2 h
set_option maxRecDepth 100000 in
theorem mX11_change {v0 : Nat} {v1 : Int32} {v2 : Option Nat} {h : PH} {r : PH} (hf : fX11_change v0 v1 v2 h = some r) : lez h (hX r) (hV r) := by
  unfold fX11_change at hf
  have hle := lez_rf h
  exact lez_rt (mX11_change_b0 hf) hle
set_option maxRecDepth 100000 in
theorem wX11_change {E : PE} {l : Launch} (hG : Gs E l) {v0 : Nat} {v1 : Int32} {v2 : Option Nat} {h : PH} {r : PH} (hf : fX11_change v0 v1 v2 h = some r) : Ct E l 50 ((hX r) - hX h) ((hV r) - hV h) yX11_change cX11_change 3 (none) [.ref v0, .int v1, va_rf v2] h (fun v u => v = none ∧ u = r) := by
  have hmm := mX11_change hf
  refine ct_of hG (by decide) (by simp [lg_sl, cat_rf, cat_r, cat_i, cat_l, cat_d, cat_f]) ?_
  intro p e s m args below meth c X hnm
  rw [show pargs 0 [.ref v0, .int v1, va_rf v2] = [(0, some (.ref v0)), (1, some (.int v1)), (2, some (va_rf v2))] from by simp [pargs, cat_rf, cat_r, cat_i, cat_l, cat_d, cat_f]]
  unfold fX11_change at hf
  have hM := Nat.sub_add_cancel hmm.1
  have hN := Nat.sub_add_cancel hmm.2
  refine p_pick [0, 1, 2] ?_
  exact wX11_change_b0 X hG hnm hM hN (Nat.zero_add _) (Nat.zero_add _) hf
theorem dc_X11_addText : decs cX11_addText [(0, .aload_n 0, 1), (1, .invokevirtual 104, 3), (4, .istore_n 1, 1), (5, .iload_n 1, 1), (6, .iconst (-1), 1), (7, .if_icmp .ne 11, 3), (10, .new 94, 3), (13, .dup, 1), (14, .invokespecial 96, 3), (17, .athrow, 1), (18, .aload_n 0, 1), (19, .getfield 10, 3), (22, .invokevirtual 108, 3), (25, .astore_n 2, 1), (26, .aload_n 2, 1), (27, .ifnonnull 11, 3), (30, .new 112, 3), (33, .dup, 1), (34, .invokespecial 114, 3), (37, .athrow, 1), (38, .aload_n 0, 1), (39, .iload_n 1, 1), (40, .aload_n 2, 1), (41, .invokevirtual 115, 3), (44, .iload_n 1, 1), (45, .ireturn, 1)] = true := by decide +kernel
noncomputable def fX11_addText_b44 (v1 : Int32) (h : PH) : Option ((Int32 × PH) ⊕ (Nat × PH)) :=
  some (.inl ((v1, h)))
set_option maxRecDepth 100000 in
theorem mX11_addText_b44 {v1 : Int32} {h : PH} {r : ((Int32 × PH) ⊕ (Nat × PH))} (hf : fX11_addText_b44 v1 h = some r) : lez h (xT2 r) (vT2 r) := by
  unfold fX11_addText_b44 at hf
  have hle := lez_rf h
  have ee := Option.some.inj hf; subst ee; exact hle
set_option maxRecDepth 100000 in
theorem wX11_addText_b44 {E : PE} {p : Program} {l : Launch} {e : Env} {s : State} {m : MethodId} {args : Array Value} {below : List Frame} {meth : Method} {c : Code} {X0 V0 MC MS uc us : Nat} (X : Cx E p l e (rmv 51 MC MS) s m args below meth c RX11 cX11_addText 3 (some .int)) (hG : Gs E l) (hex : ∀ x ∈ c.exceptionTable.toList, False) {v1 : Int32} {h : PH} {r : ((Int32 × PH) ⊕ (Nat × PH))} (hM : MC + X0 = (xT2 r)) (hN : MS + V0 = (vT2 r)) (hu : uc + X0 = hX h) (hv : us + V0 = hV h) (hf : fX11_addText_b44 v1 h = some r)  : PW E p l e (rmv 51 MC MS) s m args below meth c 3 uc us (vx_MQ below (QG E (fun v u => ∃ z, r = .inl z ∧ v = some (.int z.1) ∧ u = z.2)) (XG E (fun En u => ∃ (z : Nat × PH) (n : Nat), r = .inr z ∧ En = exn z.1 ∧ hX z.2 ≤ n ∧ u = hbump z.2 n)) args s MC MS (pA E)) h 44 [(1, some (.int v1))] [] := by
  have hm1 : lez h (xT2 r) (vT2 r) := mX11_addText_b44 hf
  have hcm : uc ≤ MC := (by have o0 := hm1.1; have o1 := hM; have o2 := hu; (try simp only [hX_sI, hX_sR, hX_sL, hX_sD, hX_sIa, hX_sRa, hV_sI, hV_sR, hV_sL, hV_sD, hV_sIa, hV_sRa, hX_new, hV_new] at o0 o1 o2 ⊢); omega)
  have hsm : us ≤ MS := (by have o0 := hm1.2; have o1 := hN; have o2 := hv; (try simp only [hX_sI, hX_sR, hX_sL, hX_sD, hX_sIa, hX_sRa, hV_sI, hV_sR, hV_sL, hV_sD, hV_sIa, hV_sRa, hX_new, hV_new] at o0 o1 o2 ⊢); omega)
  clear hm1
  unfold fX11_addText_b44 at hf
  refine p_iload_n X (dcg dc_X11_addText 24 rfl) rfl rfl ?_
  have er := Option.some.inj hf
  subst er
  refine p_vx ?_
  exact p_iret X rfl (dcg dc_X11_addText 25 rfl) ⟨_, rfl, rfl, rfl⟩ hcm hsm
noncomputable def fX11_addText_b25 (v0 : Nat) (v1 : Int32) (t0 : Option Nat) (h : PH) : Option ((Int32 × PH) ⊕ (Nat × PH)) :=
  mq t0 (some (.inr (1, h))) (fun a7 =>
  gd (hK h v0 = 11) (bd (fX11_change v0 v1 (some a7) h) (fun z9 =>
  fX11_addText_b44 v1 z9)))
set_option maxRecDepth 100000 in
theorem mX11_addText_b25 {v0 : Nat} {v1 : Int32} {t0 : Option Nat} {h : PH} {r : ((Int32 × PH) ⊕ (Nat × PH))} (hf : fX11_addText_b25 v0 v1 t0 h = some r) : lez h (xT2 r) (vT2 r) := by
  unfold fX11_addText_b25 at hf
  have hle := lez_rf h
  rcases mq_or hf with ⟨q, hf⟩ | ⟨a7, q, hf⟩
  · have hf := mq_n q hf
    cases hf; exact lez_up hle
  · have hk10 := mq_s q hf
    first | subst q | skip
    have hf := hk10
    obtain ⟨hk8, hf⟩ := gd_some hf
    obtain ⟨z9, hz9, hf⟩ := bd_some hf
    have hle := lez_rt (mX11_change hz9) hle
    exact lez_rt (mX11_addText_b44 hf) hle
set_option maxRecDepth 100000 in
theorem wX11_addText_b25 {E : PE} {p : Program} {l : Launch} {e : Env} {s : State} {m : MethodId} {args : Array Value} {below : List Frame} {meth : Method} {c : Code} {X0 V0 MC MS uc us : Nat} (X : Cx E p l e (rmv 51 MC MS) s m args below meth c RX11 cX11_addText 3 (some .int)) (hG : Gs E l) (hex : ∀ x ∈ c.exceptionTable.toList, False) {v0 : Nat} {v1 : Int32} {t0 : Option Nat} {h : PH} {r : ((Int32 × PH) ⊕ (Nat × PH))} (hM : MC + X0 = (xT2 r)) (hN : MS + V0 = (vT2 r)) (hu : uc + X0 = hX h) (hv : us + V0 = hV h) (hf : fX11_addText_b25 v0 v1 t0 h = some r)  : PW E p l e (rmv 51 MC MS) s m args below meth c 3 uc us (vx_MQ below (QG E (fun v u => ∃ z, r = .inl z ∧ v = some (.int z.1) ∧ u = z.2)) (XG E (fun En u => ∃ (z : Nat × PH) (n : Nat), r = .inr z ∧ En = exn z.1 ∧ hX z.2 ≤ n ∧ u = hbump z.2 n)) args s MC MS (pA E)) h 25 [(0, some (.ref v0)), (1, some (.int v1))] [va_rf t0] := by
  have hm1 : lez h (xT2 r) (vT2 r) := mX11_addText_b25 hf
  have hcm : uc ≤ MC := (by have o0 := hm1.1; have o1 := hM; have o2 := hu; (try simp only [hX_sI, hX_sR, hX_sL, hX_sD, hX_sIa, hX_sRa, hV_sI, hV_sR, hV_sL, hV_sD, hV_sIa, hV_sRa, hX_new, hV_new] at o0 o1 o2 ⊢); omega)
  have hsm : us ≤ MS := (by have o0 := hm1.2; have o1 := hN; have o2 := hv; (try simp only [hX_sI, hX_sR, hX_sL, hX_sD, hX_sIa, hX_sRa, hV_sI, hV_sR, hV_sL, hV_sD, hV_sIa, hV_sRa, hX_new, hV_new] at o0 o1 o2 ⊢); omega)
  clear hm1
  unfold fX11_addText_b25 at hf
  refine p_astoreq_n X (dcg dc_X11_addText 13 rfl) rfl (by decide) rfl ?_
  refine p_aloadq_n X (dcg dc_X11_addText 14 rfl) rfl rfl ?_
  refine p_ifnonnull (tgt := 38) X (dcg dc_X11_addText 15 rfl) (by decide) (fun a7 q => ?_) (fun q => ?_)
  · have hk10 := mq_s q hf
    first | subst q | (try rw [q])
    have hf := hk10
    refine p_aload_n X (dcg dc_X11_addText 20 rfl) rfl rfl ?_
    refine p_iload_n X (dcg dc_X11_addText 21 rfl) rfl rfl ?_
    refine p_aload_n X (dcg dc_X11_addText 22 rfl) rfl rfl ?_
    obtain ⟨hk8, hf⟩ := gd_some hf
    obtain ⟨z9, hz9, hf⟩ := bd_some hf
    have hc1 := mX11_change hz9
    have hm1 : lez _ (xT2 r) (vT2 r) := mX11_addText_b44 hf
    refine p_callV (As := [_, va_rf (some _)]) X ml_X11_115 (dcg dc_X11_addText 23 rfl) rfl rfl hk8 (wX11_change hG hz9) (by decide) (room4 (Nat.le_of_ble_eq_true rfl)) (by have o0 := hm1.1; have o1 := hc1.1; have o2 := hM; have o3 := hu; (try simp only [hX_sI, hX_sR, hX_sL, hX_sD, hX_sIa, hX_sRa, hV_sI, hV_sR, hV_sL, hV_sD, hV_sIa, hV_sRa, hX_new, hV_new] at o0 o1 o2 o3 ⊢); omega) (by have o0 := hm1.2; have o1 := hc1.2; have o2 := hN; have o3 := hv; (try simp only [hX_sI, hX_sR, hX_sL, hX_sD, hX_sIa, hX_sRa, hV_sI, hV_sR, hV_sL, hV_sD, hV_sIa, hV_sRa, hX_new, hV_new] at o0 o1 o2 o3 ⊢); omega) ?_
    rintro _ u9 ⟨rfl, e9⟩; have e9 := e9.symm; subst e9
    refine p_pick [1] ?_
    exact wX11_addText_b44 X hG hex hM hN (by have o0 := hc1.1; have o1 := hu; (try simp only [hX_sI, hX_sR, hX_sL, hX_sD, hX_sIa, hX_sRa, hV_sI, hV_sR, hV_sL, hV_sD, hV_sIa, hV_sRa, hX_new, hV_new] at o0 o1 ⊢); omega) (by have o0 := hc1.2; have o1 := hv; (try simp only [hX_sI, hX_sR, hX_sL, hX_sD, hX_sIa, hX_sRa, hV_sI, hV_sR, hV_sL, hV_sD, hV_sIa, hV_sRa, hX_new, hV_new] at o0 o1 ⊢); omega) hf 
  · have hk10 := mq_n q hf
    first | subst q | (try rw [q])
    have hf := hk10
    have er := Option.some.inj hf
    subst er
    exact p_throw0 (cls := "java/lang/IllegalArgumentException") (names := ["java/lang/RuntimeException", "java/lang/Exception"]) X hex (by decide) (by decide) tw_1180 tw_122 th_X11_114a th_X11_114b th_X11_114c th_X11_114d (dcg dc_X11_addText 16 rfl) (dcg dc_X11_addText 17 rfl) (dcg dc_X11_addText 18 rfl) (dcg dc_X11_addText 19 rfl) (Nat.le_of_ble_eq_true rfl) (Nat.le_trans (Nat.add_le_add_right (room4 (Nat.le_of_ble_eq_true rfl)) _) (Nat.le_of_ble_eq_true rfl)) (show uc + 1 ≤ MC from (by have o0 := (show MC + X0 = hX h + 1 from hM); have o1 := hu; (try simp only [hX_sI, hX_sR, hX_sL, hX_sD, hX_sIa, hX_sRa, hV_sI, hV_sR, hV_sL, hV_sD, hV_sIa, hV_sRa, hX_new, hV_new] at o0 o1 ⊢); omega)) (show us + 6 ≤ MS from (by have o0 := (show MS + V0 = hV h + 6 from hN); have o1 := hv; (try simp only [hX_sI, hX_sR, hX_sL, hX_sD, hX_sIa, hX_sRa, hV_sI, hV_sR, hV_sL, hV_sD, hV_sIa, hV_sRa, hX_new, hV_new] at o0 o1 ⊢); omega)) (show uc + 1 ≤ MC from (by have o0 := (show MC + X0 = hX h + 1 from hM); have o1 := hu; (try simp only [hX_sI, hX_sR, hX_sL, hX_sD, hX_sIa, hX_sRa, hV_sI, hV_sR, hV_sL, hV_sD, hV_sIa, hV_sRa, hX_new, hV_new] at o0 o1 ⊢); omega)) (show us + 6 ≤ MS from (by have o0 := (show MS + V0 = hV h + 6 from hN); have o1 := hv; (try simp only [hX_sI, hX_sR, hX_sL, hX_sD, hX_sIa, hX_sRa, hV_sI, hV_sR, hV_sL, hV_sD, hV_sIa, hV_sRa, hX_new, hV_new] at o0 o1 ⊢); omega)) (fun n hn => ⟨_, n, rfl, rfl, hn, rfl⟩)
noncomputable def fX11_addText_b0 (v0 : Nat) (h : PH) : Option ((Int32 × PH) ⊕ (Nat × PH)) :=
  gd (hK h v0 = 11) (bd (fX11_freeNumber v0 h) (fun z2 =>
  if (¬ z2 = (-1 : Int32)) then (gs (hR h 11 v0 0) (fun a3 =>
  gd (hK h a3 = 7) (bd (fX7_takeText a3 h) (fun z6 =>
  fX11_addText_b25 v0 z2 z6.1 z6.2)))) else
  some (.inr (0, h))))
set_option maxRecDepth 100000 in
theorem mX11_addText_b0 {v0 : Nat} {h : PH} {r : ((Int32 × PH) ⊕ (Nat × PH))} (hf : fX11_addText_b0 v0 h = some r) : lez h (xT2 r) (vT2 r) := by
  unfold fX11_addText_b0 at hf
  have hle := lez_rf h
  obtain ⟨hk1, hf⟩ := gd_some hf
  obtain ⟨z2, hz2, hf⟩ := bd_some hf
  rcases ite_or hf with ⟨q, hf⟩ | ⟨q, hf⟩
  · have hf := if_t q hf
    obtain ⟨a3, e4, hf⟩ := gs_some hf
    obtain ⟨hk5, hf⟩ := gd_some hf
    obtain ⟨z6, hz6, hf⟩ := bd_some hf
    have hle := lez_rt (mX7_takeText hz6) hle
    exact lez_rt (mX11_addText_b25 hf) hle
  · have hf := if_f q hf
    cases hf; exact lez_up hle
set_option maxRecDepth 100000 in
theorem wX11_addText_b0 {E : PE} {p : Program} {l : Launch} {e : Env} {s : State} {m : MethodId} {args : Array Value} {below : List Frame} {meth : Method} {c : Code} {X0 V0 MC MS uc us : Nat} (X : Cx E p l e (rmv 51 MC MS) s m args below meth c RX11 cX11_addText 3 (some .int)) (hG : Gs E l) (hex : ∀ x ∈ c.exceptionTable.toList, False) {v0 : Nat} {h : PH} {r : ((Int32 × PH) ⊕ (Nat × PH))} (hM : MC + X0 = (xT2 r)) (hN : MS + V0 = (vT2 r)) (hu : uc + X0 = hX h) (hv : us + V0 = hV h) (hf : fX11_addText_b0 v0 h = some r)  : PW E p l e (rmv 51 MC MS) s m args below meth c 3 uc us (vx_MQ below (QG E (fun v u => ∃ z, r = .inl z ∧ v = some (.int z.1) ∧ u = z.2)) (XG E (fun En u => ∃ (z : Nat × PH) (n : Nat), r = .inr z ∧ En = exn z.1 ∧ hX z.2 ≤ n ∧ u = hbump z.2 n)) args s MC MS (pA E)) h 0 [(0, some (.ref v0))] [] := by
  have hm1 : lez h (xT2 r) (vT2 r) := mX11_addText_b0 hf
  have hcm : uc ≤ MC := (by have o0 := hm1.1; have o1 := hM; have o2 := hu; (try simp only [hX_sI, hX_sR, hX_sL, hX_sD, hX_sIa, hX_sRa, hV_sI, hV_sR, hV_sL, hV_sD, hV_sIa, hV_sRa, hX_new, hV_new] at o0 o1 o2 ⊢); omega)
  have hsm : us ≤ MS := (by have o0 := hm1.2; have o1 := hN; have o2 := hv; (try simp only [hX_sI, hX_sR, hX_sL, hX_sD, hX_sIa, hX_sRa, hV_sI, hV_sR, hV_sL, hV_sD, hV_sIa, hV_sRa, hX_new, hV_new] at o0 o1 o2 ⊢); omega)
  clear hm1
  unfold fX11_addText_b0 at hf
  refine p_aload_n X (dcg dc_X11_addText 0 rfl) rfl rfl ?_
  obtain ⟨hk1, hf⟩ := gd_some hf
  obtain ⟨z2, hz2, hf⟩ := bd_some hf
  refine p_callV (As := []) X ml_X11_104 (dcg dc_X11_addText 1 rfl) rfl rfl hk1 (wX11_freeNumber hG hz2) (by decide) (room4 (Nat.le_of_ble_eq_true rfl)) hcm hsm ?_
  rintro _ u9 ⟨rfl, e9⟩; have e9 := e9.symm; subst e9
  refine p_istore_n X (dcg dc_X11_addText 2 rfl) rfl (by decide) rfl ?_
  refine p_iload_n X (dcg dc_X11_addText 3 rfl) rfl rfl ?_
  refine p_iconst (v := -1) X (dcg dc_X11_addText 4 rfl) (by decide) ?_
  refine p_icmp_ne (tgt := 18) X (dcg dc_X11_addText 5 rfl) (by decide) (fun q => ?_) (fun q => ?_)
  · have hf := if_t q hf
    refine p_aload_n X (dcg dc_X11_addText 10 rfl) rfl rfl ?_
    refine p_getR X fl_X11_10 rfl (by decide) (dcg dc_X11_addText 11 rfl) hk1 ?_
    obtain ⟨a3, e4, hf⟩ := gs_some hf
    first | subst e4 | (try rw [e4])
    obtain ⟨hk5, hf⟩ := gd_some hf
    obtain ⟨z6, hz6, hf⟩ := bd_some hf
    have hc1 := mX7_takeText hz6
    have hm1 : lez _ (xT2 r) (vT2 r) := mX11_addText_b25 hf
    refine p_callV (As := []) X ml_X11_108 (dcg dc_X11_addText 12 rfl) rfl rfl hk5 (wX7_takeText hG hz6) (by decide) (room4 (Nat.le_of_ble_eq_true rfl)) (by have o0 := hm1.1; have o1 := hc1.1; have o2 := hM; have o3 := hu; (try simp only [hX_sI, hX_sR, hX_sL, hX_sD, hX_sIa, hX_sRa, hV_sI, hV_sR, hV_sL, hV_sD, hV_sIa, hV_sRa, hX_new, hV_new] at o0 o1 o2 o3 ⊢); omega) (by have o0 := hm1.2; have o1 := hc1.2; have o2 := hN; have o3 := hv; (try simp only [hX_sI, hX_sR, hX_sL, hX_sD, hX_sIa, hX_sRa, hV_sI, hV_sR, hV_sL, hV_sD, hV_sIa, hV_sRa, hX_new, hV_new] at o0 o1 o2 o3 ⊢); omega) ?_
    rintro _ u9 ⟨rfl, e9⟩; have e9 := e9.symm; subst e9
    refine p_pick [0, 1] ?_
    exact wX11_addText_b25 X hG hex hM hN (by have o0 := hc1.1; have o1 := hu; (try simp only [hX_sI, hX_sR, hX_sL, hX_sD, hX_sIa, hX_sRa, hV_sI, hV_sR, hV_sL, hV_sD, hV_sIa, hV_sRa, hX_new, hV_new] at o0 o1 ⊢); omega) (by have o0 := hc1.2; have o1 := hv; (try simp only [hX_sI, hX_sR, hX_sL, hX_sD, hX_sIa, hX_sRa, hV_sI, hV_sR, hV_sL, hV_sD, hV_sIa, hV_sRa, hX_new, hV_new] at o0 o1 ⊢); omega) hf 
  · have hf := if_f q hf
    have er := Option.some.inj hf
    subst er
    exact p_throw0 (cls := "java/lang/IllegalStateException") (names := ["java/lang/RuntimeException", "java/lang/Exception"]) X hex (by decide) (by decide) tw_1121 tw_121 th_X11_96a th_X11_96b th_X11_96c th_X11_96d (dcg dc_X11_addText 6 rfl) (dcg dc_X11_addText 7 rfl) (dcg dc_X11_addText 8 rfl) (dcg dc_X11_addText 9 rfl) (Nat.le_of_ble_eq_true rfl) (Nat.le_trans (Nat.add_le_add_right (room4 (Nat.le_of_ble_eq_true rfl)) _) (Nat.le_of_ble_eq_true rfl)) (show uc + 1 ≤ MC from (by have o0 := (show MC + X0 = hX h + 1 from hM); have o1 := hu; (try simp only [hX_sI, hX_sR, hX_sL, hX_sD, hX_sIa, hX_sRa, hV_sI, hV_sR, hV_sL, hV_sD, hV_sIa, hV_sRa, hX_new, hV_new] at o0 o1 ⊢); omega)) (show us + 6 ≤ MS from (by have o0 := (show MS + V0 = hV h + 6 from hN); have o1 := hv; (try simp only [hX_sI, hX_sR, hX_sL, hX_sD, hX_sIa, hX_sRa, hV_sI, hV_sR, hV_sL, hV_sD, hV_sIa, hV_sRa, hX_new, hV_new] at o0 o1 ⊢); omega)) (show uc + 1 ≤ MC from (by have o0 := (show MC + X0 = hX h + 1 from hM); have o1 := hu; (try simp only [hX_sI, hX_sR, hX_sL, hX_sD, hX_sIa, hX_sRa, hV_sI, hV_sR, hV_sL, hV_sD, hV_sIa, hV_sRa, hX_new, hV_new] at o0 o1 ⊢); omega)) (show us + 6 ≤ MS from (by have o0 := (show MS + V0 = hV h + 6 from hN); have o1 := hv; (try simp only [hX_sI, hX_sR, hX_sL, hX_sD, hX_sIa, hX_sRa, hV_sI, hV_sR, hV_sL, hV_sD, hV_sIa, hV_sRa, hX_new, hV_new] at o0 o1 ⊢); omega)) (fun n hn => ⟨_, n, rfl, rfl, hn, rfl⟩)
noncomputable def fX11_addText (v0 : Nat) (h : PH) : Option ((Int32 × PH) ⊕ (Nat × PH)) :=
  fX11_addText_b0 v0 h
set_option maxRecDepth 100000 in
theorem mX11_addText {v0 : Nat} {h : PH} {r : ((Int32 × PH) ⊕ (Nat × PH))} (hf : fX11_addText v0 h = some r) : lez h (xT2 r) (vT2 r) := by
  unfold fX11_addText at hf
  have hle := lez_rf h
  exact lez_rt (mX11_addText_b0 hf) hle
set_option maxRecDepth 100000 in
theorem wX11_addText {E : PE} {l : Launch} (hG : Gs E l) {v0 : Nat} {h : PH} {r : ((Int32 × PH) ⊕ (Nat × PH))} (hf : fX11_addText v0 h = some r) : CtX E l 51 ((xT2 r) - hX h) ((vT2 r) - hV h) yX11_addText cX11_addText 3 (some .int) [.ref v0] h (fun v u => ∃ z, r = .inl z ∧ v = some (.int z.1) ∧ u = z.2) (fun En u => ∃ (z : Nat × PH) (n : Nat), r = .inr z ∧ En = exn z.1 ∧ hX z.2 ≤ n ∧ u = hbump z.2 n) := by
  have hmm := mX11_addText hf
  refine ctx_of hG (by decide) (Nat.le_of_ble_eq_true rfl) ?_
  intro p e s m args below meth c X hex
  show PW E p l e _ s m args below meth c _ 0 0 _ h 0 [(0, some (.ref v0))] []
  unfold fX11_addText at hf
  have hM := Nat.sub_add_cancel hmm.1
  have hN := Nat.sub_add_cancel hmm.2
  refine p_pick [0] ?_
  exact wX11_addText_b0 X hG hex hM hN (Nat.zero_add _) (Nat.zero_add _) hf
theorem dc_X11_demandText : decs cX11_demandText [(0, .iload_n 1, 1), (1, .ifCond .lt 18, 3), (4, .iload_n 1, 1), (5, .bipush 100, 2), (7, .if_icmp .ge 12, 3), (10, .aload_n 0, 1), (11, .getfield 27, 3), (14, .iload_n 1, 1), (15, .aaload, 1), (16, .ifnonnull 11, 3), (19, .new 125, 3), (22, .dup, 1), (23, .invokespecial 127, 3), (26, .athrow, 1), (27, .aload_n 0, 1), (28, .getfield 27, 3), (31, .iload_n 1, 1), (32, .aaload, 1), (33, .areturn, 1)] = true := by decide +kernel
noncomputable def fX11_demandText_b19  (h : PH) : Option ((Option Nat × PH) ⊕ (Nat × PH)) :=
  some (.inr (2, h))
set_option maxRecDepth 100000 in
theorem mX11_demandText_b19  {h : PH} {r : ((Option Nat × PH) ⊕ (Nat × PH))} (hf : fX11_demandText_b19  h = some r) : lez h (xT2 r) (vT2 r) := by
  unfold fX11_demandText_b19 at hf
  have hle := lez_rf h
  cases hf; exact lez_up hle
set_option maxRecDepth 100000 in
theorem wX11_demandText_b19 {E : PE} {p : Program} {l : Launch} {e : Env} {s : State} {m : MethodId} {args : Array Value} {below : List Frame} {meth : Method} {c : Code} {X0 V0 MC MS uc us : Nat} (X : Cx E p l e (rmv 8 MC MS) s m args below meth c RX11 cX11_demandText 2 (some (.object "WordFinder$Text"))) (hG : Gs E l) (hex : ∀ x ∈ c.exceptionTable.toList, False)  {h : PH} {r : ((Option Nat × PH) ⊕ (Nat × PH))} (hM : MC + X0 = (xT2 r)) (hN : MS + V0 = (vT2 r)) (hu : uc + X0 = hX h) (hv : us + V0 = hV h) (hf : fX11_demandText_b19  h = some r)  : PW E p l e (rmv 8 MC MS) s m args below meth c 2 uc us (vx_MQ below (QG E (fun v u => ∃ z, r = .inl z ∧ v = some (va_rf z.1) ∧ u = z.2)) (XG E (fun En u => ∃ (z : Nat × PH) (n : Nat), r = .inr z ∧ En = exn z.1 ∧ hX z.2 ≤ n ∧ u = hbump z.2 n)) args s MC MS (pA E)) h 19 [] [] := by
  have hm1 : lez h (xT2 r) (vT2 r) := mX11_demandText_b19 hf
  have hcm : uc ≤ MC := (by have o0 := hm1.1; have o1 := hM; have o2 := hu; (try simp only [hX_sI, hX_sR, hX_sL, hX_sD, hX_sIa, hX_sRa, hV_sI, hV_sR, hV_sL, hV_sD, hV_sIa, hV_sRa, hX_new, hV_new] at o0 o1 o2 ⊢); omega)
  have hsm : us ≤ MS := (by have o0 := hm1.2; have o1 := hN; have o2 := hv; (try simp only [hX_sI, hX_sR, hX_sL, hX_sD, hX_sIa, hX_sRa, hV_sI, hV_sR, hV_sL, hV_sD, hV_sIa, hV_sRa, hX_new, hV_new] at o0 o1 o2 ⊢); omega)
  clear hm1
  unfold fX11_demandText_b19 at hf
  have er := Option.some.inj hf
  subst er
  exact p_throw0 (cls := "java/lang/IndexOutOfBoundsException") (names := ["java/lang/RuntimeException", "java/lang/Exception"]) X hex (by decide) (by decide) tw_1205 tw_127 th_X11_127a th_X11_127b th_X11_127c th_X11_127d (dcg dc_X11_demandText 10 rfl) (dcg dc_X11_demandText 11 rfl) (dcg dc_X11_demandText 12 rfl) (dcg dc_X11_demandText 13 rfl) (Nat.le_of_ble_eq_true rfl) (Nat.le_trans (Nat.add_le_add_right (room4 (Nat.le_of_ble_eq_true rfl)) _) (Nat.le_of_ble_eq_true rfl)) (show uc + 1 ≤ MC from (by have o0 := (show MC + X0 = hX h + 1 from hM); have o1 := hu; (try simp only [hX_sI, hX_sR, hX_sL, hX_sD, hX_sIa, hX_sRa, hV_sI, hV_sR, hV_sL, hV_sD, hV_sIa, hV_sRa, hX_new, hV_new] at o0 o1 ⊢); omega)) (show us + 6 ≤ MS from (by have o0 := (show MS + V0 = hV h + 6 from hN); have o1 := hv; (try simp only [hX_sI, hX_sR, hX_sL, hX_sD, hX_sIa, hX_sRa, hV_sI, hV_sR, hV_sL, hV_sD, hV_sIa, hV_sRa, hX_new, hV_new] at o0 o1 ⊢); omega)) (show uc + 1 ≤ MC from (by have o0 := (show MC + X0 = hX h + 1 from hM); have o1 := hu; (try simp only [hX_sI, hX_sR, hX_sL, hX_sD, hX_sIa, hX_sRa, hV_sI, hV_sR, hV_sL, hV_sD, hV_sIa, hV_sRa, hX_new, hV_new] at o0 o1 ⊢); omega)) (show us + 6 ≤ MS from (by have o0 := (show MS + V0 = hV h + 6 from hN); have o1 := hv; (try simp only [hX_sI, hX_sR, hX_sL, hX_sD, hX_sIa, hX_sRa, hV_sI, hV_sR, hV_sL, hV_sD, hV_sIa, hV_sRa, hX_new, hV_new] at o0 o1 ⊢); omega)) (fun n hn => ⟨_, n, rfl, rfl, hn, rfl⟩)
noncomputable def fX11_demandText_b0 (v0 : Nat) (v1 : Int32) (h : PH) : Option ((Option Nat × PH) ⊕ (Nat × PH)) :=
  if (v1 < 0) then (fX11_demandText_b19  h) else
  if ((100 : Int32) ≤ v1) then (fX11_demandText_b19  h) else
  gd (hK h v0 = 11) (gs (hR h 11 v0 2) (fun a2 =>
  gd (hK h a2 = 26 ∧ inb v1 (hN h a2)) (mq (hR h 26 a2 (Int32.toNatClampNeg v1)) (fX11_demandText_b19  h) (fun a6 =>
  gs (hR h 11 v0 2) (fun a7 =>
  gd (hK h a7 = 26 ∧ inb v1 (hN h a7)) (some (.inl (((hR h 26 a7 (Int32.toNatClampNeg v1)), h)))))))))
set_option maxRecDepth 100000 in
theorem mX11_demandText_b0 {v0 : Nat} {v1 : Int32} {h : PH} {r : ((Option Nat × PH) ⊕ (Nat × PH))} (hf : fX11_demandText_b0 v0 v1 h = some r) : lez h (xT2 r) (vT2 r) := by
  unfold fX11_demandText_b0 at hf
  have hle := lez_rf h
  rcases ite_or hf with ⟨q, hf⟩ | ⟨q, hf⟩
  · have hf := if_t q hf
    exact lez_rt (mX11_demandText_b19 hf) hle
  · have hf := if_f q hf
    rcases ite_or hf with ⟨q, hf⟩ | ⟨q, hf⟩
    · have hf := if_t q hf
      exact lez_rt (mX11_demandText_b19 hf) hle
    · have hf := if_f q hf
      obtain ⟨hk1, hf⟩ := gd_some hf
      obtain ⟨a2, e3, hf⟩ := gs_some hf
      obtain ⟨⟨hk5, hb4⟩, hf⟩ := gd_some hf
      rcases mq_or hf with ⟨q, hf⟩ | ⟨a6, q, hf⟩
      · have hf := mq_n q hf
        exact lez_rt (mX11_demandText_b19 hf) hle
      · have hk11 := mq_s q hf
        first | subst q | skip
        have hf := hk11
        obtain ⟨a7, e8, hf⟩ := gs_some hf
        obtain ⟨⟨hk10, hb9⟩, hf⟩ := gd_some hf
        have ee := Option.some.inj hf; subst ee; exact hle
set_option maxRecDepth 100000 in
theorem wX11_demandText_b0 {E : PE} {p : Program} {l : Launch} {e : Env} {s : State} {m : MethodId} {args : Array Value} {below : List Frame} {meth : Method} {c : Code} {X0 V0 MC MS uc us : Nat} (X : Cx E p l e (rmv 8 MC MS) s m args below meth c RX11 cX11_demandText 2 (some (.object "WordFinder$Text"))) (hG : Gs E l) (hex : ∀ x ∈ c.exceptionTable.toList, False) {v0 : Nat} {v1 : Int32} {h : PH} {r : ((Option Nat × PH) ⊕ (Nat × PH))} (hM : MC + X0 = (xT2 r)) (hN : MS + V0 = (vT2 r)) (hu : uc + X0 = hX h) (hv : us + V0 = hV h) (hf : fX11_demandText_b0 v0 v1 h = some r)  : PW E p l e (rmv 8 MC MS) s m args below meth c 2 uc us (vx_MQ below (QG E (fun v u => ∃ z, r = .inl z ∧ v = some (va_rf z.1) ∧ u = z.2)) (XG E (fun En u => ∃ (z : Nat × PH) (n : Nat), r = .inr z ∧ En = exn z.1 ∧ hX z.2 ≤ n ∧ u = hbump z.2 n)) args s MC MS (pA E)) h 0 [(0, some (.ref v0)), (1, some (.int v1))] [] := by
  have hm1 : lez h (xT2 r) (vT2 r) := mX11_demandText_b0 hf
  have hcm : uc ≤ MC := (by have o0 := hm1.1; have o1 := hM; have o2 := hu; (try simp only [hX_sI, hX_sR, hX_sL, hX_sD, hX_sIa, hX_sRa, hV_sI, hV_sR, hV_sL, hV_sD, hV_sIa, hV_sRa, hX_new, hV_new] at o0 o1 o2 ⊢); omega)
  have hsm : us ≤ MS := (by have o0 := hm1.2; have o1 := hN; have o2 := hv; (try simp only [hX_sI, hX_sR, hX_sL, hX_sD, hX_sIa, hX_sRa, hV_sI, hV_sR, hV_sL, hV_sD, hV_sIa, hV_sRa, hX_new, hV_new] at o0 o1 o2 ⊢); omega)
  clear hm1
  unfold fX11_demandText_b0 at hf
  refine p_iload_n X (dcg dc_X11_demandText 0 rfl) rfl rfl ?_
  refine p_if_lt (tgt := 19) X (dcg dc_X11_demandText 1 rfl) (by decide) (fun q => ?_) (fun q => ?_)
  · have hf := if_t q hf
    refine p_pick [] ?_
    exact wX11_demandText_b19 X hG hex hM hN hu hv hf 
  · have hf := if_f q hf
    refine p_iload_n X (dcg dc_X11_demandText 2 rfl) rfl rfl ?_
    refine p_bipush (v := 100) X (dcg dc_X11_demandText 3 rfl) (by decide) ?_
    refine p_icmp_ge (tgt := 19) X (dcg dc_X11_demandText 4 rfl) (by decide) (fun q => ?_) (fun q => ?_)
    · have hf := if_t q hf
      refine p_pick [] ?_
      exact wX11_demandText_b19 X hG hex hM hN hu hv hf 
    · have hf := if_f q hf
      refine p_aload_n X (dcg dc_X11_demandText 5 rfl) rfl rfl ?_
      obtain ⟨hk1, hf⟩ := gd_some hf
      refine p_getR X fl_X11_27 rfl (by decide) (dcg dc_X11_demandText 6 rfl) hk1 ?_
      refine p_iload_n X (dcg dc_X11_demandText 7 rfl) rfl rfl ?_
      obtain ⟨a2, e3, hf⟩ := gs_some hf
      first | subst e3 | (try rw [e3])
      obtain ⟨⟨hk5, hb4⟩, hf⟩ := gd_some hf
      refine p_aald26 X (dcg dc_X11_demandText 8 rfl) hk5 (vp_of_inb hb4) ?_
      refine p_ifnonnull (tgt := 27) X (dcg dc_X11_demandText 9 rfl) (by decide) (fun a6 q => ?_) (fun q => ?_)
      · have hk11 := mq_s q hf
        first | subst q | (try rw [q])
        have hf := hk11
        refine p_aload_n X (dcg dc_X11_demandText 14 rfl) rfl rfl ?_
        refine p_getR X fl_X11_27 rfl (by decide) (dcg dc_X11_demandText 15 rfl) hk1 ?_
        refine p_iload_n X (dcg dc_X11_demandText 16 rfl) rfl rfl ?_
        obtain ⟨a7, e8, hf⟩ := gs_some hf
        first | subst e8 | (try rw [e8])
        obtain ⟨⟨hk10, hb9⟩, hf⟩ := gd_some hf
        refine p_aald26 X (dcg dc_X11_demandText 17 rfl) hk10 (vp_of_inb hb9) ?_
        have er := Option.some.inj hf
        subst er
        refine p_vx ?_
        exact p_aret X rfl (Or.inl ⟨_, rfl⟩) (dcg dc_X11_demandText 18 rfl) ⟨_, rfl, rfl, rfl⟩ hcm hsm
      · have hk11 := mq_n q hf
        first | subst q | (try rw [q])
        have hf := hk11
        refine p_pick [] ?_
        exact wX11_demandText_b19 X hG hex hM hN hu hv hf 
noncomputable def fX11_demandText (v0 : Nat) (v1 : Int32) (h : PH) : Option ((Option Nat × PH) ⊕ (Nat × PH)) :=
  fX11_demandText_b0 v0 v1 h
set_option maxRecDepth 100000 in
theorem mX11_demandText {v0 : Nat} {v1 : Int32} {h : PH} {r : ((Option Nat × PH) ⊕ (Nat × PH))} (hf : fX11_demandText v0 v1 h = some r) : lez h (xT2 r) (vT2 r) := by
  unfold fX11_demandText at hf
  have hle := lez_rf h
  exact lez_rt (mX11_demandText_b0 hf) hle
set_option maxRecDepth 100000 in
theorem wX11_demandText {E : PE} {l : Launch} (hG : Gs E l) {v0 : Nat} {v1 : Int32} {h : PH} {r : ((Option Nat × PH) ⊕ (Nat × PH))} (hf : fX11_demandText v0 v1 h = some r) : CtX E l 8 ((xT2 r) - hX h) ((vT2 r) - hV h) yX11_demandText cX11_demandText 2 (some (.object "WordFinder$Text")) [.ref v0, .int v1] h (fun v u => ∃ z, r = .inl z ∧ v = some (va_rf z.1) ∧ u = z.2) (fun En u => ∃ (z : Nat × PH) (n : Nat), r = .inr z ∧ En = exn z.1 ∧ hX z.2 ≤ n ∧ u = hbump z.2 n) := by
  have hmm := mX11_demandText hf
  refine ctx_of hG (by decide) (Nat.le_of_ble_eq_true rfl) ?_
  intro p e s m args below meth c X hex
  show PW E p l e _ s m args below meth c _ 0 0 _ h 0 [(0, some (.ref v0)), (1, some (.int v1))] []
  unfold fX11_demandText at hf
  have hM := Nat.sub_add_cancel hmm.1
  have hN := Nat.sub_add_cancel hmm.2
  refine p_pick [0, 1] ?_
  exact wX11_demandText_b0 X hG hex hM hN (Nat.zero_add _) (Nat.zero_add _) hf
theorem dc_X11_replaceText : decs cX11_replaceText [(0, .aload_n 0, 1), (1, .iload_n 1, 1), (2, .invokevirtual 119, 3), (5, .astore_n 2, 1), (6, .aload_n 0, 1), (7, .getfield 10, 3), (10, .invokevirtual 108, 3), (13, .astore_n 3, 1), (14, .aload_n 3, 1), (15, .ifnonnull 11, 3), (18, .new 112, 3), (21, .dup, 1), (22, .invokespecial 114, 3), (25, .athrow, 1), (26, .aload_n 0, 1), (27, .iload_n 1, 1), (28, .aload_n 3, 1), (29, .invokevirtual 115, 3), (32, .aload_n 2, 1), (33, .invokevirtual 123, 3), (36, .ireturn, 1)] = true := by decide +kernel
noncomputable def fX11_replaceText_b32 (v2 : Option Nat) (h : PH) : Option ((Int32 × PH) ⊕ (Nat × PH)) :=
  gs v2 (fun a12 =>
  gd (hK h a12 = 8) (bd (fX8_size a12 h) (fun z15 =>
  some (.inl ((z15, h))))))
set_option maxRecDepth 100000 in
theorem mX11_replaceText_b32 {v2 : Option Nat} {h : PH} {r : ((Int32 × PH) ⊕ (Nat × PH))} (hf : fX11_replaceText_b32 v2 h = some r) : lez h (xT2 r) (vT2 r) := by
  unfold fX11_replaceText_b32 at hf
  have hle := lez_rf h
  obtain ⟨a12, e13, hf⟩ := gs_some hf
  obtain ⟨hk14, hf⟩ := gd_some hf
  obtain ⟨z15, hz15, hf⟩ := bd_some hf
  have ee := Option.some.inj hf; subst ee; exact hle
set_option maxRecDepth 100000 in
theorem wX11_replaceText_b32 {E : PE} {p : Program} {l : Launch} {e : Env} {s : State} {m : MethodId} {args : Array Value} {below : List Frame} {meth : Method} {c : Code} {X0 V0 MC MS uc us : Nat} (X : Cx E p l e (rmv 51 MC MS) s m args below meth c RX11 cX11_replaceText 4 (some .int)) (hG : Gs E l) (hex : ∀ x ∈ c.exceptionTable.toList, False) {v2 : Option Nat} {h : PH} {r : ((Int32 × PH) ⊕ (Nat × PH))} (hM : MC + X0 = (xT2 r)) (hN : MS + V0 = (vT2 r)) (hu : uc + X0 = hX h) (hv : us + V0 = hV h) (hf : fX11_replaceText_b32 v2 h = some r)  : PW E p l e (rmv 51 MC MS) s m args below meth c 4 uc us (vx_MQ below (QG E (fun v u => ∃ z, r = .inl z ∧ v = some (.int z.1) ∧ u = z.2)) (XG E (fun En u => ∃ (z : Nat × PH) (n : Nat), r = .inr z ∧ En = exn z.1 ∧ hX z.2 ≤ n ∧ u = hbump z.2 n)) args s MC MS (pA E)) h 32 [(2, some (va_rf v2))] [] := by
  have hm1 : lez h (xT2 r) (vT2 r) := mX11_replaceText_b32 hf
  have hcm : uc ≤ MC := (by have o0 := hm1.1; have o1 := hM; have o2 := hu; (try simp only [hX_sI, hX_sR, hX_sL, hX_sD, hX_sIa, hX_sRa, hV_sI, hV_sR, hV_sL, hV_sD, hV_sIa, hV_sRa, hX_new, hV_new] at o0 o1 o2 ⊢); omega)
  have hsm : us ≤ MS := (by have o0 := hm1.2; have o1 := hN; have o2 := hv; (try simp only [hX_sI, hX_sR, hX_sL, hX_sD, hX_sIa, hX_sRa, hV_sI, hV_sR, hV_sL, hV_sD, hV_sIa, hV_sRa, hX_new, hV_new] at o0 o1 o2 ⊢); omega)
  clear hm1
  unfold fX11_replaceText_b32 at hf
  refine p_aloadq_n X (dcg dc_X11_replaceText 18 rfl) rfl rfl ?_
  obtain ⟨a12, e13, hf⟩ := gs_some hf
  first | subst e13 | (try rw [e13])
  obtain ⟨hk14, hf⟩ := gd_some hf
  obtain ⟨z15, hz15, hf⟩ := bd_some hf
  refine p_callV (As := []) X ml_X11_123 (dcg dc_X11_replaceText 19 rfl) rfl rfl hk14 (wX8_size hG hz15) (by decide) (room4 (Nat.le_of_ble_eq_true rfl)) hcm hsm ?_
  rintro _ u9 ⟨rfl, e9⟩; have e9 := e9.symm; subst e9
  have er := Option.some.inj hf
  subst er
  refine p_vx ?_
  exact p_iret X rfl (dcg dc_X11_replaceText 20 rfl) ⟨_, rfl, rfl, rfl⟩ hcm hsm
noncomputable def fX11_replaceText_b13 (v0 : Nat) (v1 : Int32) (v2 : Option Nat) (t0 : Option Nat) (h : PH) : Option ((Int32 × PH) ⊕ (Nat × PH)) :=
  mq t0 (some (.inr (1, h))) (fun a9 =>
  gd (hK h v0 = 11) (bd (fX11_change v0 v1 (some a9) h) (fun z11 =>
  fX11_replaceText_b32 v2 z11)))
set_option maxRecDepth 100000 in
theorem mX11_replaceText_b13 {v0 : Nat} {v1 : Int32} {v2 : Option Nat} {t0 : Option Nat} {h : PH} {r : ((Int32 × PH) ⊕ (Nat × PH))} (hf : fX11_replaceText_b13 v0 v1 v2 t0 h = some r) : lez h (xT2 r) (vT2 r) := by
  unfold fX11_replaceText_b13 at hf
  have hle := lez_rf h
  rcases mq_or hf with ⟨q, hf⟩ | ⟨a9, q, hf⟩
  · have hf := mq_n q hf
    cases hf; exact lez_up hle
  · have hk16 := mq_s q hf
    first | subst q | skip
    have hf := hk16
    obtain ⟨hk10, hf⟩ := gd_some hf
    obtain ⟨z11, hz11, hf⟩ := bd_some hf
    have hle := lez_rt (mX11_change hz11) hle
    exact lez_rt (mX11_replaceText_b32 hf) hle
set_option maxRecDepth 100000 in
theorem wX11_replaceText_b13 {E : PE} {p : Program} {l : Launch} {e : Env} {s : State} {m : MethodId} {args : Array Value} {below : List Frame} {meth : Method} {c : Code} {X0 V0 MC MS uc us : Nat} (X : Cx E p l e (rmv 51 MC MS) s m args below meth c RX11 cX11_replaceText 4 (some .int)) (hG : Gs E l) (hex : ∀ x ∈ c.exceptionTable.toList, False) {v0 : Nat} {v1 : Int32} {v2 : Option Nat} {t0 : Option Nat} {h : PH} {r : ((Int32 × PH) ⊕ (Nat × PH))} (hM : MC + X0 = (xT2 r)) (hN : MS + V0 = (vT2 r)) (hu : uc + X0 = hX h) (hv : us + V0 = hV h) (hf : fX11_replaceText_b13 v0 v1 v2 t0 h = some r)  : PW E p l e (rmv 51 MC MS) s m args below meth c 4 uc us (vx_MQ below (QG E (fun v u => ∃ z, r = .inl z ∧ v = some (.int z.1) ∧ u = z.2)) (XG E (fun En u => ∃ (z : Nat × PH) (n : Nat), r = .inr z ∧ En = exn z.1 ∧ hX z.2 ≤ n ∧ u = hbump z.2 n)) args s MC MS (pA E)) h 13 [(0, some (.ref v0)), (1, some (.int v1)), (2, some (va_rf v2))] [va_rf t0] := by
  have hm1 : lez h (xT2 r) (vT2 r) := mX11_replaceText_b13 hf
  have hcm : uc ≤ MC := (by have o0 := hm1.1; have o1 := hM; have o2 := hu; (try simp only [hX_sI, hX_sR, hX_sL, hX_sD, hX_sIa, hX_sRa, hV_sI, hV_sR, hV_sL, hV_sD, hV_sIa, hV_sRa, hX_new, hV_new] at o0 o1 o2 ⊢); omega)
  have hsm : us ≤ MS := (by have o0 := hm1.2; have o1 := hN; have o2 := hv; (try simp only [hX_sI, hX_sR, hX_sL, hX_sD, hX_sIa, hX_sRa, hV_sI, hV_sR, hV_sL, hV_sD, hV_sIa, hV_sRa, hX_new, hV_new] at o0 o1 o2 ⊢); omega)
  clear hm1
  unfold fX11_replaceText_b13 at hf
  refine p_astoreq_n X (dcg dc_X11_replaceText 7 rfl) rfl (by decide) (nwq (k := 2) rfl) ?_
  refine p_aloadq_n X (dcg dc_X11_replaceText 8 rfl) rfl rfl ?_
  refine p_ifnonnull (tgt := 26) X (dcg dc_X11_replaceText 9 rfl) (by decide) (fun a9 q => ?_) (fun q => ?_)
  · have hk16 := mq_s q hf
    first | subst q | (try rw [q])
    have hf := hk16
    refine p_aload_n X (dcg dc_X11_replaceText 14 rfl) rfl rfl ?_
    refine p_iload_n X (dcg dc_X11_replaceText 15 rfl) rfl rfl ?_
    refine p_aload_n X (dcg dc_X11_replaceText 16 rfl) rfl rfl ?_
    obtain ⟨hk10, hf⟩ := gd_some hf
    obtain ⟨z11, hz11, hf⟩ := bd_some hf
    have hc1 := mX11_change hz11
    have hm1 : lez _ (xT2 r) (vT2 r) := mX11_replaceText_b32 hf
    refine p_callV (As := [_, va_rf (some _)]) X ml_X11_115 (dcg dc_X11_replaceText 17 rfl) rfl rfl hk10 (wX11_change hG hz11) (by decide) (room4 (Nat.le_of_ble_eq_true rfl)) (by have o0 := hm1.1; have o1 := hc1.1; have o2 := hM; have o3 := hu; (try simp only [hX_sI, hX_sR, hX_sL, hX_sD, hX_sIa, hX_sRa, hV_sI, hV_sR, hV_sL, hV_sD, hV_sIa, hV_sRa, hX_new, hV_new] at o0 o1 o2 o3 ⊢); omega) (by have o0 := hm1.2; have o1 := hc1.2; have o2 := hN; have o3 := hv; (try simp only [hX_sI, hX_sR, hX_sL, hX_sD, hX_sIa, hX_sRa, hV_sI, hV_sR, hV_sL, hV_sD, hV_sIa, hV_sRa, hX_new, hV_new] at o0 o1 o2 o3 ⊢); omega) ?_
    rintro _ u9 ⟨rfl, e9⟩; have e9 := e9.symm; subst e9
    refine p_pick [2] ?_
    exact wX11_replaceText_b32 X hG hex hM hN (by have o0 := hc1.1; have o1 := hu; (try simp only [hX_sI, hX_sR, hX_sL, hX_sD, hX_sIa, hX_sRa, hV_sI, hV_sR, hV_sL, hV_sD, hV_sIa, hV_sRa, hX_new, hV_new] at o0 o1 ⊢); omega) (by have o0 := hc1.2; have o1 := hv; (try simp only [hX_sI, hX_sR, hX_sL, hX_sD, hX_sIa, hX_sRa, hV_sI, hV_sR, hV_sL, hV_sD, hV_sIa, hV_sRa, hX_new, hV_new] at o0 o1 ⊢); omega) hf 
  · have hk16 := mq_n q hf
    first | subst q | (try rw [q])
    have hf := hk16
    have er := Option.some.inj hf
    subst er
    exact p_throw0 (cls := "java/lang/IllegalArgumentException") (names := ["java/lang/RuntimeException", "java/lang/Exception"]) X hex (by decide) (by decide) tw_1180 tw_122 th_X11_114a th_X11_114b th_X11_114c th_X11_114d (dcg dc_X11_replaceText 10 rfl) (dcg dc_X11_replaceText 11 rfl) (dcg dc_X11_replaceText 12 rfl) (dcg dc_X11_replaceText 13 rfl) (Nat.le_of_ble_eq_true rfl) (Nat.le_trans (Nat.add_le_add_right (room4 (Nat.le_of_ble_eq_true rfl)) _) (Nat.le_of_ble_eq_true rfl)) (show uc + 1 ≤ MC from (by have o0 := (show MC + X0 = hX h + 1 from hM); have o1 := hu; (try simp only [hX_sI, hX_sR, hX_sL, hX_sD, hX_sIa, hX_sRa, hV_sI, hV_sR, hV_sL, hV_sD, hV_sIa, hV_sRa, hX_new, hV_new] at o0 o1 ⊢); omega)) (show us + 6 ≤ MS from (by have o0 := (show MS + V0 = hV h + 6 from hN); have o1 := hv; (try simp only [hX_sI, hX_sR, hX_sL, hX_sD, hX_sIa, hX_sRa, hV_sI, hV_sR, hV_sL, hV_sD, hV_sIa, hV_sRa, hX_new, hV_new] at o0 o1 ⊢); omega)) (show uc + 1 ≤ MC from (by have o0 := (show MC + X0 = hX h + 1 from hM); have o1 := hu; (try simp only [hX_sI, hX_sR, hX_sL, hX_sD, hX_sIa, hX_sRa, hV_sI, hV_sR, hV_sL, hV_sD, hV_sIa, hV_sRa, hX_new, hV_new] at o0 o1 ⊢); omega)) (show us + 6 ≤ MS from (by have o0 := (show MS + V0 = hV h + 6 from hN); have o1 := hv; (try simp only [hX_sI, hX_sR, hX_sL, hX_sD, hX_sIa, hX_sRa, hV_sI, hV_sR, hV_sL, hV_sD, hV_sIa, hV_sRa, hX_new, hV_new] at o0 o1 ⊢); omega)) (fun n hn => ⟨_, n, rfl, rfl, hn, rfl⟩)
noncomputable def fX11_replaceText_b5 (v0 : Nat) (v1 : Int32) (t0 : Option Nat) (h : PH) : Option ((Int32 × PH) ⊕ (Nat × PH)) :=
  gd (hK h v0 = 11) (gs (hR h 11 v0 0) (fun a5 =>
  gd (hK h a5 = 7) (bd (fX7_takeText a5 h) (fun z8 =>
  fX11_replaceText_b13 v0 v1 t0 z8.1 z8.2))))
set_option maxRecDepth 100000 in
theorem mX11_replaceText_b5 {v0 : Nat} {v1 : Int32} {t0 : Option Nat} {h : PH} {r : ((Int32 × PH) ⊕ (Nat × PH))} (hf : fX11_replaceText_b5 v0 v1 t0 h = some r) : lez h (xT2 r) (vT2 r) := by
  unfold fX11_replaceText_b5 at hf
  have hle := lez_rf h
  obtain ⟨hk4, hf⟩ := gd_some hf
  obtain ⟨a5, e6, hf⟩ := gs_some hf
  obtain ⟨hk7, hf⟩ := gd_some hf
  obtain ⟨z8, hz8, hf⟩ := bd_some hf
  have hle := lez_rt (mX7_takeText hz8) hle
  exact lez_rt (mX11_replaceText_b13 hf) hle
set_option maxRecDepth 100000 in
theorem wX11_replaceText_b5 {E : PE} {p : Program} {l : Launch} {e : Env} {s : State} {m : MethodId} {args : Array Value} {below : List Frame} {meth : Method} {c : Code} {X0 V0 MC MS uc us : Nat} (X : Cx E p l e (rmv 51 MC MS) s m args below meth c RX11 cX11_replaceText 4 (some .int)) (hG : Gs E l) (hex : ∀ x ∈ c.exceptionTable.toList, False) {v0 : Nat} {v1 : Int32} {t0 : Option Nat} {h : PH} {r : ((Int32 × PH) ⊕ (Nat × PH))} (hM : MC + X0 = (xT2 r)) (hN : MS + V0 = (vT2 r)) (hu : uc + X0 = hX h) (hv : us + V0 = hV h) (hf : fX11_replaceText_b5 v0 v1 t0 h = some r)  : PW E p l e (rmv 51 MC MS) s m args below meth c 4 uc us (vx_MQ below (QG E (fun v u => ∃ z, r = .inl z ∧ v = some (.int z.1) ∧ u = z.2)) (XG E (fun En u => ∃ (z : Nat × PH) (n : Nat), r = .inr z ∧ En = exn z.1 ∧ hX z.2 ≤ n ∧ u = hbump z.2 n)) args s MC MS (pA E)) h 5 [(0, some (.ref v0)), (1, some (.int v1))] [va_rf t0] := by
  have hm1 : lez h (xT2 r) (vT2 r) := mX11_replaceText_b5 hf
  have hcm : uc ≤ MC := (by have o0 := hm1.1; have o1 := hM; have o2 := hu; (try simp only [hX_sI, hX_sR, hX_sL, hX_sD, hX_sIa, hX_sRa, hV_sI, hV_sR, hV_sL, hV_sD, hV_sIa, hV_sRa, hX_new, hV_new] at o0 o1 o2 ⊢); omega)
  have hsm : us ≤ MS := (by have o0 := hm1.2; have o1 := hN; have o2 := hv; (try simp only [hX_sI, hX_sR, hX_sL, hX_sD, hX_sIa, hX_sRa, hV_sI, hV_sR, hV_sL, hV_sD, hV_sIa, hV_sRa, hX_new, hV_new] at o0 o1 o2 ⊢); omega)
  clear hm1
  unfold fX11_replaceText_b5 at hf
  refine p_astoreq_n X (dcg dc_X11_replaceText 3 rfl) rfl (by decide) rfl ?_
  refine p_aload_n X (dcg dc_X11_replaceText 4 rfl) rfl rfl ?_
  obtain ⟨hk4, hf⟩ := gd_some hf
  refine p_getR X fl_X11_10 rfl (by decide) (dcg dc_X11_replaceText 5 rfl) hk4 ?_
  obtain ⟨a5, e6, hf⟩ := gs_some hf
  first | subst e6 | (try rw [e6])
  obtain ⟨hk7, hf⟩ := gd_some hf
  obtain ⟨z8, hz8, hf⟩ := bd_some hf
  have hc1 := mX7_takeText hz8
  have hm1 : lez _ (xT2 r) (vT2 r) := mX11_replaceText_b13 hf
  refine p_callV (As := []) X ml_X11_108 (dcg dc_X11_replaceText 6 rfl) rfl rfl hk7 (wX7_takeText hG hz8) (by decide) (room4 (Nat.le_of_ble_eq_true rfl)) (by have o0 := hm1.1; have o1 := hc1.1; have o2 := hM; have o3 := hu; (try simp only [hX_sI, hX_sR, hX_sL, hX_sD, hX_sIa, hX_sRa, hV_sI, hV_sR, hV_sL, hV_sD, hV_sIa, hV_sRa, hX_new, hV_new] at o0 o1 o2 o3 ⊢); omega) (by have o0 := hm1.2; have o1 := hc1.2; have o2 := hN; have o3 := hv; (try simp only [hX_sI, hX_sR, hX_sL, hX_sD, hX_sIa, hX_sRa, hV_sI, hV_sR, hV_sL, hV_sD, hV_sIa, hV_sRa, hX_new, hV_new] at o0 o1 o2 o3 ⊢); omega) ?_
  rintro _ u9 ⟨rfl, e9⟩; have e9 := e9.symm; subst e9
  refine p_pick [0, 1, 2] ?_
  exact wX11_replaceText_b13 X hG hex hM hN (by have o0 := hc1.1; have o1 := hu; (try simp only [hX_sI, hX_sR, hX_sL, hX_sD, hX_sIa, hX_sRa, hV_sI, hV_sR, hV_sL, hV_sD, hV_sIa, hV_sRa, hX_new, hV_new] at o0 o1 ⊢); omega) (by have o0 := hc1.2; have o1 := hv; (try simp only [hX_sI, hX_sR, hX_sL, hX_sD, hX_sIa, hX_sRa, hV_sI, hV_sR, hV_sL, hV_sD, hV_sIa, hV_sRa, hX_new, hV_new] at o0 o1 ⊢); omega) hf 
noncomputable def fX11_replaceText_b0 (v0 : Nat) (v1 : Int32) (h : PH) : Option ((Int32 × PH) ⊕ (Nat × PH)) :=
  gd (hK h v0 = 11) (bx (fX11_demandText v0 v1 h) (fun z2 =>
  fX11_replaceText_b5 v0 v1 z2.1 z2.2))
set_option maxRecDepth 100000 in
theorem mX11_replaceText_b0 {v0 : Nat} {v1 : Int32} {h : PH} {r : ((Int32 × PH) ⊕ (Nat × PH))} (hf : fX11_replaceText_b0 v0 v1 h = some r) : lez h (xT2 r) (vT2 r) := by
  unfold fX11_replaceText_b0 at hf
  have hle := lez_rf h
  obtain ⟨hk1, hf⟩ := gd_some hf
  obtain ⟨y3, hy3, h1y3, h2y3⟩ := bx_some hf
  have hc1 := mX11_demandText hy3
  rcases y3 with z2 | z2
  · have hf := h1y3 z2 rfl
    have hle : lez h (hX z2.2) (hV z2.2) := lez_rt hc1 hle
    exact lez_rt (mX11_replaceText_b5 hf) hle
  · have hr9 := h2y3 z2 rfl
    subst hr9
    exact lez_rt hc1 hle
set_option maxRecDepth 100000 in
theorem wX11_replaceText_b0 {E : PE} {p : Program} {l : Launch} {e : Env} {s : State} {m : MethodId} {args : Array Value} {below : List Frame} {meth : Method} {c : Code} {X0 V0 MC MS uc us : Nat} (X : Cx E p l e (rmv 51 MC MS) s m args below meth c RX11 cX11_replaceText 4 (some .int)) (hG : Gs E l) (hex : ∀ x ∈ c.exceptionTable.toList, False) {v0 : Nat} {v1 : Int32} {h : PH} {r : ((Int32 × PH) ⊕ (Nat × PH))} (hM : MC + X0 = (xT2 r)) (hN : MS + V0 = (vT2 r)) (hu : uc + X0 = hX h) (hv : us + V0 = hV h) (hf : fX11_replaceText_b0 v0 v1 h = some r)  : PW E p l e (rmv 51 MC MS) s m args below meth c 4 uc us (vx_MQ below (QG E (fun v u => ∃ z, r = .inl z ∧ v = some (.int z.1) ∧ u = z.2)) (XG E (fun En u => ∃ (z : Nat × PH) (n : Nat), r = .inr z ∧ En = exn z.1 ∧ hX z.2 ≤ n ∧ u = hbump z.2 n)) args s MC MS (pA E)) h 0 [(0, some (.ref v0)), (1, some (.int v1))] [] := by
  have hm1 : lez h (xT2 r) (vT2 r) := mX11_replaceText_b0 hf
  have hcm : uc ≤ MC := (by have o0 := hm1.1; have o1 := hM; have o2 := hu; (try simp only [hX_sI, hX_sR, hX_sL, hX_sD, hX_sIa, hX_sRa, hV_sI, hV_sR, hV_sL, hV_sD, hV_sIa, hV_sRa, hX_new, hV_new] at o0 o1 o2 ⊢); omega)
  have hsm : us ≤ MS := (by have o0 := hm1.2; have o1 := hN; have o2 := hv; (try simp only [hX_sI, hX_sR, hX_sL, hX_sD, hX_sIa, hX_sRa, hV_sI, hV_sR, hV_sL, hV_sD, hV_sIa, hV_sRa, hX_new, hV_new] at o0 o1 o2 ⊢); omega)
  clear hm1
  unfold fX11_replaceText_b0 at hf
  refine p_aload_n X (dcg dc_X11_replaceText 0 rfl) rfl rfl ?_
  refine p_iload_n X (dcg dc_X11_replaceText 1 rfl) rfl rfl ?_
  obtain ⟨hk1, hf⟩ := gd_some hf
  obtain ⟨y3, hy3, h1y3, h2y3⟩ := bx_some hf
  have hc1 := mX11_demandText hy3
  rcases y3 with z2 | z2
  · have hf := h1y3 z2 rfl
    have hm1 : lez _ (xT2 r) (vT2 r) := mX11_replaceText_b5 hf
    refine p_callVX (As := [_]) X hex ml_X11_119 (dcg dc_X11_replaceText 2 rfl) rfl rfl hk1 (wX11_demandText hG hy3) (by decide) (room4 (Nat.le_of_ble_eq_true rfl)) (show uc + (hX z2.2 - hX h) ≤ MC from (by have o0 := hm1.1; have o1 := (show lez h (hX z2.2) (hV z2.2) from hc1).1; have o2 := hM; have o3 := hu; (try simp only [hX_sI, hX_sR, hX_sL, hX_sD, hX_sIa, hX_sRa, hV_sI, hV_sR, hV_sL, hV_sD, hV_sIa, hV_sRa, hX_new, hV_new] at o0 o1 o2 o3 ⊢); omega)) (show us + (hV z2.2 - hV h) ≤ MS from (by have o0 := hm1.2; have o1 := (show lez h (hX z2.2) (hV z2.2) from hc1).2; have o2 := hN; have o3 := hv; (try simp only [hX_sI, hX_sR, hX_sL, hX_sD, hX_sIa, hX_sRa, hV_sI, hV_sR, hV_sL, hV_sD, hV_sIa, hV_sRa, hX_new, hV_new] at o0 o1 o2 o3 ⊢); omega)) (show uc + (hX z2.2 - hX h) ≤ MC from (by have o0 := hm1.1; have o1 := (show lez h (hX z2.2) (hV z2.2) from hc1).1; have o2 := hM; have o3 := hu; (try simp only [hX_sI, hX_sR, hX_sL, hX_sD, hX_sIa, hX_sRa, hV_sI, hV_sR, hV_sL, hV_sD, hV_sIa, hV_sRa, hX_new, hV_new] at o0 o1 o2 o3 ⊢); omega)) (show us + (hV z2.2 - hV h) ≤ MS from (by have o0 := hm1.2; have o1 := (show lez h (hX z2.2) (hV z2.2) from hc1).2; have o2 := hN; have o3 := hv; (try simp only [hX_sI, hX_sR, hX_sL, hX_sD, hX_sIa, hX_sRa, hV_sI, hV_sR, hV_sL, hV_sD, hV_sIa, hV_sRa, hX_new, hV_new] at o0 o1 o2 o3 ⊢); omega)) (fun En u q => by obtain ⟨z9, n9, q9, _⟩ := q; cases q9) ?_
    rintro _ _ ⟨z9, hz9, rfl, rfl⟩
    cases hz9
    refine p_pick [0, 1] ?_
    exact wX11_replaceText_b5 X hG hex hM hN (show uc + (hX z2.2 - hX h) + X0 = hX z2.2 from (by have o0 := (show lez h (hX z2.2) (hV z2.2) from hc1).1; have o1 := hu; (try simp only [hX_sI, hX_sR, hX_sL, hX_sD, hX_sIa, hX_sRa, hV_sI, hV_sR, hV_sL, hV_sD, hV_sIa, hV_sRa, hX_new, hV_new] at o0 o1 ⊢); omega)) (show us + (hV z2.2 - hV h) + V0 = hV z2.2 from (by have o0 := (show lez h (hX z2.2) (hV z2.2) from hc1).2; have o1 := hv; (try simp only [hX_sI, hX_sR, hX_sL, hX_sD, hX_sIa, hX_sRa, hV_sI, hV_sR, hV_sL, hV_sD, hV_sIa, hV_sRa, hX_new, hV_new] at o0 o1 ⊢); omega)) hf 
  · have hr9 := h2y3 z2 rfl
    subst hr9
    refine p_callVX (As := [_]) X hex ml_X11_119 (dcg dc_X11_replaceText 2 rfl) rfl rfl hk1 (wX11_demandText hG hy3) (by decide) (room4 (Nat.le_of_ble_eq_true rfl)) (show uc + (hX z2.2 + 1 - hX h) ≤ MC from (by have o0 := (show lez h (hX z2.2 + 1) (hV z2.2 + 6) from hc1).1; have o1 := (show MC + X0 = hX z2.2 + 1 from hM); have o2 := hu; (try simp only [hX_sI, hX_sR, hX_sL, hX_sD, hX_sIa, hX_sRa, hV_sI, hV_sR, hV_sL, hV_sD, hV_sIa, hV_sRa, hX_new, hV_new] at o0 o1 o2 ⊢); omega)) (show us + (hV z2.2 + 6 - hV h) ≤ MS from (by have o0 := (show lez h (hX z2.2 + 1) (hV z2.2 + 6) from hc1).2; have o1 := (show MS + V0 = hV z2.2 + 6 from hN); have o2 := hv; (try simp only [hX_sI, hX_sR, hX_sL, hX_sD, hX_sIa, hX_sRa, hV_sI, hV_sR, hV_sL, hV_sD, hV_sIa, hV_sRa, hX_new, hV_new] at o0 o1 o2 ⊢); omega)) (show uc + (hX z2.2 + 1 - hX h) ≤ MC from (by have o0 := (show lez h (hX z2.2 + 1) (hV z2.2 + 6) from hc1).1; have o1 := (show MC + X0 = hX z2.2 + 1 from hM); have o2 := hu; (try simp only [hX_sI, hX_sR, hX_sL, hX_sD, hX_sIa, hX_sRa, hV_sI, hV_sR, hV_sL, hV_sD, hV_sIa, hV_sRa, hX_new, hV_new] at o0 o1 o2 ⊢); omega)) (show us + (hV z2.2 + 6 - hV h) ≤ MS from (by have o0 := (show lez h (hX z2.2 + 1) (hV z2.2 + 6) from hc1).2; have o1 := (show MS + V0 = hV z2.2 + 6 from hN); have o2 := hv; (try simp only [hX_sI, hX_sR, hX_sL, hX_sD, hX_sIa, hX_sRa, hV_sI, hV_sR, hV_sL, hV_sD, hV_sIa, hV_sRa, hX_new, hV_new] at o0 o1 o2 ⊢); omega)) (fun En u q => by obtain ⟨z9, n9, q9, q8⟩ := q; cases q9; exact ⟨_, n9, rfl, q8⟩) ?_
    rintro _ _ ⟨z9, hz9, _⟩
    cases hz9
noncomputable def fX11_replaceText (v0 : Nat) (v1 : Int32) (h : PH) : Option ((Int32 × PH) ⊕ (Nat × PH)) :=
  fX11_replaceText_b0 v0 v1 h
set_option maxRecDepth 100000 in
theorem mX11_replaceText {v0 : Nat} {v1 : Int32} {h : PH} {r : ((Int32 × PH) ⊕ (Nat × PH))} (hf : fX11_replaceText v0 v1 h = some r) : lez h (xT2 r) (vT2 r) := by
  unfold fX11_replaceText at hf
  have hle := lez_rf h
  exact lez_rt (mX11_replaceText_b0 hf) hle
set_option maxRecDepth 100000 in
theorem wX11_replaceText {E : PE} {l : Launch} (hG : Gs E l) {v0 : Nat} {v1 : Int32} {h : PH} {r : ((Int32 × PH) ⊕ (Nat × PH))} (hf : fX11_replaceText v0 v1 h = some r) : CtX E l 51 ((xT2 r) - hX h) ((vT2 r) - hV h) yX11_replaceText cX11_replaceText 4 (some .int) [.ref v0, .int v1] h (fun v u => ∃ z, r = .inl z ∧ v = some (.int z.1) ∧ u = z.2) (fun En u => ∃ (z : Nat × PH) (n : Nat), r = .inr z ∧ En = exn z.1 ∧ hX z.2 ≤ n ∧ u = hbump z.2 n) := by
  have hmm := mX11_replaceText hf
  refine ctx_of hG (by decide) (Nat.le_of_ble_eq_true rfl) ?_
  intro p e s m args below meth c X hex
  show PW E p l e _ s m args below meth c _ 0 0 _ h 0 [(0, some (.ref v0)), (1, some (.int v1))] []
  unfold fX11_replaceText at hf
  have hM := Nat.sub_add_cancel hmm.1
  have hN := Nat.sub_add_cancel hmm.2
  refine p_pick [0, 1] ?_
  exact wX11_replaceText_b0 X hG hex hM hN (Nat.zero_add _) (Nat.zero_add _) hf
theorem dc_X11_removeText : decs cX11_removeText [(0, .aload_n 0, 1), (1, .iload_n 1, 1), (2, .invokevirtual 119, 3), (5, .astore_n 2, 1), (6, .aload_n 0, 1), (7, .iload_n 1, 1), (8, .aconst_null, 1), (9, .invokevirtual 115, 3), (12, .aload_n 2, 1), (13, .invokevirtual 123, 3), (16, .ireturn, 1)] = true := by decide +kernel
noncomputable def fX11_removeText_b12 (v2 : Option Nat) (h : PH) : Option ((Int32 × PH) ⊕ (Nat × PH)) :=
  gs v2 (fun a6 =>
  gd (hK h a6 = 8) (bd (fX8_size a6 h) (fun z9 =>
  some (.inl ((z9, h))))))
set_option maxRecDepth 100000 in
theorem mX11_removeText_b12 {v2 : Option Nat} {h : PH} {r : ((Int32 × PH) ⊕ (Nat × PH))} (hf : fX11_removeText_b12 v2 h = some r) : lez h (xT2 r) (vT2 r) := by
  unfold fX11_removeText_b12 at hf
  have hle := lez_rf h
  obtain ⟨a6, e7, hf⟩ := gs_some hf
  obtain ⟨hk8, hf⟩ := gd_some hf
  obtain ⟨z9, hz9, hf⟩ := bd_some hf
  have ee := Option.some.inj hf; subst ee; exact hle
set_option maxRecDepth 100000 in
theorem wX11_removeText_b12 {E : PE} {p : Program} {l : Launch} {e : Env} {s : State} {m : MethodId} {args : Array Value} {below : List Frame} {meth : Method} {c : Code} {X0 V0 MC MS uc us : Nat} (X : Cx E p l e (rmv 51 MC MS) s m args below meth c RX11 cX11_removeText 3 (some .int)) (hG : Gs E l) (hex : ∀ x ∈ c.exceptionTable.toList, False) {v2 : Option Nat} {h : PH} {r : ((Int32 × PH) ⊕ (Nat × PH))} (hM : MC + X0 = (xT2 r)) (hN : MS + V0 = (vT2 r)) (hu : uc + X0 = hX h) (hv : us + V0 = hV h) (hf : fX11_removeText_b12 v2 h = some r)  : PW E p l e (rmv 51 MC MS) s m args below meth c 3 uc us (vx_MQ below (QG E (fun v u => ∃ z, r = .inl z ∧ v = some (.int z.1) ∧ u = z.2)) (XG E (fun En u => ∃ (z : Nat × PH) (n : Nat), r = .inr z ∧ En = exn z.1 ∧ hX z.2 ≤ n ∧ u = hbump z.2 n)) args s MC MS (pA E)) h 12 [(2, some (va_rf v2))] [] := by
  have hm1 : lez h (xT2 r) (vT2 r) := mX11_removeText_b12 hf
  have hcm : uc ≤ MC := (by have o0 := hm1.1; have o1 := hM; have o2 := hu; (try simp only [hX_sI, hX_sR, hX_sL, hX_sD, hX_sIa, hX_sRa, hV_sI, hV_sR, hV_sL, hV_sD, hV_sIa, hV_sRa, hX_new, hV_new] at o0 o1 o2 ⊢); omega)
  have hsm : us ≤ MS := (by have o0 := hm1.2; have o1 := hN; have o2 := hv; (try simp only [hX_sI, hX_sR, hX_sL, hX_sD, hX_sIa, hX_sRa, hV_sI, hV_sR, hV_sL, hV_sD, hV_sIa, hV_sRa, hX_new, hV_new] at o0 o1 o2 ⊢); omega)
  clear hm1
  unfold fX11_removeText_b12 at hf
  refine p_aloadq_n X (dcg dc_X11_removeText 8 rfl) rfl rfl ?_
  obtain ⟨a6, e7, hf⟩ := gs_some hf
  first | subst e7 | (try rw [e7])
  obtain ⟨hk8, hf⟩ := gd_some hf
  obtain ⟨z9, hz9, hf⟩ := bd_some hf
  refine p_callV (As := []) X ml_X11_123 (dcg dc_X11_removeText 9 rfl) rfl rfl hk8 (wX8_size hG hz9) (by decide) (room4 (Nat.le_of_ble_eq_true rfl)) hcm hsm ?_
  rintro _ u9 ⟨rfl, e9⟩; have e9 := e9.symm; subst e9
  have er := Option.some.inj hf
  subst er
  refine p_vx ?_
  exact p_iret X rfl (dcg dc_X11_removeText 10 rfl) ⟨_, rfl, rfl, rfl⟩ hcm hsm
noncomputable def fX11_removeText_b5 (v0 : Nat) (v1 : Int32) (t0 : Option Nat) (h : PH) : Option ((Int32 × PH) ⊕ (Nat × PH)) :=
  gd (hK h v0 = 11) (bd (fX11_change v0 v1 none h) (fun z5 =>
  fX11_removeText_b12 t0 z5))
set_option maxRecDepth 100000 in
theorem mX11_removeText_b5 {v0 : Nat} {v1 : Int32} {t0 : Option Nat} {h : PH} {r : ((Int32 × PH) ⊕ (Nat × PH))} (hf : fX11_removeText_b5 v0 v1 t0 h = some r) : lez h (xT2 r) (vT2 r) := by
  unfold fX11_removeText_b5 at hf
  have hle := lez_rf h
  obtain ⟨hk4, hf⟩ := gd_some hf
  obtain ⟨z5, hz5, hf⟩ := bd_some hf
  have hle := lez_rt (mX11_change hz5) hle
  exact lez_rt (mX11_removeText_b12 hf) hle
set_option maxRecDepth 100000 in
theorem wX11_removeText_b5 {E : PE} {p : Program} {l : Launch} {e : Env} {s : State} {m : MethodId} {args : Array Value} {below : List Frame} {meth : Method} {c : Code} {X0 V0 MC MS uc us : Nat} (X : Cx E p l e (rmv 51 MC MS) s m args below meth c RX11 cX11_removeText 3 (some .int)) (hG : Gs E l) (hex : ∀ x ∈ c.exceptionTable.toList, False) {v0 : Nat} {v1 : Int32} {t0 : Option Nat} {h : PH} {r : ((Int32 × PH) ⊕ (Nat × PH))} (hM : MC + X0 = (xT2 r)) (hN : MS + V0 = (vT2 r)) (hu : uc + X0 = hX h) (hv : us + V0 = hV h) (hf : fX11_removeText_b5 v0 v1 t0 h = some r)  : PW E p l e (rmv 51 MC MS) s m args below meth c 3 uc us (vx_MQ below (QG E (fun v u => ∃ z, r = .inl z ∧ v = some (.int z.1) ∧ u = z.2)) (XG E (fun En u => ∃ (z : Nat × PH) (n : Nat), r = .inr z ∧ En = exn z.1 ∧ hX z.2 ≤ n ∧ u = hbump z.2 n)) args s MC MS (pA E)) h 5 [(0, some (.ref v0)), (1, some (.int v1))] [va_rf t0] := by
  have hm1 : lez h (xT2 r) (vT2 r) := mX11_removeText_b5 hf
  have hcm : uc ≤ MC := (by have o0 := hm1.1; have o1 := hM; have o2 := hu; (try simp only [hX_sI, hX_sR, hX_sL, hX_sD, hX_sIa, hX_sRa, hV_sI, hV_sR, hV_sL, hV_sD, hV_sIa, hV_sRa, hX_new, hV_new] at o0 o1 o2 ⊢); omega)
  have hsm : us ≤ MS := (by have o0 := hm1.2; have o1 := hN; have o2 := hv; (try simp only [hX_sI, hX_sR, hX_sL, hX_sD, hX_sIa, hX_sRa, hV_sI, hV_sR, hV_sL, hV_sD, hV_sIa, hV_sRa, hX_new, hV_new] at o0 o1 o2 ⊢); omega)
  clear hm1
  unfold fX11_removeText_b5 at hf
  refine p_astoreq_n X (dcg dc_X11_removeText 3 rfl) rfl (by decide) rfl ?_
  refine p_aload_n X (dcg dc_X11_removeText 4 rfl) rfl rfl ?_
  refine p_iload_n X (dcg dc_X11_removeText 5 rfl) rfl rfl ?_
  refine p_null X (dcg dc_X11_removeText 6 rfl) ?_
  obtain ⟨hk4, hf⟩ := gd_some hf
  obtain ⟨z5, hz5, hf⟩ := bd_some hf
  have hc1 := mX11_change hz5
  have hm1 : lez _ (xT2 r) (vT2 r) := mX11_removeText_b12 hf
  refine p_callV (As := [_, va_rf _]) X ml_X11_115 (dcg dc_X11_removeText 7 rfl) rfl rfl hk4 (wX11_change hG hz5) (by decide) (room4 (Nat.le_of_ble_eq_true rfl)) (by have o0 := hm1.1; have o1 := hc1.1; have o2 := hM; have o3 := hu; (try simp only [hX_sI, hX_sR, hX_sL, hX_sD, hX_sIa, hX_sRa, hV_sI, hV_sR, hV_sL, hV_sD, hV_sIa, hV_sRa, hX_new, hV_new] at o0 o1 o2 o3 ⊢); omega) (by have o0 := hm1.2; have o1 := hc1.2; have o2 := hN; have o3 := hv; (try simp only [hX_sI, hX_sR, hX_sL, hX_sD, hX_sIa, hX_sRa, hV_sI, hV_sR, hV_sL, hV_sD, hV_sIa, hV_sRa, hX_new, hV_new] at o0 o1 o2 o3 ⊢); omega) ?_
  rintro _ u9 ⟨rfl, e9⟩; have e9 := e9.symm; subst e9
  refine p_pick [2] ?_
  exact wX11_removeText_b12 X hG hex hM hN (by have o0 := hc1.1; have o1 := hu; (try simp only [hX_sI, hX_sR, hX_sL, hX_sD, hX_sIa, hX_sRa, hV_sI, hV_sR, hV_sL, hV_sD, hV_sIa, hV_sRa, hX_new, hV_new] at o0 o1 ⊢); omega) (by have o0 := hc1.2; have o1 := hv; (try simp only [hX_sI, hX_sR, hX_sL, hX_sD, hX_sIa, hX_sRa, hV_sI, hV_sR, hV_sL, hV_sD, hV_sIa, hV_sRa, hX_new, hV_new] at o0 o1 ⊢); omega) hf 
noncomputable def fX11_removeText_b0 (v0 : Nat) (v1 : Int32) (h : PH) : Option ((Int32 × PH) ⊕ (Nat × PH)) :=
  gd (hK h v0 = 11) (bx (fX11_demandText v0 v1 h) (fun z2 =>
  fX11_removeText_b5 v0 v1 z2.1 z2.2))
set_option maxRecDepth 100000 in
theorem mX11_removeText_b0 {v0 : Nat} {v1 : Int32} {h : PH} {r : ((Int32 × PH) ⊕ (Nat × PH))} (hf : fX11_removeText_b0 v0 v1 h = some r) : lez h (xT2 r) (vT2 r) := by
  unfold fX11_removeText_b0 at hf
  have hle := lez_rf h
  obtain ⟨hk1, hf⟩ := gd_some hf
  obtain ⟨y3, hy3, h1y3, h2y3⟩ := bx_some hf
  have hc1 := mX11_demandText hy3
  rcases y3 with z2 | z2
  · have hf := h1y3 z2 rfl
    have hle : lez h (hX z2.2) (hV z2.2) := lez_rt hc1 hle
    exact lez_rt (mX11_removeText_b5 hf) hle
  · have hr9 := h2y3 z2 rfl
    subst hr9
    exact lez_rt hc1 hle
set_option maxRecDepth 100000 in
theorem wX11_removeText_b0 {E : PE} {p : Program} {l : Launch} {e : Env} {s : State} {m : MethodId} {args : Array Value} {below : List Frame} {meth : Method} {c : Code} {X0 V0 MC MS uc us : Nat} (X : Cx E p l e (rmv 51 MC MS) s m args below meth c RX11 cX11_removeText 3 (some .int)) (hG : Gs E l) (hex : ∀ x ∈ c.exceptionTable.toList, False) {v0 : Nat} {v1 : Int32} {h : PH} {r : ((Int32 × PH) ⊕ (Nat × PH))} (hM : MC + X0 = (xT2 r)) (hN : MS + V0 = (vT2 r)) (hu : uc + X0 = hX h) (hv : us + V0 = hV h) (hf : fX11_removeText_b0 v0 v1 h = some r)  : PW E p l e (rmv 51 MC MS) s m args below meth c 3 uc us (vx_MQ below (QG E (fun v u => ∃ z, r = .inl z ∧ v = some (.int z.1) ∧ u = z.2)) (XG E (fun En u => ∃ (z : Nat × PH) (n : Nat), r = .inr z ∧ En = exn z.1 ∧ hX z.2 ≤ n ∧ u = hbump z.2 n)) args s MC MS (pA E)) h 0 [(0, some (.ref v0)), (1, some (.int v1))] [] := by
  have hm1 : lez h (xT2 r) (vT2 r) := mX11_removeText_b0 hf
  have hcm : uc ≤ MC := (by have o0 := hm1.1; have o1 := hM; have o2 := hu; (try simp only [hX_sI, hX_sR, hX_sL, hX_sD, hX_sIa, hX_sRa, hV_sI, hV_sR, hV_sL, hV_sD, hV_sIa, hV_sRa, hX_new, hV_new] at o0 o1 o2 ⊢); omega)
  have hsm : us ≤ MS := (by have o0 := hm1.2; have o1 := hN; have o2 := hv; (try simp only [hX_sI, hX_sR, hX_sL, hX_sD, hX_sIa, hX_sRa, hV_sI, hV_sR, hV_sL, hV_sD, hV_sIa, hV_sRa, hX_new, hV_new] at o0 o1 o2 ⊢); omega)
  clear hm1
  unfold fX11_removeText_b0 at hf
  refine p_aload_n X (dcg dc_X11_removeText 0 rfl) rfl rfl ?_
  refine p_iload_n X (dcg dc_X11_removeText 1 rfl) rfl rfl ?_
  obtain ⟨hk1, hf⟩ := gd_some hf
  obtain ⟨y3, hy3, h1y3, h2y3⟩ := bx_some hf
  have hc1 := mX11_demandText hy3
  rcases y3 with z2 | z2
  · have hf := h1y3 z2 rfl
    have hm1 : lez _ (xT2 r) (vT2 r) := mX11_removeText_b5 hf
    refine p_callVX (As := [_]) X hex ml_X11_119 (dcg dc_X11_removeText 2 rfl) rfl rfl hk1 (wX11_demandText hG hy3) (by decide) (room4 (Nat.le_of_ble_eq_true rfl)) (show uc + (hX z2.2 - hX h) ≤ MC from (by have o0 := hm1.1; have o1 := (show lez h (hX z2.2) (hV z2.2) from hc1).1; have o2 := hM; have o3 := hu; (try simp only [hX_sI, hX_sR, hX_sL, hX_sD, hX_sIa, hX_sRa, hV_sI, hV_sR, hV_sL, hV_sD, hV_sIa, hV_sRa, hX_new, hV_new] at o0 o1 o2 o3 ⊢); omega)) (show us + (hV z2.2 - hV h) ≤ MS from (by have o0 := hm1.2; have o1 := (show lez h (hX z2.2) (hV z2.2) from hc1).2; have o2 := hN; have o3 := hv; (try simp only [hX_sI, hX_sR, hX_sL, hX_sD, hX_sIa, hX_sRa, hV_sI, hV_sR, hV_sL, hV_sD, hV_sIa, hV_sRa, hX_new, hV_new] at o0 o1 o2 o3 ⊢); omega)) (show uc + (hX z2.2 - hX h) ≤ MC from (by have o0 := hm1.1; have o1 := (show lez h (hX z2.2) (hV z2.2) from hc1).1; have o2 := hM; have o3 := hu; (try simp only [hX_sI, hX_sR, hX_sL, hX_sD, hX_sIa, hX_sRa, hV_sI, hV_sR, hV_sL, hV_sD, hV_sIa, hV_sRa, hX_new, hV_new] at o0 o1 o2 o3 ⊢); omega)) (show us + (hV z2.2 - hV h) ≤ MS from (by have o0 := hm1.2; have o1 := (show lez h (hX z2.2) (hV z2.2) from hc1).2; have o2 := hN; have o3 := hv; (try simp only [hX_sI, hX_sR, hX_sL, hX_sD, hX_sIa, hX_sRa, hV_sI, hV_sR, hV_sL, hV_sD, hV_sIa, hV_sRa, hX_new, hV_new] at o0 o1 o2 o3 ⊢); omega)) (fun En u q => by obtain ⟨z9, n9, q9, _⟩ := q; cases q9) ?_
    rintro _ _ ⟨z9, hz9, rfl, rfl⟩
    cases hz9
    refine p_pick [0, 1] ?_
    exact wX11_removeText_b5 X hG hex hM hN (show uc + (hX z2.2 - hX h) + X0 = hX z2.2 from (by have o0 := (show lez h (hX z2.2) (hV z2.2) from hc1).1; have o1 := hu; (try simp only [hX_sI, hX_sR, hX_sL, hX_sD, hX_sIa, hX_sRa, hV_sI, hV_sR, hV_sL, hV_sD, hV_sIa, hV_sRa, hX_new, hV_new] at o0 o1 ⊢); omega)) (show us + (hV z2.2 - hV h) + V0 = hV z2.2 from (by have o0 := (show lez h (hX z2.2) (hV z2.2) from hc1).2; have o1 := hv; (try simp only [hX_sI, hX_sR, hX_sL, hX_sD, hX_sIa, hX_sRa, hV_sI, hV_sR, hV_sL, hV_sD, hV_sIa, hV_sRa, hX_new, hV_new] at o0 o1 ⊢); omega)) hf 
  · have hr9 := h2y3 z2 rfl
    subst hr9
    refine p_callVX (As := [_]) X hex ml_X11_119 (dcg dc_X11_removeText 2 rfl) rfl rfl hk1 (wX11_demandText hG hy3) (by decide) (room4 (Nat.le_of_ble_eq_true rfl)) (show uc + (hX z2.2 + 1 - hX h) ≤ MC from (by have o0 := (show lez h (hX z2.2 + 1) (hV z2.2 + 6) from hc1).1; have o1 := (show MC + X0 = hX z2.2 + 1 from hM); have o2 := hu; (try simp only [hX_sI, hX_sR, hX_sL, hX_sD, hX_sIa, hX_sRa, hV_sI, hV_sR, hV_sL, hV_sD, hV_sIa, hV_sRa, hX_new, hV_new] at o0 o1 o2 ⊢); omega)) (show us + (hV z2.2 + 6 - hV h) ≤ MS from (by have o0 := (show lez h (hX z2.2 + 1) (hV z2.2 + 6) from hc1).2; have o1 := (show MS + V0 = hV z2.2 + 6 from hN); have o2 := hv; (try simp only [hX_sI, hX_sR, hX_sL, hX_sD, hX_sIa, hX_sRa, hV_sI, hV_sR, hV_sL, hV_sD, hV_sIa, hV_sRa, hX_new, hV_new] at o0 o1 o2 ⊢); omega)) (show uc + (hX z2.2 + 1 - hX h) ≤ MC from (by have o0 := (show lez h (hX z2.2 + 1) (hV z2.2 + 6) from hc1).1; have o1 := (show MC + X0 = hX z2.2 + 1 from hM); have o2 := hu; (try simp only [hX_sI, hX_sR, hX_sL, hX_sD, hX_sIa, hX_sRa, hV_sI, hV_sR, hV_sL, hV_sD, hV_sIa, hV_sRa, hX_new, hV_new] at o0 o1 o2 ⊢); omega)) (show us + (hV z2.2 + 6 - hV h) ≤ MS from (by have o0 := (show lez h (hX z2.2 + 1) (hV z2.2 + 6) from hc1).2; have o1 := (show MS + V0 = hV z2.2 + 6 from hN); have o2 := hv; (try simp only [hX_sI, hX_sR, hX_sL, hX_sD, hX_sIa, hX_sRa, hV_sI, hV_sR, hV_sL, hV_sD, hV_sIa, hV_sRa, hX_new, hV_new] at o0 o1 o2 ⊢); omega)) (fun En u q => by obtain ⟨z9, n9, q9, q8⟩ := q; cases q9; exact ⟨_, n9, rfl, q8⟩) ?_
    rintro _ _ ⟨z9, hz9, _⟩
    cases hz9
noncomputable def fX11_removeText (v0 : Nat) (v1 : Int32) (h : PH) : Option ((Int32 × PH) ⊕ (Nat × PH)) :=
  fX11_removeText_b0 v0 v1 h
set_option maxRecDepth 100000 in
theorem mX11_removeText {v0 : Nat} {v1 : Int32} {h : PH} {r : ((Int32 × PH) ⊕ (Nat × PH))} (hf : fX11_removeText v0 v1 h = some r) : lez h (xT2 r) (vT2 r) := by
  unfold fX11_removeText at hf
  have hle := lez_rf h
  exact lez_rt (mX11_removeText_b0 hf) hle
set_option maxRecDepth 100000 in
theorem wX11_removeText {E : PE} {l : Launch} (hG : Gs E l) {v0 : Nat} {v1 : Int32} {h : PH} {r : ((Int32 × PH) ⊕ (Nat × PH))} (hf : fX11_removeText v0 v1 h = some r) : CtX E l 51 ((xT2 r) - hX h) ((vT2 r) - hV h) yX11_removeText cX11_removeText 3 (some .int) [.ref v0, .int v1] h (fun v u => ∃ z, r = .inl z ∧ v = some (.int z.1) ∧ u = z.2) (fun En u => ∃ (z : Nat × PH) (n : Nat), r = .inr z ∧ En = exn z.1 ∧ hX z.2 ≤ n ∧ u = hbump z.2 n) := by
  have hmm := mX11_removeText hf
  refine ctx_of hG (by decide) (Nat.le_of_ble_eq_true rfl) ?_
  intro p e s m args below meth c X hex
  show PW E p l e _ s m args below meth c _ 0 0 _ h 0 [(0, some (.ref v0)), (1, some (.int v1))] []
  unfold fX11_removeText at hf
  have hM := Nat.sub_add_cancel hmm.1
  have hN := Nat.sub_add_cancel hmm.2
  refine p_pick [0, 1] ?_
  exact wX11_removeText_b0 X hG hex hM hN (Nat.zero_add _) (Nat.zero_add _) hf
theorem dc_X11_demandWord : decs cX11_demandWord [(0, .iload_n 0, 1), (1, .invokestatic 333, 3), (4, .ifCond .ne 11, 3), (7, .new 112, 3), (10, .dup, 1), (11, .invokespecial 114, 3), (14, .athrow, 1), (15, .return_, 1)] = true := by decide +kernel
noncomputable def fX11_demandWord_b0 (v0 : Int32) (h : PH) : Option (PH ⊕ (Nat × PH)) :=
  bd (fX10_isNumber v0) (fun z1 =>
  if (¬ z1 = 0) then (some (.inl (h))) else
  some (.inr (1, h)))
set_option maxRecDepth 100000 in
theorem mX11_demandWord_b0 {v0 : Int32} {h : PH} {r : (PH ⊕ (Nat × PH))} (hf : fX11_demandWord_b0 v0 h = some r) : lez h (xT1 r) (vT1 r) := by
  unfold fX11_demandWord_b0 at hf
  have hle := lez_rf h
  obtain ⟨z1, hz1, hf⟩ := bd_some hf
  rcases ite_or hf with ⟨q, hf⟩ | ⟨q, hf⟩
  · have hf := if_t q hf
    have ee := Option.some.inj hf; subst ee; exact hle
  · have hf := if_f q hf
    cases hf; exact lez_up hle
set_option maxRecDepth 100000 in
theorem wX11_demandWord_b0 {E : PE} {p : Program} {l : Launch} {e : Env} {s : State} {m : MethodId} {args : Array Value} {below : List Frame} {meth : Method} {c : Code} {X0 V0 MC MS uc us : Nat} (X : Cx E p l e (rmv 8 MC MS) s m args below meth c RX11 cX11_demandWord 1 (none)) (hG : Gs E l) (hex : ∀ x ∈ c.exceptionTable.toList, False) {v0 : Int32} {h : PH} {r : (PH ⊕ (Nat × PH))} (hM : MC + X0 = (xT1 r)) (hN : MS + V0 = (vT1 r)) (hu : uc + X0 = hX h) (hv : us + V0 = hV h) (hf : fX11_demandWord_b0 v0 h = some r)  : PW E p l e (rmv 8 MC MS) s m args below meth c 1 uc us (vx_MQ below (QG E (fun v u => ∃ z, r = .inl z ∧ v = none ∧ u = z)) (XG E (fun En u => ∃ (z : Nat × PH) (n : Nat), r = .inr z ∧ En = exn z.1 ∧ hX z.2 ≤ n ∧ u = hbump z.2 n)) args s MC MS (pA E)) h 0 [(0, some (.int v0))] [] := by
  have hm1 : lez h (xT1 r) (vT1 r) := mX11_demandWord_b0 hf
  have hcm : uc ≤ MC := (by have o0 := hm1.1; have o1 := hM; have o2 := hu; (try simp only [hX_sI, hX_sR, hX_sL, hX_sD, hX_sIa, hX_sRa, hV_sI, hV_sR, hV_sL, hV_sD, hV_sIa, hV_sRa, hX_new, hV_new] at o0 o1 o2 ⊢); omega)
  have hsm : us ≤ MS := (by have o0 := hm1.2; have o1 := hN; have o2 := hv; (try simp only [hX_sI, hX_sR, hX_sL, hX_sD, hX_sIa, hX_sRa, hV_sI, hV_sR, hV_sL, hV_sD, hV_sIa, hV_sRa, hX_new, hV_new] at o0 o1 o2 ⊢); omega)
  clear hm1
  unfold fX11_demandWord_b0 at hf
  refine p_iload_n X (dcg dc_X11_demandWord 0 rfl) rfl rfl ?_
  obtain ⟨z1, hz1, hf⟩ := bd_some hf
  refine p_callS (As := [_]) X ml_X11_333 (dcg dc_X11_demandWord 1 rfl) rfl rfl  (wX10_isNumber hG hz1) (by decide) (room4 (Nat.le_of_ble_eq_true rfl)) hcm hsm ?_
  rintro _ u9 ⟨rfl, e9⟩; have e9 := e9.symm; subst e9
  refine p_if_ne (tgt := 15) X (dcg dc_X11_demandWord 2 rfl) (by decide) (fun q => ?_) (fun q => ?_)
  · have hf := if_t q hf
    have er := Option.some.inj hf
    subst er
    refine p_vx ?_
    exact p_vret X rfl (dcg dc_X11_demandWord 7 rfl) ⟨_, rfl, rfl, rfl⟩ hcm hsm
  · have hf := if_f q hf
    have er := Option.some.inj hf
    subst er
    exact p_throw0 (cls := "java/lang/IllegalArgumentException") (names := ["java/lang/RuntimeException", "java/lang/Exception"]) X hex (by decide) (by decide) tw_1180 tw_122 th_X11_114a th_X11_114b th_X11_114c th_X11_114d (dcg dc_X11_demandWord 3 rfl) (dcg dc_X11_demandWord 4 rfl) (dcg dc_X11_demandWord 5 rfl) (dcg dc_X11_demandWord 6 rfl) (Nat.le_of_ble_eq_true rfl) (Nat.le_trans (Nat.add_le_add_right (room4 (Nat.le_of_ble_eq_true rfl)) _) (Nat.le_of_ble_eq_true rfl)) (show uc + 1 ≤ MC from (by have o0 := (show MC + X0 = hX h + 1 from hM); have o1 := hu; (try simp only [hX_sI, hX_sR, hX_sL, hX_sD, hX_sIa, hX_sRa, hV_sI, hV_sR, hV_sL, hV_sD, hV_sIa, hV_sRa, hX_new, hV_new] at o0 o1 ⊢); omega)) (show us + 6 ≤ MS from (by have o0 := (show MS + V0 = hV h + 6 from hN); have o1 := hv; (try simp only [hX_sI, hX_sR, hX_sL, hX_sD, hX_sIa, hX_sRa, hV_sI, hV_sR, hV_sL, hV_sD, hV_sIa, hV_sRa, hX_new, hV_new] at o0 o1 ⊢); omega)) (show uc + 1 ≤ MC from (by have o0 := (show MC + X0 = hX h + 1 from hM); have o1 := hu; (try simp only [hX_sI, hX_sR, hX_sL, hX_sD, hX_sIa, hX_sRa, hV_sI, hV_sR, hV_sL, hV_sD, hV_sIa, hV_sRa, hX_new, hV_new] at o0 o1 ⊢); omega)) (show us + 6 ≤ MS from (by have o0 := (show MS + V0 = hV h + 6 from hN); have o1 := hv; (try simp only [hX_sI, hX_sR, hX_sL, hX_sD, hX_sIa, hX_sRa, hV_sI, hV_sR, hV_sL, hV_sD, hV_sIa, hV_sRa, hX_new, hV_new] at o0 o1 ⊢); omega)) (fun n hn => ⟨_, n, rfl, rfl, hn, rfl⟩)
noncomputable def fX11_demandWord (v0 : Int32) (h : PH) : Option (PH ⊕ (Nat × PH)) :=
  fX11_demandWord_b0 v0 h
set_option maxRecDepth 100000 in
theorem mX11_demandWord {v0 : Int32} {h : PH} {r : (PH ⊕ (Nat × PH))} (hf : fX11_demandWord v0 h = some r) : lez h (xT1 r) (vT1 r) := by
  unfold fX11_demandWord at hf
  have hle := lez_rf h
  exact lez_rt (mX11_demandWord_b0 hf) hle
set_option maxRecDepth 100000 in
theorem wX11_demandWord {E : PE} {l : Launch} (hG : Gs E l) {v0 : Int32} {h : PH} {r : (PH ⊕ (Nat × PH))} (hf : fX11_demandWord v0 h = some r) : CtX E l 8 ((xT1 r) - hX h) ((vT1 r) - hV h) yX11_demandWord cX11_demandWord 1 (none) [.int v0] h (fun v u => ∃ z, r = .inl z ∧ v = none ∧ u = z) (fun En u => ∃ (z : Nat × PH) (n : Nat), r = .inr z ∧ En = exn z.1 ∧ hX z.2 ≤ n ∧ u = hbump z.2 n) := by
  have hmm := mX11_demandWord hf
  refine ctx_of hG (by decide) (Nat.le_of_ble_eq_true rfl) ?_
  intro p e s m args below meth c X hex
  show PW E p l e _ s m args below meth c _ 0 0 _ h 0 [(0, some (.int v0))] []
  unfold fX11_demandWord at hf
  have hM := Nat.sub_add_cancel hmm.1
  have hN := Nat.sub_add_cancel hmm.2
  refine p_pick [0] ?_
  exact wX11_demandWord_b0 X hG hex hM hN (Nat.zero_add _) (Nat.zero_add _) hf
theorem dc_X11_putWord : decs cX11_putWord [(0, .aload_n 0, 1), (1, .iload_n 1, 1), (2, .invokevirtual 119, 3), (5, .astore 4, 2), (7, .iload_n 2, 1), (8, .ifCond .lt 12, 3), (11, .iload_n 2, 1), (12, .aload 4, 2), (14, .invokevirtual 123, 3), (17, .if_icmp .le 11, 3), (20, .new 125, 3), (23, .dup, 1), (24, .invokespecial 127, 3), (27, .athrow, 1), (28, .iload_n 3, 1), (29, .invokestatic 128, 3), (32, .aload 4, 2), (34, .invokevirtual 123, 3), (37, .bipush 40, 2), (39, .if_icmp .lt 11, 3), (42, .new 94, 3), (45, .dup, 1), (46, .invokespecial 96, 3), (49, .athrow, 1), (50, .aload_n 0, 1), (51, .iload_n 1, 1), (52, .aload 4, 2), (54, .iload_n 2, 1), (55, .iload_n 3, 1), (56, .invokevirtual 131, 3), (59, .invokevirtual 115, 3), (62, .aload 4, 2), (64, .invokevirtual 123, 3), (67, .iconst 1, 1), (68, .iadd, 1), (69, .ireturn, 1)] = true := by decide +kernel
noncomputable def fX11_putWord_b20  (h : PH) : Option ((Int32 × PH) ⊕ (Nat × PH)) :=
  some (.inr (2, h))
set_option maxRecDepth 100000 in
theorem mX11_putWord_b20  {h : PH} {r : ((Int32 × PH) ⊕ (Nat × PH))} (hf : fX11_putWord_b20  h = some r) : lez h (xT2 r) (vT2 r) := by
  unfold fX11_putWord_b20 at hf
  have hle := lez_rf h
  cases hf; exact lez_up hle
set_option maxRecDepth 100000 in
theorem wX11_putWord_b20 {E : PE} {p : Program} {l : Launch} {e : Env} {s : State} {m : MethodId} {args : Array Value} {below : List Frame} {meth : Method} {c : Code} {X0 V0 MC MS uc us : Nat} (X : Cx E p l e (rmv 51 MC MS) s m args below meth c RX11 cX11_putWord 5 (some .int)) (hG : Gs E l) (hex : ∀ x ∈ c.exceptionTable.toList, False)  {h : PH} {r : ((Int32 × PH) ⊕ (Nat × PH))} (hM : MC + X0 = (xT2 r)) (hN : MS + V0 = (vT2 r)) (hu : uc + X0 = hX h) (hv : us + V0 = hV h) (hf : fX11_putWord_b20  h = some r)  : PW E p l e (rmv 51 MC MS) s m args below meth c 5 uc us (vx_MQ below (QG E (fun v u => ∃ z, r = .inl z ∧ v = some (.int z.1) ∧ u = z.2)) (XG E (fun En u => ∃ (z : Nat × PH) (n : Nat), r = .inr z ∧ En = exn z.1 ∧ hX z.2 ≤ n ∧ u = hbump z.2 n)) args s MC MS (pA E)) h 20 [] [] := by
  have hm1 : lez h (xT2 r) (vT2 r) := mX11_putWord_b20 hf
  have hcm : uc ≤ MC := (by have o0 := hm1.1; have o1 := hM; have o2 := hu; (try simp only [hX_sI, hX_sR, hX_sL, hX_sD, hX_sIa, hX_sRa, hV_sI, hV_sR, hV_sL, hV_sD, hV_sIa, hV_sRa, hX_new, hV_new] at o0 o1 o2 ⊢); omega)
  have hsm : us ≤ MS := (by have o0 := hm1.2; have o1 := hN; have o2 := hv; (try simp only [hX_sI, hX_sR, hX_sL, hX_sD, hX_sIa, hX_sRa, hV_sI, hV_sR, hV_sL, hV_sD, hV_sIa, hV_sRa, hX_new, hV_new] at o0 o1 o2 ⊢); omega)
  clear hm1
  unfold fX11_putWord_b20 at hf
  have er := Option.some.inj hf
  subst er
  exact p_throw0 (cls := "java/lang/IndexOutOfBoundsException") (names := ["java/lang/RuntimeException", "java/lang/Exception"]) X hex (by decide) (by decide) tw_1205 tw_127 th_X11_127a th_X11_127b th_X11_127c th_X11_127d (dcg dc_X11_putWord 10 rfl) (dcg dc_X11_putWord 11 rfl) (dcg dc_X11_putWord 12 rfl) (dcg dc_X11_putWord 13 rfl) (Nat.le_of_ble_eq_true rfl) (Nat.le_trans (Nat.add_le_add_right (room4 (Nat.le_of_ble_eq_true rfl)) _) (Nat.le_of_ble_eq_true rfl)) (show uc + 1 ≤ MC from (by have o0 := (show MC + X0 = hX h + 1 from hM); have o1 := hu; (try simp only [hX_sI, hX_sR, hX_sL, hX_sD, hX_sIa, hX_sRa, hV_sI, hV_sR, hV_sL, hV_sD, hV_sIa, hV_sRa, hX_new, hV_new] at o0 o1 ⊢); omega)) (show us + 6 ≤ MS from (by have o0 := (show MS + V0 = hV h + 6 from hN); have o1 := hv; (try simp only [hX_sI, hX_sR, hX_sL, hX_sD, hX_sIa, hX_sRa, hV_sI, hV_sR, hV_sL, hV_sD, hV_sIa, hV_sRa, hX_new, hV_new] at o0 o1 ⊢); omega)) (show uc + 1 ≤ MC from (by have o0 := (show MC + X0 = hX h + 1 from hM); have o1 := hu; (try simp only [hX_sI, hX_sR, hX_sL, hX_sD, hX_sIa, hX_sRa, hV_sI, hV_sR, hV_sL, hV_sD, hV_sIa, hV_sRa, hX_new, hV_new] at o0 o1 ⊢); omega)) (show us + 6 ≤ MS from (by have o0 := (show MS + V0 = hV h + 6 from hN); have o1 := hv; (try simp only [hX_sI, hX_sR, hX_sL, hX_sD, hX_sIa, hX_sRa, hV_sI, hV_sR, hV_sL, hV_sD, hV_sIa, hV_sRa, hX_new, hV_new] at o0 o1 ⊢); omega)) (fun n hn => ⟨_, n, rfl, rfl, hn, rfl⟩)
noncomputable def fX11_putWord_b62 (v4 : Option Nat) (h : PH) : Option ((Int32 × PH) ⊕ (Nat × PH)) :=
  gs v4 (fun a17 =>
  gd (hK h a17 = 8) (bd (fX8_size a17 h) (fun z20 =>
  some (.inl (((z20 + (1 : Int32)), h))))))
set_option maxRecDepth 100000 in
theorem mX11_putWord_b62 {v4 : Option Nat} {h : PH} {r : ((Int32 × PH) ⊕ (Nat × PH))} (hf : fX11_putWord_b62 v4 h = some r) : lez h (xT2 r) (vT2 r) := by
  unfold fX11_putWord_b62 at hf
  have hle := lez_rf h
  obtain ⟨a17, e18, hf⟩ := gs_some hf
  obtain ⟨hk19, hf⟩ := gd_some hf
  obtain ⟨z20, hz20, hf⟩ := bd_some hf
  have ee := Option.some.inj hf; subst ee; exact hle
set_option maxRecDepth 100000 in
theorem wX11_putWord_b62 {E : PE} {p : Program} {l : Launch} {e : Env} {s : State} {m : MethodId} {args : Array Value} {below : List Frame} {meth : Method} {c : Code} {X0 V0 MC MS uc us : Nat} (X : Cx E p l e (rmv 51 MC MS) s m args below meth c RX11 cX11_putWord 5 (some .int)) (hG : Gs E l) (hex : ∀ x ∈ c.exceptionTable.toList, False) {v4 : Option Nat} {h : PH} {r : ((Int32 × PH) ⊕ (Nat × PH))} (hM : MC + X0 = (xT2 r)) (hN : MS + V0 = (vT2 r)) (hu : uc + X0 = hX h) (hv : us + V0 = hV h) (hf : fX11_putWord_b62 v4 h = some r)  : PW E p l e (rmv 51 MC MS) s m args below meth c 5 uc us (vx_MQ below (QG E (fun v u => ∃ z, r = .inl z ∧ v = some (.int z.1) ∧ u = z.2)) (XG E (fun En u => ∃ (z : Nat × PH) (n : Nat), r = .inr z ∧ En = exn z.1 ∧ hX z.2 ≤ n ∧ u = hbump z.2 n)) args s MC MS (pA E)) h 62 [(4, some (va_rf v4))] [] := by
  have hm1 : lez h (xT2 r) (vT2 r) := mX11_putWord_b62 hf
  have hcm : uc ≤ MC := (by have o0 := hm1.1; have o1 := hM; have o2 := hu; (try simp only [hX_sI, hX_sR, hX_sL, hX_sD, hX_sIa, hX_sRa, hV_sI, hV_sR, hV_sL, hV_sD, hV_sIa, hV_sRa, hX_new, hV_new] at o0 o1 o2 ⊢); omega)
  have hsm : us ≤ MS := (by have o0 := hm1.2; have o1 := hN; have o2 := hv; (try simp only [hX_sI, hX_sR, hX_sL, hX_sD, hX_sIa, hX_sRa, hV_sI, hV_sR, hV_sL, hV_sD, hV_sIa, hV_sRa, hX_new, hV_new] at o0 o1 o2 ⊢); omega)
  clear hm1
  unfold fX11_putWord_b62 at hf
  refine p_aloadq X (dcg dc_X11_putWord 31 rfl) rfl ?_
  obtain ⟨a17, e18, hf⟩ := gs_some hf
  first | subst e18 | (try rw [e18])
  obtain ⟨hk19, hf⟩ := gd_some hf
  obtain ⟨z20, hz20, hf⟩ := bd_some hf
  refine p_callV (As := []) X ml_X11_123 (dcg dc_X11_putWord 32 rfl) rfl rfl hk19 (wX8_size hG hz20) (by decide) (room4 (Nat.le_of_ble_eq_true rfl)) hcm hsm ?_
  rintro _ u9 ⟨rfl, e9⟩; have e9 := e9.symm; subst e9
  refine p_iconst (v := 1) X (dcg dc_X11_putWord 33 rfl) (by decide) ?_
  refine p_iadd X (dcg dc_X11_putWord 34 rfl) ?_
  have er := Option.some.inj hf
  subst er
  refine p_vx ?_
  exact p_iret X rfl (dcg dc_X11_putWord 35 rfl) ⟨_, rfl, rfl, rfl⟩ hcm hsm
noncomputable def fX11_putWord_b59 (v4 : Option Nat) (t0 : Nat) (t1 : Int32) (t2 : Option Nat) (h : PH) : Option ((Int32 × PH) ⊕ (Nat × PH)) :=
  gd (hK h t0 = 11) (bd (fX11_change t0 t1 t2 h) (fun z16 =>
  fX11_putWord_b62 v4 z16))
set_option maxRecDepth 100000 in
theorem mX11_putWord_b59 {v4 : Option Nat} {t0 : Nat} {t1 : Int32} {t2 : Option Nat} {h : PH} {r : ((Int32 × PH) ⊕ (Nat × PH))} (hf : fX11_putWord_b59 v4 t0 t1 t2 h = some r) : lez h (xT2 r) (vT2 r) := by
  unfold fX11_putWord_b59 at hf
  have hle := lez_rf h
  obtain ⟨hk15, hf⟩ := gd_some hf
  obtain ⟨z16, hz16, hf⟩ := bd_some hf
  have hle := lez_rt (mX11_change hz16) hle
  exact lez_rt (mX11_putWord_b62 hf) hle
set_option maxRecDepth 100000 in
theorem wX11_putWord_b59 {E : PE} {p : Program} {l : Launch} {e : Env} {s : State} {m : MethodId} {args : Array Value} {below : List Frame} {meth : Method} {c : Code} {X0 V0 MC MS uc us : Nat} (X : Cx E p l e (rmv 51 MC MS) s m args below meth c RX11 cX11_putWord 5 (some .int)) (hG : Gs E l) (hex : ∀ x ∈ c.exceptionTable.toList, False) {v4 : Option Nat} {t0 : Nat} {t1 : Int32} {t2 : Option Nat} {h : PH} {r : ((Int32 × PH) ⊕ (Nat × PH))} (hM : MC + X0 = (xT2 r)) (hN : MS + V0 = (vT2 r)) (hu : uc + X0 = hX h) (hv : us + V0 = hV h) (hf : fX11_putWord_b59 v4 t0 t1 t2 h = some r)  : PW E p l e (rmv 51 MC MS) s m args below meth c 5 uc us (vx_MQ below (QG E (fun v u => ∃ z, r = .inl z ∧ v = some (.int z.1) ∧ u = z.2)) (XG E (fun En u => ∃ (z : Nat × PH) (n : Nat), r = .inr z ∧ En = exn z.1 ∧ hX z.2 ≤ n ∧ u = hbump z.2 n)) args s MC MS (pA E)) h 59 [(4, some (va_rf v4))] [va_rf t2, .int t1, .ref t0] := by
  have hm1 : lez h (xT2 r) (vT2 r) := mX11_putWord_b59 hf
  have hcm : uc ≤ MC := (by have o0 := hm1.1; have o1 := hM; have o2 := hu; (try simp only [hX_sI, hX_sR, hX_sL, hX_sD, hX_sIa, hX_sRa, hV_sI, hV_sR, hV_sL, hV_sD, hV_sIa, hV_sRa, hX_new, hV_new] at o0 o1 o2 ⊢); omega)
  have hsm : us ≤ MS := (by have o0 := hm1.2; have o1 := hN; have o2 := hv; (try simp only [hX_sI, hX_sR, hX_sL, hX_sD, hX_sIa, hX_sRa, hV_sI, hV_sR, hV_sL, hV_sD, hV_sIa, hV_sRa, hX_new, hV_new] at o0 o1 o2 ⊢); omega)
  clear hm1
  unfold fX11_putWord_b59 at hf
  obtain ⟨hk15, hf⟩ := gd_some hf
  obtain ⟨z16, hz16, hf⟩ := bd_some hf
  have hc1 := mX11_change hz16
  have hm1 : lez _ (xT2 r) (vT2 r) := mX11_putWord_b62 hf
  refine p_callV (As := [_, va_rf _]) X ml_X11_115 (dcg dc_X11_putWord 30 rfl) rfl rfl hk15 (wX11_change hG hz16) (by decide) (room4 (Nat.le_of_ble_eq_true rfl)) (by have o0 := hm1.1; have o1 := hc1.1; have o2 := hM; have o3 := hu; (try simp only [hX_sI, hX_sR, hX_sL, hX_sD, hX_sIa, hX_sRa, hV_sI, hV_sR, hV_sL, hV_sD, hV_sIa, hV_sRa, hX_new, hV_new] at o0 o1 o2 o3 ⊢); omega) (by have o0 := hm1.2; have o1 := hc1.2; have o2 := hN; have o3 := hv; (try simp only [hX_sI, hX_sR, hX_sL, hX_sD, hX_sIa, hX_sRa, hV_sI, hV_sR, hV_sL, hV_sD, hV_sIa, hV_sRa, hX_new, hV_new] at o0 o1 o2 o3 ⊢); omega) ?_
  rintro _ u9 ⟨rfl, e9⟩; have e9 := e9.symm; subst e9
  refine p_pick [4] ?_
  exact wX11_putWord_b62 X hG hex hM hN (by have o0 := hc1.1; have o1 := hu; (try simp only [hX_sI, hX_sR, hX_sL, hX_sD, hX_sIa, hX_sRa, hV_sI, hV_sR, hV_sL, hV_sD, hV_sIa, hV_sRa, hX_new, hV_new] at o0 o1 ⊢); omega) (by have o0 := hc1.2; have o1 := hv; (try simp only [hX_sI, hX_sR, hX_sL, hX_sD, hX_sIa, hX_sRa, hV_sI, hV_sR, hV_sL, hV_sD, hV_sIa, hV_sRa, hX_new, hV_new] at o0 o1 ⊢); omega) hf 
noncomputable def fX11_putWord_b32 (v0 : Nat) (v1 : Int32) (v2 : Int32) (v3 : Int32) (v4 : Option Nat) (h : PH) : Option ((Int32 × PH) ⊕ (Nat × PH)) :=
  gs v4 (fun a10 =>
  gd (hK h a10 = 8) (bd (fX8_size a10 h) (fun z13 =>
  if (z13 < (40 : Int32)) then (bd (fX8_withPut a10 v2 v3 h) (fun z14 =>
  fX11_putWord_b59 (some a10) v0 v1 z14.1 z14.2)) else
  some (.inr (0, h)))))
set_option maxRecDepth 100000 in
theorem mX11_putWord_b32 {v0 : Nat} {v1 : Int32} {v2 : Int32} {v3 : Int32} {v4 : Option Nat} {h : PH} {r : ((Int32 × PH) ⊕ (Nat × PH))} (hf : fX11_putWord_b32 v0 v1 v2 v3 v4 h = some r) : lez h (xT2 r) (vT2 r) := by
  unfold fX11_putWord_b32 at hf
  have hle := lez_rf h
  obtain ⟨a10, e11, hf⟩ := gs_some hf
  obtain ⟨hk12, hf⟩ := gd_some hf
  obtain ⟨z13, hz13, hf⟩ := bd_some hf
  rcases ite_or hf with ⟨q, hf⟩ | ⟨q, hf⟩
  · have hf := if_t q hf
    obtain ⟨z14, hz14, hf⟩ := bd_some hf
    have hle := lez_rt (mX8_withPut hz14) hle
    exact lez_rt (mX11_putWord_b59 hf) hle
  · have hf := if_f q hf
    cases hf; exact lez_up hle
set_option maxRecDepth 100000 in
theorem wX11_putWord_b32 {E : PE} {p : Program} {l : Launch} {e : Env} {s : State} {m : MethodId} {args : Array Value} {below : List Frame} {meth : Method} {c : Code} {X0 V0 MC MS uc us : Nat} (X : Cx E p l e (rmv 51 MC MS) s m args below meth c RX11 cX11_putWord 5 (some .int)) (hG : Gs E l) (hex : ∀ x ∈ c.exceptionTable.toList, False) {v0 : Nat} {v1 : Int32} {v2 : Int32} {v3 : Int32} {v4 : Option Nat} {h : PH} {r : ((Int32 × PH) ⊕ (Nat × PH))} (hM : MC + X0 = (xT2 r)) (hN : MS + V0 = (vT2 r)) (hu : uc + X0 = hX h) (hv : us + V0 = hV h) (hf : fX11_putWord_b32 v0 v1 v2 v3 v4 h = some r)  : PW E p l e (rmv 51 MC MS) s m args below meth c 5 uc us (vx_MQ below (QG E (fun v u => ∃ z, r = .inl z ∧ v = some (.int z.1) ∧ u = z.2)) (XG E (fun En u => ∃ (z : Nat × PH) (n : Nat), r = .inr z ∧ En = exn z.1 ∧ hX z.2 ≤ n ∧ u = hbump z.2 n)) args s MC MS (pA E)) h 32 [(0, some (.ref v0)), (1, some (.int v1)), (2, some (.int v2)), (3, some (.int v3)), (4, some (va_rf v4))] [] := by
  have hm1 : lez h (xT2 r) (vT2 r) := mX11_putWord_b32 hf
  have hcm : uc ≤ MC := (by have o0 := hm1.1; have o1 := hM; have o2 := hu; (try simp only [hX_sI, hX_sR, hX_sL, hX_sD, hX_sIa, hX_sRa, hV_sI, hV_sR, hV_sL, hV_sD, hV_sIa, hV_sRa, hX_new, hV_new] at o0 o1 o2 ⊢); omega)
  have hsm : us ≤ MS := (by have o0 := hm1.2; have o1 := hN; have o2 := hv; (try simp only [hX_sI, hX_sR, hX_sL, hX_sD, hX_sIa, hX_sRa, hV_sI, hV_sR, hV_sL, hV_sD, hV_sIa, hV_sRa, hX_new, hV_new] at o0 o1 o2 ⊢); omega)
  clear hm1
  unfold fX11_putWord_b32 at hf
  refine p_aloadq X (dcg dc_X11_putWord 16 rfl) rfl ?_
  obtain ⟨a10, e11, hf⟩ := gs_some hf
  first | subst e11 | (try rw [e11])
  obtain ⟨hk12, hf⟩ := gd_some hf
  obtain ⟨z13, hz13, hf⟩ := bd_some hf
  refine p_callV (As := []) X ml_X11_123 (dcg dc_X11_putWord 17 rfl) rfl rfl hk12 (wX8_size hG hz13) (by decide) (room4 (Nat.le_of_ble_eq_true rfl)) hcm hsm ?_
  rintro _ u9 ⟨rfl, e9⟩; have e9 := e9.symm; subst e9
  refine p_bipush (v := 40) X (dcg dc_X11_putWord 18 rfl) (by decide) ?_
  refine p_icmp_lt (tgt := 50) X (dcg dc_X11_putWord 19 rfl) (by decide) (fun q => ?_) (fun q => ?_)
  · have hf := if_t q hf
    refine p_aload_n X (dcg dc_X11_putWord 24 rfl) rfl rfl ?_
    refine p_iload_n X (dcg dc_X11_putWord 25 rfl) rfl rfl ?_
    refine p_aload X (dcg dc_X11_putWord 26 rfl) rfl ?_
    refine p_iload_n X (dcg dc_X11_putWord 27 rfl) rfl rfl ?_
    refine p_iload_n X (dcg dc_X11_putWord 28 rfl) rfl rfl ?_
    obtain ⟨z14, hz14, hf⟩ := bd_some hf
    have hc1 := mX8_withPut hz14
    have hm1 : lez _ (xT2 r) (vT2 r) := mX11_putWord_b59 hf
    refine p_callV (As := [_, _]) X ml_X11_131 (dcg dc_X11_putWord 29 rfl) rfl rfl hk12 (wX8_withPut hG hz14) (by decide) (room4 (Nat.le_of_ble_eq_true rfl)) (by have o0 := hm1.1; have o1 := hc1.1; have o2 := hM; have o3 := hu; (try simp only [hX_sI, hX_sR, hX_sL, hX_sD, hX_sIa, hX_sRa, hV_sI, hV_sR, hV_sL, hV_sD, hV_sIa, hV_sRa, hX_new, hV_new] at o0 o1 o2 o3 ⊢); omega) (by have o0 := hm1.2; have o1 := hc1.2; have o2 := hN; have o3 := hv; (try simp only [hX_sI, hX_sR, hX_sL, hX_sD, hX_sIa, hX_sRa, hV_sI, hV_sR, hV_sL, hV_sD, hV_sIa, hV_sRa, hX_new, hV_new] at o0 o1 o2 o3 ⊢); omega) ?_
    rintro _ u9 ⟨rfl, e9⟩; have e9 := e9.symm; subst e9
    refine p_pick [4] ?_
    exact wX11_putWord_b59 X hG hex hM hN (by have o0 := hc1.1; have o1 := hu; (try simp only [hX_sI, hX_sR, hX_sL, hX_sD, hX_sIa, hX_sRa, hV_sI, hV_sR, hV_sL, hV_sD, hV_sIa, hV_sRa, hX_new, hV_new] at o0 o1 ⊢); omega) (by have o0 := hc1.2; have o1 := hv; (try simp only [hX_sI, hX_sR, hX_sL, hX_sD, hX_sIa, hX_sRa, hV_sI, hV_sR, hV_sL, hV_sD, hV_sIa, hV_sRa, hX_new, hV_new] at o0 o1 ⊢); omega) hf 
  · have hf := if_f q hf
    have er := Option.some.inj hf
    subst er
    exact p_throw0 (cls := "java/lang/IllegalStateException") (names := ["java/lang/RuntimeException", "java/lang/Exception"]) X hex (by decide) (by decide) tw_1121 tw_121 th_X11_96a th_X11_96b th_X11_96c th_X11_96d (dcg dc_X11_putWord 20 rfl) (dcg dc_X11_putWord 21 rfl) (dcg dc_X11_putWord 22 rfl) (dcg dc_X11_putWord 23 rfl) (Nat.le_of_ble_eq_true rfl) (Nat.le_trans (Nat.add_le_add_right (room4 (Nat.le_of_ble_eq_true rfl)) _) (Nat.le_of_ble_eq_true rfl)) (show uc + 1 ≤ MC from (by have o0 := (show MC + X0 = hX h + 1 from hM); have o1 := hu; (try simp only [hX_sI, hX_sR, hX_sL, hX_sD, hX_sIa, hX_sRa, hV_sI, hV_sR, hV_sL, hV_sD, hV_sIa, hV_sRa, hX_new, hV_new] at o0 o1 ⊢); omega)) (show us + 6 ≤ MS from (by have o0 := (show MS + V0 = hV h + 6 from hN); have o1 := hv; (try simp only [hX_sI, hX_sR, hX_sL, hX_sD, hX_sIa, hX_sRa, hV_sI, hV_sR, hV_sL, hV_sD, hV_sIa, hV_sRa, hX_new, hV_new] at o0 o1 ⊢); omega)) (show uc + 1 ≤ MC from (by have o0 := (show MC + X0 = hX h + 1 from hM); have o1 := hu; (try simp only [hX_sI, hX_sR, hX_sL, hX_sD, hX_sIa, hX_sRa, hV_sI, hV_sR, hV_sL, hV_sD, hV_sIa, hV_sRa, hX_new, hV_new] at o0 o1 ⊢); omega)) (show us + 6 ≤ MS from (by have o0 := (show MS + V0 = hV h + 6 from hN); have o1 := hv; (try simp only [hX_sI, hX_sR, hX_sL, hX_sD, hX_sIa, hX_sRa, hV_sI, hV_sR, hV_sL, hV_sD, hV_sIa, hV_sRa, hX_new, hV_new] at o0 o1 ⊢); omega)) (fun n hn => ⟨_, n, rfl, rfl, hn, rfl⟩)
noncomputable def fX11_putWord_b5 (v0 : Nat) (v1 : Int32) (v2 : Int32) (v3 : Int32) (t0 : Option Nat) (h : PH) : Option ((Int32 × PH) ⊕ (Nat × PH)) :=
  if (v2 < 0) then (fX11_putWord_b20  h) else
  gs t0 (fun a4 =>
  gd (hK h a4 = 8) (bd (fX8_size a4 h) (fun z7 =>
  if (v2 ≤ z7) then (bx (fX11_demandWord v3 h) (fun z8 =>
  fX11_putWord_b32 v0 v1 v2 v3 (some a4) z8)) else
  fX11_putWord_b20  h)))
set_option maxRecDepth 100000 in
theorem mX11_putWord_b5 {v0 : Nat} {v1 : Int32} {v2 : Int32} {v3 : Int32} {t0 : Option Nat} {h : PH} {r : ((Int32 × PH) ⊕ (Nat × PH))} (hf : fX11_putWord_b5 v0 v1 v2 v3 t0 h = some r) : lez h (xT2 r) (vT2 r) := by
  unfold fX11_putWord_b5 at hf
  have hle := lez_rf h
  rcases ite_or hf with ⟨q, hf⟩ | ⟨q, hf⟩
  · have hf := if_t q hf
    exact lez_rt (mX11_putWord_b20 hf) hle
  · have hf := if_f q hf
    obtain ⟨a4, e5, hf⟩ := gs_some hf
    obtain ⟨hk6, hf⟩ := gd_some hf
    obtain ⟨z7, hz7, hf⟩ := bd_some hf
    rcases ite_or hf with ⟨q, hf⟩ | ⟨q, hf⟩
    · have hf := if_t q hf
      obtain ⟨y9, hy9, h1y9, h2y9⟩ := bx_some hf
      have hc1 := mX11_demandWord hy9
      rcases y9 with z8 | z8
      · have hf := h1y9 z8 rfl
        have hle : lez h (hX z8) (hV z8) := lez_rt hc1 hle
        exact lez_rt (mX11_putWord_b32 hf) hle
      · have hr9 := h2y9 z8 rfl
        subst hr9
        exact lez_rt hc1 hle
    · have hf := if_f q hf
      exact lez_rt (mX11_putWord_b20 hf) hle
set_option maxRecDepth 100000 in
theorem wX11_putWord_b5 {E : PE} {p : Program} {l : Launch} {e : Env} {s : State} {m : MethodId} {args : Array Value} {below : List Frame} {meth : Method} {c : Code} {X0 V0 MC MS uc us : Nat} (X : Cx E p l e (rmv 51 MC MS) s m args below meth c RX11 cX11_putWord 5 (some .int)) (hG : Gs E l) (hex : ∀ x ∈ c.exceptionTable.toList, False) {v0 : Nat} {v1 : Int32} {v2 : Int32} {v3 : Int32} {t0 : Option Nat} {h : PH} {r : ((Int32 × PH) ⊕ (Nat × PH))} (hM : MC + X0 = (xT2 r)) (hN : MS + V0 = (vT2 r)) (hu : uc + X0 = hX h) (hv : us + V0 = hV h) (hf : fX11_putWord_b5 v0 v1 v2 v3 t0 h = some r)  : PW E p l e (rmv 51 MC MS) s m args below meth c 5 uc us (vx_MQ below (QG E (fun v u => ∃ z, r = .inl z ∧ v = some (.int z.1) ∧ u = z.2)) (XG E (fun En u => ∃ (z : Nat × PH) (n : Nat), r = .inr z ∧ En = exn z.1 ∧ hX z.2 ≤ n ∧ u = hbump z.2 n)) args s MC MS (pA E)) h 5 [(0, some (.ref v0)), (1, some (.int v1)), (2, some (.int v2)), (3, some (.int v3))] [va_rf t0] := by
  have hm1 : lez h (xT2 r) (vT2 r) := mX11_putWord_b5 hf
  have hcm : uc ≤ MC := (by have o0 := hm1.1; have o1 := hM; have o2 := hu; (try simp only [hX_sI, hX_sR, hX_sL, hX_sD, hX_sIa, hX_sRa, hV_sI, hV_sR, hV_sL, hV_sD, hV_sIa, hV_sRa, hX_new, hV_new] at o0 o1 o2 ⊢); omega)
  have hsm : us ≤ MS := (by have o0 := hm1.2; have o1 := hN; have o2 := hv; (try simp only [hX_sI, hX_sR, hX_sL, hX_sD, hX_sIa, hX_sRa, hV_sI, hV_sR, hV_sL, hV_sD, hV_sIa, hV_sRa, hX_new, hV_new] at o0 o1 o2 ⊢); omega)
  clear hm1
  unfold fX11_putWord_b5 at hf
  refine p_astoreq X (dcg dc_X11_putWord 3 rfl) (by decide) rfl ?_
  refine p_iload_n X (dcg dc_X11_putWord 4 rfl) rfl rfl ?_
  refine p_if_lt (tgt := 20) X (dcg dc_X11_putWord 5 rfl) (by decide) (fun q => ?_) (fun q => ?_)
  · have hf := if_t q hf
    refine p_pick [] ?_
    exact wX11_putWord_b20 X hG hex hM hN hu hv hf 
  · have hf := if_f q hf
    refine p_iload_n X (dcg dc_X11_putWord 6 rfl) rfl rfl ?_
    refine p_aloadq X (dcg dc_X11_putWord 7 rfl) rfl ?_
    obtain ⟨a4, e5, hf⟩ := gs_some hf
    first | subst e5 | (try rw [e5])
    obtain ⟨hk6, hf⟩ := gd_some hf
    obtain ⟨z7, hz7, hf⟩ := bd_some hf
    refine p_callV (As := []) X ml_X11_123 (dcg dc_X11_putWord 8 rfl) rfl rfl hk6 (wX8_size hG hz7) (by decide) (room4 (Nat.le_of_ble_eq_true rfl)) hcm hsm ?_
    rintro _ u9 ⟨rfl, e9⟩; have e9 := e9.symm; subst e9
    refine p_icmp_le (tgt := 28) X (dcg dc_X11_putWord 9 rfl) (by decide) (fun q => ?_) (fun q => ?_)
    · have hf := if_t q hf
      refine p_iload_n X (dcg dc_X11_putWord 14 rfl) rfl rfl ?_
      obtain ⟨y9, hy9, h1y9, h2y9⟩ := bx_some hf
      have hc1 := mX11_demandWord hy9
      rcases y9 with z8 | z8
      · have hf := h1y9 z8 rfl
        have hm1 : lez _ (xT2 r) (vT2 r) := mX11_putWord_b32 hf
        refine p_callSX (As := [_]) X hex ml_X11_128 (dcg dc_X11_putWord 15 rfl) rfl rfl  (wX11_demandWord hG hy9) (by decide) (room4 (Nat.le_of_ble_eq_true rfl)) (show uc + (hX z8 - hX h) ≤ MC from (by have o0 := hm1.1; have o1 := (show lez h (hX z8) (hV z8) from hc1).1; have o2 := hM; have o3 := hu; (try simp only [hX_sI, hX_sR, hX_sL, hX_sD, hX_sIa, hX_sRa, hV_sI, hV_sR, hV_sL, hV_sD, hV_sIa, hV_sRa, hX_new, hV_new] at o0 o1 o2 o3 ⊢); omega)) (show us + (hV z8 - hV h) ≤ MS from (by have o0 := hm1.2; have o1 := (show lez h (hX z8) (hV z8) from hc1).2; have o2 := hN; have o3 := hv; (try simp only [hX_sI, hX_sR, hX_sL, hX_sD, hX_sIa, hX_sRa, hV_sI, hV_sR, hV_sL, hV_sD, hV_sIa, hV_sRa, hX_new, hV_new] at o0 o1 o2 o3 ⊢); omega)) (show uc + (hX z8 - hX h) ≤ MC from (by have o0 := hm1.1; have o1 := (show lez h (hX z8) (hV z8) from hc1).1; have o2 := hM; have o3 := hu; (try simp only [hX_sI, hX_sR, hX_sL, hX_sD, hX_sIa, hX_sRa, hV_sI, hV_sR, hV_sL, hV_sD, hV_sIa, hV_sRa, hX_new, hV_new] at o0 o1 o2 o3 ⊢); omega)) (show us + (hV z8 - hV h) ≤ MS from (by have o0 := hm1.2; have o1 := (show lez h (hX z8) (hV z8) from hc1).2; have o2 := hN; have o3 := hv; (try simp only [hX_sI, hX_sR, hX_sL, hX_sD, hX_sIa, hX_sRa, hV_sI, hV_sR, hV_sL, hV_sD, hV_sIa, hV_sRa, hX_new, hV_new] at o0 o1 o2 o3 ⊢); omega)) (fun En u q => by obtain ⟨z9, n9, q9, _⟩ := q; cases q9) ?_
        rintro _ _ ⟨z9, hz9, rfl, rfl⟩
        cases hz9
        refine p_pick [0, 1, 2, 3, 4] ?_
        exact wX11_putWord_b32 X hG hex hM hN (show uc + (hX z8 - hX h) + X0 = hX z8 from (by have o0 := (show lez h (hX z8) (hV z8) from hc1).1; have o1 := hu; (try simp only [hX_sI, hX_sR, hX_sL, hX_sD, hX_sIa, hX_sRa, hV_sI, hV_sR, hV_sL, hV_sD, hV_sIa, hV_sRa, hX_new, hV_new] at o0 o1 ⊢); omega)) (show us + (hV z8 - hV h) + V0 = hV z8 from (by have o0 := (show lez h (hX z8) (hV z8) from hc1).2; have o1 := hv; (try simp only [hX_sI, hX_sR, hX_sL, hX_sD, hX_sIa, hX_sRa, hV_sI, hV_sR, hV_sL, hV_sD, hV_sIa, hV_sRa, hX_new, hV_new] at o0 o1 ⊢); omega)) hf 
      · have hr9 := h2y9 z8 rfl
        subst hr9
        refine p_callSX (As := [_]) X hex ml_X11_128 (dcg dc_X11_putWord 15 rfl) rfl rfl  (wX11_demandWord hG hy9) (by decide) (room4 (Nat.le_of_ble_eq_true rfl)) (show uc + (hX z8.2 + 1 - hX h) ≤ MC from (by have o0 := (show lez h (hX z8.2 + 1) (hV z8.2 + 6) from hc1).1; have o1 := (show MC + X0 = hX z8.2 + 1 from hM); have o2 := hu; (try simp only [hX_sI, hX_sR, hX_sL, hX_sD, hX_sIa, hX_sRa, hV_sI, hV_sR, hV_sL, hV_sD, hV_sIa, hV_sRa, hX_new, hV_new] at o0 o1 o2 ⊢); omega)) (show us + (hV z8.2 + 6 - hV h) ≤ MS from (by have o0 := (show lez h (hX z8.2 + 1) (hV z8.2 + 6) from hc1).2; have o1 := (show MS + V0 = hV z8.2 + 6 from hN); have o2 := hv; (try simp only [hX_sI, hX_sR, hX_sL, hX_sD, hX_sIa, hX_sRa, hV_sI, hV_sR, hV_sL, hV_sD, hV_sIa, hV_sRa, hX_new, hV_new] at o0 o1 o2 ⊢); omega)) (show uc + (hX z8.2 + 1 - hX h) ≤ MC from (by have o0 := (show lez h (hX z8.2 + 1) (hV z8.2 + 6) from hc1).1; have o1 := (show MC + X0 = hX z8.2 + 1 from hM); have o2 := hu; (try simp only [hX_sI, hX_sR, hX_sL, hX_sD, hX_sIa, hX_sRa, hV_sI, hV_sR, hV_sL, hV_sD, hV_sIa, hV_sRa, hX_new, hV_new] at o0 o1 o2 ⊢); omega)) (show us + (hV z8.2 + 6 - hV h) ≤ MS from (by have o0 := (show lez h (hX z8.2 + 1) (hV z8.2 + 6) from hc1).2; have o1 := (show MS + V0 = hV z8.2 + 6 from hN); have o2 := hv; (try simp only [hX_sI, hX_sR, hX_sL, hX_sD, hX_sIa, hX_sRa, hV_sI, hV_sR, hV_sL, hV_sD, hV_sIa, hV_sRa, hX_new, hV_new] at o0 o1 o2 ⊢); omega)) (fun En u q => by obtain ⟨z9, n9, q9, q8⟩ := q; cases q9; exact ⟨_, n9, rfl, q8⟩) ?_
        rintro _ _ ⟨z9, hz9, _⟩
        cases hz9
    · have hf := if_f q hf
      refine p_pick [] ?_
      exact wX11_putWord_b20 X hG hex hM hN hu hv hf 
noncomputable def fX11_putWord_b0 (v0 : Nat) (v1 : Int32) (v2 : Int32) (v3 : Int32) (h : PH) : Option ((Int32 × PH) ⊕ (Nat × PH)) :=
  gd (hK h v0 = 11) (bx (fX11_demandText v0 v1 h) (fun z2 =>
  fX11_putWord_b5 v0 v1 v2 v3 z2.1 z2.2))
set_option maxRecDepth 100000 in
theorem mX11_putWord_b0 {v0 : Nat} {v1 : Int32} {v2 : Int32} {v3 : Int32} {h : PH} {r : ((Int32 × PH) ⊕ (Nat × PH))} (hf : fX11_putWord_b0 v0 v1 v2 v3 h = some r) : lez h (xT2 r) (vT2 r) := by
  unfold fX11_putWord_b0 at hf
  have hle := lez_rf h
  obtain ⟨hk1, hf⟩ := gd_some hf
  obtain ⟨y3, hy3, h1y3, h2y3⟩ := bx_some hf
  have hc1 := mX11_demandText hy3
  rcases y3 with z2 | z2
  · have hf := h1y3 z2 rfl
    have hle : lez h (hX z2.2) (hV z2.2) := lez_rt hc1 hle
    exact lez_rt (mX11_putWord_b5 hf) hle
  · have hr9 := h2y3 z2 rfl
    subst hr9
    exact lez_rt hc1 hle
set_option maxRecDepth 100000 in
theorem wX11_putWord_b0 {E : PE} {p : Program} {l : Launch} {e : Env} {s : State} {m : MethodId} {args : Array Value} {below : List Frame} {meth : Method} {c : Code} {X0 V0 MC MS uc us : Nat} (X : Cx E p l e (rmv 51 MC MS) s m args below meth c RX11 cX11_putWord 5 (some .int)) (hG : Gs E l) (hex : ∀ x ∈ c.exceptionTable.toList, False) {v0 : Nat} {v1 : Int32} {v2 : Int32} {v3 : Int32} {h : PH} {r : ((Int32 × PH) ⊕ (Nat × PH))} (hM : MC + X0 = (xT2 r)) (hN : MS + V0 = (vT2 r)) (hu : uc + X0 = hX h) (hv : us + V0 = hV h) (hf : fX11_putWord_b0 v0 v1 v2 v3 h = some r)  : PW E p l e (rmv 51 MC MS) s m args below meth c 5 uc us (vx_MQ below (QG E (fun v u => ∃ z, r = .inl z ∧ v = some (.int z.1) ∧ u = z.2)) (XG E (fun En u => ∃ (z : Nat × PH) (n : Nat), r = .inr z ∧ En = exn z.1 ∧ hX z.2 ≤ n ∧ u = hbump z.2 n)) args s MC MS (pA E)) h 0 [(0, some (.ref v0)), (1, some (.int v1)), (2, some (.int v2)), (3, some (.int v3))] [] := by
  have hm1 : lez h (xT2 r) (vT2 r) := mX11_putWord_b0 hf
  have hcm : uc ≤ MC := (by have o0 := hm1.1; have o1 := hM; have o2 := hu; (try simp only [hX_sI, hX_sR, hX_sL, hX_sD, hX_sIa, hX_sRa, hV_sI, hV_sR, hV_sL, hV_sD, hV_sIa, hV_sRa, hX_new, hV_new] at o0 o1 o2 ⊢); omega)
  have hsm : us ≤ MS := (by have o0 := hm1.2; have o1 := hN; have o2 := hv; (try simp only [hX_sI, hX_sR, hX_sL, hX_sD, hX_sIa, hX_sRa, hV_sI, hV_sR, hV_sL, hV_sD, hV_sIa, hV_sRa, hX_new, hV_new] at o0 o1 o2 ⊢); omega)
  clear hm1
  unfold fX11_putWord_b0 at hf
  refine p_aload_n X (dcg dc_X11_putWord 0 rfl) rfl rfl ?_
  refine p_iload_n X (dcg dc_X11_putWord 1 rfl) rfl rfl ?_
  obtain ⟨hk1, hf⟩ := gd_some hf
  obtain ⟨y3, hy3, h1y3, h2y3⟩ := bx_some hf
  have hc1 := mX11_demandText hy3
  rcases y3 with z2 | z2
  · have hf := h1y3 z2 rfl
    have hm1 : lez _ (xT2 r) (vT2 r) := mX11_putWord_b5 hf
    refine p_callVX (As := [_]) X hex ml_X11_119 (dcg dc_X11_putWord 2 rfl) rfl rfl hk1 (wX11_demandText hG hy3) (by decide) (room4 (Nat.le_of_ble_eq_true rfl)) (show uc + (hX z2.2 - hX h) ≤ MC from (by have o0 := hm1.1; have o1 := (show lez h (hX z2.2) (hV z2.2) from hc1).1; have o2 := hM; have o3 := hu; (try simp only [hX_sI, hX_sR, hX_sL, hX_sD, hX_sIa, hX_sRa, hV_sI, hV_sR, hV_sL, hV_sD, hV_sIa, hV_sRa, hX_new, hV_new] at o0 o1 o2 o3 ⊢); omega)) (show us + (hV z2.2 - hV h) ≤ MS from (by have o0 := hm1.2; have o1 := (show lez h (hX z2.2) (hV z2.2) from hc1).2; have o2 := hN; have o3 := hv; (try simp only [hX_sI, hX_sR, hX_sL, hX_sD, hX_sIa, hX_sRa, hV_sI, hV_sR, hV_sL, hV_sD, hV_sIa, hV_sRa, hX_new, hV_new] at o0 o1 o2 o3 ⊢); omega)) (show uc + (hX z2.2 - hX h) ≤ MC from (by have o0 := hm1.1; have o1 := (show lez h (hX z2.2) (hV z2.2) from hc1).1; have o2 := hM; have o3 := hu; (try simp only [hX_sI, hX_sR, hX_sL, hX_sD, hX_sIa, hX_sRa, hV_sI, hV_sR, hV_sL, hV_sD, hV_sIa, hV_sRa, hX_new, hV_new] at o0 o1 o2 o3 ⊢); omega)) (show us + (hV z2.2 - hV h) ≤ MS from (by have o0 := hm1.2; have o1 := (show lez h (hX z2.2) (hV z2.2) from hc1).2; have o2 := hN; have o3 := hv; (try simp only [hX_sI, hX_sR, hX_sL, hX_sD, hX_sIa, hX_sRa, hV_sI, hV_sR, hV_sL, hV_sD, hV_sIa, hV_sRa, hX_new, hV_new] at o0 o1 o2 o3 ⊢); omega)) (fun En u q => by obtain ⟨z9, n9, q9, _⟩ := q; cases q9) ?_
    rintro _ _ ⟨z9, hz9, rfl, rfl⟩
    cases hz9
    refine p_pick [0, 1, 2, 3] ?_
    exact wX11_putWord_b5 X hG hex hM hN (show uc + (hX z2.2 - hX h) + X0 = hX z2.2 from (by have o0 := (show lez h (hX z2.2) (hV z2.2) from hc1).1; have o1 := hu; (try simp only [hX_sI, hX_sR, hX_sL, hX_sD, hX_sIa, hX_sRa, hV_sI, hV_sR, hV_sL, hV_sD, hV_sIa, hV_sRa, hX_new, hV_new] at o0 o1 ⊢); omega)) (show us + (hV z2.2 - hV h) + V0 = hV z2.2 from (by have o0 := (show lez h (hX z2.2) (hV z2.2) from hc1).2; have o1 := hv; (try simp only [hX_sI, hX_sR, hX_sL, hX_sD, hX_sIa, hX_sRa, hV_sI, hV_sR, hV_sL, hV_sD, hV_sIa, hV_sRa, hX_new, hV_new] at o0 o1 ⊢); omega)) hf 
  · have hr9 := h2y3 z2 rfl
    subst hr9
    refine p_callVX (As := [_]) X hex ml_X11_119 (dcg dc_X11_putWord 2 rfl) rfl rfl hk1 (wX11_demandText hG hy3) (by decide) (room4 (Nat.le_of_ble_eq_true rfl)) (show uc + (hX z2.2 + 1 - hX h) ≤ MC from (by have o0 := (show lez h (hX z2.2 + 1) (hV z2.2 + 6) from hc1).1; have o1 := (show MC + X0 = hX z2.2 + 1 from hM); have o2 := hu; (try simp only [hX_sI, hX_sR, hX_sL, hX_sD, hX_sIa, hX_sRa, hV_sI, hV_sR, hV_sL, hV_sD, hV_sIa, hV_sRa, hX_new, hV_new] at o0 o1 o2 ⊢); omega)) (show us + (hV z2.2 + 6 - hV h) ≤ MS from (by have o0 := (show lez h (hX z2.2 + 1) (hV z2.2 + 6) from hc1).2; have o1 := (show MS + V0 = hV z2.2 + 6 from hN); have o2 := hv; (try simp only [hX_sI, hX_sR, hX_sL, hX_sD, hX_sIa, hX_sRa, hV_sI, hV_sR, hV_sL, hV_sD, hV_sIa, hV_sRa, hX_new, hV_new] at o0 o1 o2 ⊢); omega)) (show uc + (hX z2.2 + 1 - hX h) ≤ MC from (by have o0 := (show lez h (hX z2.2 + 1) (hV z2.2 + 6) from hc1).1; have o1 := (show MC + X0 = hX z2.2 + 1 from hM); have o2 := hu; (try simp only [hX_sI, hX_sR, hX_sL, hX_sD, hX_sIa, hX_sRa, hV_sI, hV_sR, hV_sL, hV_sD, hV_sIa, hV_sRa, hX_new, hV_new] at o0 o1 o2 ⊢); omega)) (show us + (hV z2.2 + 6 - hV h) ≤ MS from (by have o0 := (show lez h (hX z2.2 + 1) (hV z2.2 + 6) from hc1).2; have o1 := (show MS + V0 = hV z2.2 + 6 from hN); have o2 := hv; (try simp only [hX_sI, hX_sR, hX_sL, hX_sD, hX_sIa, hX_sRa, hV_sI, hV_sR, hV_sL, hV_sD, hV_sIa, hV_sRa, hX_new, hV_new] at o0 o1 o2 ⊢); omega)) (fun En u q => by obtain ⟨z9, n9, q9, q8⟩ := q; cases q9; exact ⟨_, n9, rfl, q8⟩) ?_
    rintro _ _ ⟨z9, hz9, _⟩
    cases hz9
noncomputable def fX11_putWord (v0 : Nat) (v1 : Int32) (v2 : Int32) (v3 : Int32) (h : PH) : Option ((Int32 × PH) ⊕ (Nat × PH)) :=
  fX11_putWord_b0 v0 v1 v2 v3 h
set_option maxRecDepth 100000 in
theorem mX11_putWord {v0 : Nat} {v1 : Int32} {v2 : Int32} {v3 : Int32} {h : PH} {r : ((Int32 × PH) ⊕ (Nat × PH))} (hf : fX11_putWord v0 v1 v2 v3 h = some r) : lez h (xT2 r) (vT2 r) := by
  unfold fX11_putWord at hf
  have hle := lez_rf h
  exact lez_rt (mX11_putWord_b0 hf) hle
set_option maxRecDepth 100000 in
theorem wX11_putWord {E : PE} {l : Launch} (hG : Gs E l) {v0 : Nat} {v1 : Int32} {v2 : Int32} {v3 : Int32} {h : PH} {r : ((Int32 × PH) ⊕ (Nat × PH))} (hf : fX11_putWord v0 v1 v2 v3 h = some r) : CtX E l 51 ((xT2 r) - hX h) ((vT2 r) - hV h) yX11_putWord cX11_putWord 5 (some .int) [.ref v0, .int v1, .int v2, .int v3] h (fun v u => ∃ z, r = .inl z ∧ v = some (.int z.1) ∧ u = z.2) (fun En u => ∃ (z : Nat × PH) (n : Nat), r = .inr z ∧ En = exn z.1 ∧ hX z.2 ≤ n ∧ u = hbump z.2 n) := by
  have hmm := mX11_putWord hf
  refine ctx_of hG (by decide) (Nat.le_of_ble_eq_true rfl) ?_
  intro p e s m args below meth c X hex
  show PW E p l e _ s m args below meth c _ 0 0 _ h 0 [(0, some (.ref v0)), (1, some (.int v1)), (2, some (.int v2)), (3, some (.int v3))] []
  unfold fX11_putWord at hf
  have hM := Nat.sub_add_cancel hmm.1
  have hN := Nat.sub_add_cancel hmm.2
  refine p_pick [0, 1, 2, 3] ?_
  exact wX11_putWord_b0 X hG hex hM hN (Nat.zero_add _) (Nat.zero_add _) hf
theorem dc_X11_demandPlace : decs cX11_demandPlace [(0, .iload_n 1, 1), (1, .ifCond .lt 11, 3), (4, .iload_n 1, 1), (5, .aload_n 0, 1), (6, .invokevirtual 123, 3), (9, .if_icmp .lt 11, 3), (12, .new 125, 3), (15, .dup, 1), (16, .invokespecial 127, 3), (19, .athrow, 1), (20, .return_, 1)] = true := by decide +kernel
noncomputable def fX11_demandPlace_b12  (h : PH) : Option (PH ⊕ (Nat × PH)) :=
  some (.inr (2, h))
set_option maxRecDepth 100000 in
theorem mX11_demandPlace_b12  {h : PH} {r : (PH ⊕ (Nat × PH))} (hf : fX11_demandPlace_b12  h = some r) : lez h (xT1 r) (vT1 r) := by
  unfold fX11_demandPlace_b12 at hf
  have hle := lez_rf h
  cases hf; exact lez_up hle
set_option maxRecDepth 100000 in
theorem wX11_demandPlace_b12 {E : PE} {p : Program} {l : Launch} {e : Env} {s : State} {m : MethodId} {args : Array Value} {below : List Frame} {meth : Method} {c : Code} {X0 V0 MC MS uc us : Nat} (X : Cx E p l e (rmv 8 MC MS) s m args below meth c RX11 cX11_demandPlace 2 (none)) (hG : Gs E l) (hex : ∀ x ∈ c.exceptionTable.toList, False)  {h : PH} {r : (PH ⊕ (Nat × PH))} (hM : MC + X0 = (xT1 r)) (hN : MS + V0 = (vT1 r)) (hu : uc + X0 = hX h) (hv : us + V0 = hV h) (hf : fX11_demandPlace_b12  h = some r)  : PW E p l e (rmv 8 MC MS) s m args below meth c 2 uc us (vx_MQ below (QG E (fun v u => ∃ z, r = .inl z ∧ v = none ∧ u = z)) (XG E (fun En u => ∃ (z : Nat × PH) (n : Nat), r = .inr z ∧ En = exn z.1 ∧ hX z.2 ≤ n ∧ u = hbump z.2 n)) args s MC MS (pA E)) h 12 [] [] := by
  have hm1 : lez h (xT1 r) (vT1 r) := mX11_demandPlace_b12 hf
  have hcm : uc ≤ MC := (by have o0 := hm1.1; have o1 := hM; have o2 := hu; (try simp only [hX_sI, hX_sR, hX_sL, hX_sD, hX_sIa, hX_sRa, hV_sI, hV_sR, hV_sL, hV_sD, hV_sIa, hV_sRa, hX_new, hV_new] at o0 o1 o2 ⊢); omega)
  have hsm : us ≤ MS := (by have o0 := hm1.2; have o1 := hN; have o2 := hv; (try simp only [hX_sI, hX_sR, hX_sL, hX_sD, hX_sIa, hX_sRa, hV_sI, hV_sR, hV_sL, hV_sD, hV_sIa, hV_sRa, hX_new, hV_new] at o0 o1 o2 ⊢); omega)
  clear hm1
  unfold fX11_demandPlace_b12 at hf
  have er := Option.some.inj hf
  subst er
  exact p_throw0 (cls := "java/lang/IndexOutOfBoundsException") (names := ["java/lang/RuntimeException", "java/lang/Exception"]) X hex (by decide) (by decide) tw_1205 tw_127 th_X11_127a th_X11_127b th_X11_127c th_X11_127d (dcg dc_X11_demandPlace 6 rfl) (dcg dc_X11_demandPlace 7 rfl) (dcg dc_X11_demandPlace 8 rfl) (dcg dc_X11_demandPlace 9 rfl) (Nat.le_of_ble_eq_true rfl) (Nat.le_trans (Nat.add_le_add_right (room4 (Nat.le_of_ble_eq_true rfl)) _) (Nat.le_of_ble_eq_true rfl)) (show uc + 1 ≤ MC from (by have o0 := (show MC + X0 = hX h + 1 from hM); have o1 := hu; (try simp only [hX_sI, hX_sR, hX_sL, hX_sD, hX_sIa, hX_sRa, hV_sI, hV_sR, hV_sL, hV_sD, hV_sIa, hV_sRa, hX_new, hV_new] at o0 o1 ⊢); omega)) (show us + 6 ≤ MS from (by have o0 := (show MS + V0 = hV h + 6 from hN); have o1 := hv; (try simp only [hX_sI, hX_sR, hX_sL, hX_sD, hX_sIa, hX_sRa, hV_sI, hV_sR, hV_sL, hV_sD, hV_sIa, hV_sRa, hX_new, hV_new] at o0 o1 ⊢); omega)) (show uc + 1 ≤ MC from (by have o0 := (show MC + X0 = hX h + 1 from hM); have o1 := hu; (try simp only [hX_sI, hX_sR, hX_sL, hX_sD, hX_sIa, hX_sRa, hV_sI, hV_sR, hV_sL, hV_sD, hV_sIa, hV_sRa, hX_new, hV_new] at o0 o1 ⊢); omega)) (show us + 6 ≤ MS from (by have o0 := (show MS + V0 = hV h + 6 from hN); have o1 := hv; (try simp only [hX_sI, hX_sR, hX_sL, hX_sD, hX_sIa, hX_sRa, hV_sI, hV_sR, hV_sL, hV_sD, hV_sIa, hV_sRa, hX_new, hV_new] at o0 o1 ⊢); omega)) (fun n hn => ⟨_, n, rfl, rfl, hn, rfl⟩)
noncomputable def fX11_demandPlace_b0 (v0 : Option Nat) (v1 : Int32) (h : PH) : Option (PH ⊕ (Nat × PH)) :=
  if (v1 < 0) then (fX11_demandPlace_b12  h) else
  gs v0 (fun a1 =>
  gd (hK h a1 = 8) (bd (fX8_size a1 h) (fun z4 =>
  if (v1 < z4) then (some (.inl (h))) else
  fX11_demandPlace_b12  h)))
set_option maxRecDepth 100000 in
theorem mX11_demandPlace_b0 {v0 : Option Nat} {v1 : Int32} {h : PH} {r : (PH ⊕ (Nat × PH))} (hf : fX11_demandPlace_b0 v0 v1 h = some r) : lez h (xT1 r) (vT1 r) := by
  unfold fX11_demandPlace_b0 at hf
  have hle := lez_rf h
  rcases ite_or hf with ⟨q, hf⟩ | ⟨q, hf⟩
  · have hf := if_t q hf
    exact lez_rt (mX11_demandPlace_b12 hf) hle
  · have hf := if_f q hf
    obtain ⟨a1, e2, hf⟩ := gs_some hf
    obtain ⟨hk3, hf⟩ := gd_some hf
    obtain ⟨z4, hz4, hf⟩ := bd_some hf
    rcases ite_or hf with ⟨q, hf⟩ | ⟨q, hf⟩
    · have hf := if_t q hf
      have ee := Option.some.inj hf; subst ee; exact hle
    · have hf := if_f q hf
      exact lez_rt (mX11_demandPlace_b12 hf) hle
set_option maxRecDepth 100000 in
theorem wX11_demandPlace_b0 {E : PE} {p : Program} {l : Launch} {e : Env} {s : State} {m : MethodId} {args : Array Value} {below : List Frame} {meth : Method} {c : Code} {X0 V0 MC MS uc us : Nat} (X : Cx E p l e (rmv 8 MC MS) s m args below meth c RX11 cX11_demandPlace 2 (none)) (hG : Gs E l) (hex : ∀ x ∈ c.exceptionTable.toList, False) {v0 : Option Nat} {v1 : Int32} {h : PH} {r : (PH ⊕ (Nat × PH))} (hM : MC + X0 = (xT1 r)) (hN : MS + V0 = (vT1 r)) (hu : uc + X0 = hX h) (hv : us + V0 = hV h) (hf : fX11_demandPlace_b0 v0 v1 h = some r)  : PW E p l e (rmv 8 MC MS) s m args below meth c 2 uc us (vx_MQ below (QG E (fun v u => ∃ z, r = .inl z ∧ v = none ∧ u = z)) (XG E (fun En u => ∃ (z : Nat × PH) (n : Nat), r = .inr z ∧ En = exn z.1 ∧ hX z.2 ≤ n ∧ u = hbump z.2 n)) args s MC MS (pA E)) h 0 [(0, some (va_rf v0)), (1, some (.int v1))] [] := by
  have hm1 : lez h (xT1 r) (vT1 r) := mX11_demandPlace_b0 hf
  have hcm : uc ≤ MC := (by have o0 := hm1.1; have o1 := hM; have o2 := hu; (try simp only [hX_sI, hX_sR, hX_sL, hX_sD, hX_sIa, hX_sRa, hV_sI, hV_sR, hV_sL, hV_sD, hV_sIa, hV_sRa, hX_new, hV_new] at o0 o1 o2 ⊢); omega)
  have hsm : us ≤ MS := (by have o0 := hm1.2; have o1 := hN; have o2 := hv; (try simp only [hX_sI, hX_sR, hX_sL, hX_sD, hX_sIa, hX_sRa, hV_sI, hV_sR, hV_sL, hV_sD, hV_sIa, hV_sRa, hX_new, hV_new] at o0 o1 o2 ⊢); omega)
  clear hm1
  unfold fX11_demandPlace_b0 at hf
  refine p_iload_n X (dcg dc_X11_demandPlace 0 rfl) rfl rfl ?_
  refine p_if_lt (tgt := 12) X (dcg dc_X11_demandPlace 1 rfl) (by decide) (fun q => ?_) (fun q => ?_)
  · have hf := if_t q hf
    refine p_pick [] ?_
    exact wX11_demandPlace_b12 X hG hex hM hN hu hv hf 
  · have hf := if_f q hf
    refine p_iload_n X (dcg dc_X11_demandPlace 2 rfl) rfl rfl ?_
    refine p_aloadq_n X (dcg dc_X11_demandPlace 3 rfl) rfl rfl ?_
    obtain ⟨a1, e2, hf⟩ := gs_some hf
    first | subst e2 | (try rw [e2])
    obtain ⟨hk3, hf⟩ := gd_some hf
    obtain ⟨z4, hz4, hf⟩ := bd_some hf
    refine p_callV (As := []) X ml_X11_123 (dcg dc_X11_demandPlace 4 rfl) rfl rfl hk3 (wX8_size hG hz4) (by decide) (room4 (Nat.le_of_ble_eq_true rfl)) hcm hsm ?_
    rintro _ u9 ⟨rfl, e9⟩; have e9 := e9.symm; subst e9
    refine p_icmp_lt (tgt := 20) X (dcg dc_X11_demandPlace 5 rfl) (by decide) (fun q => ?_) (fun q => ?_)
    · have hf := if_t q hf
      have er := Option.some.inj hf
      subst er
      refine p_vx ?_
      exact p_vret X rfl (dcg dc_X11_demandPlace 10 rfl) ⟨_, rfl, rfl, rfl⟩ hcm hsm
    · have hf := if_f q hf
      refine p_pick [] ?_
      exact wX11_demandPlace_b12 X hG hex hM hN hu hv hf 
noncomputable def fX11_demandPlace (v0 : Option Nat) (v1 : Int32) (h : PH) : Option (PH ⊕ (Nat × PH)) :=
  fX11_demandPlace_b0 v0 v1 h
set_option maxRecDepth 100000 in
theorem mX11_demandPlace {v0 : Option Nat} {v1 : Int32} {h : PH} {r : (PH ⊕ (Nat × PH))} (hf : fX11_demandPlace v0 v1 h = some r) : lez h (xT1 r) (vT1 r) := by
  unfold fX11_demandPlace at hf
  have hle := lez_rf h
  exact lez_rt (mX11_demandPlace_b0 hf) hle
set_option maxRecDepth 100000 in
theorem wX11_demandPlace {E : PE} {l : Launch} (hG : Gs E l) {v0 : Option Nat} {v1 : Int32} {h : PH} {r : (PH ⊕ (Nat × PH))} (hf : fX11_demandPlace v0 v1 h = some r) : CtX E l 8 ((xT1 r) - hX h) ((vT1 r) - hV h) yX11_demandPlace cX11_demandPlace 2 (none) [va_rf v0, .int v1] h (fun v u => ∃ z, r = .inl z ∧ v = none ∧ u = z) (fun En u => ∃ (z : Nat × PH) (n : Nat), r = .inr z ∧ En = exn z.1 ∧ hX z.2 ≤ n ∧ u = hbump z.2 n) := by
  have hmm := mX11_demandPlace hf
  refine ctx_of hG (by decide) (by simp [lg_sl, cat_rf, cat_r, cat_i, cat_l, cat_d, cat_f]) ?_
  intro p e s m args below meth c X hex
  rw [show pargs 0 [va_rf v0, .int v1] = [(0, some (va_rf v0)), (1, some (.int v1))] from by simp [pargs, cat_rf, cat_r, cat_i, cat_l, cat_d, cat_f]]
  unfold fX11_demandPlace at hf
  have hM := Nat.sub_add_cancel hmm.1
  have hN := Nat.sub_add_cancel hmm.2
  refine p_pick [0, 1] ?_
  exact wX11_demandPlace_b0 X hG hex hM hN (Nat.zero_add _) (Nat.zero_add _) hf
theorem dc_X11_takeWord : decs cX11_takeWord [(0, .aload_n 0, 1), (1, .iload_n 1, 1), (2, .invokevirtual 119, 3), (5, .astore_n 3, 1), (6, .aload_n 3, 1), (7, .iload_n 2, 1), (8, .invokestatic 135, 3), (11, .aload_n 0, 1), (12, .iload_n 1, 1), (13, .aload_n 3, 1), (14, .iload_n 2, 1), (15, .invokevirtual 139, 3), (18, .invokevirtual 115, 3), (21, .aload_n 3, 1), (22, .iload_n 2, 1), (23, .invokevirtual 142, 3), (26, .ireturn, 1)] = true := by decide +kernel
noncomputable def fX11_takeWord_b21 (v2 : Int32) (v3 : Option Nat) (h : PH) : Option ((Int32 × PH) ⊕ (Nat × PH)) :=
  gs v3 (fun a12 =>
  gd (hK h a12 = 8) (bd (fX8_at a12 v2 h) (fun z15 =>
  some (.inl ((z15, h))))))
set_option maxRecDepth 100000 in
theorem mX11_takeWord_b21 {v2 : Int32} {v3 : Option Nat} {h : PH} {r : ((Int32 × PH) ⊕ (Nat × PH))} (hf : fX11_takeWord_b21 v2 v3 h = some r) : lez h (xT2 r) (vT2 r) := by
  unfold fX11_takeWord_b21 at hf
  have hle := lez_rf h
  obtain ⟨a12, e13, hf⟩ := gs_some hf
  obtain ⟨hk14, hf⟩ := gd_some hf
  obtain ⟨z15, hz15, hf⟩ := bd_some hf
  have ee := Option.some.inj hf; subst ee; exact hle
set_option maxRecDepth 100000 in
theorem wX11_takeWord_b21 {E : PE} {p : Program} {l : Launch} {e : Env} {s : State} {m : MethodId} {args : Array Value} {below : List Frame} {meth : Method} {c : Code} {X0 V0 MC MS uc us : Nat} (X : Cx E p l e (rmv 51 MC MS) s m args below meth c RX11 cX11_takeWord 4 (some .int)) (hG : Gs E l) (hex : ∀ x ∈ c.exceptionTable.toList, False) {v2 : Int32} {v3 : Option Nat} {h : PH} {r : ((Int32 × PH) ⊕ (Nat × PH))} (hM : MC + X0 = (xT2 r)) (hN : MS + V0 = (vT2 r)) (hu : uc + X0 = hX h) (hv : us + V0 = hV h) (hf : fX11_takeWord_b21 v2 v3 h = some r)  : PW E p l e (rmv 51 MC MS) s m args below meth c 4 uc us (vx_MQ below (QG E (fun v u => ∃ z, r = .inl z ∧ v = some (.int z.1) ∧ u = z.2)) (XG E (fun En u => ∃ (z : Nat × PH) (n : Nat), r = .inr z ∧ En = exn z.1 ∧ hX z.2 ≤ n ∧ u = hbump z.2 n)) args s MC MS (pA E)) h 21 [(2, some (.int v2)), (3, some (va_rf v3))] [] := by
  have hm1 : lez h (xT2 r) (vT2 r) := mX11_takeWord_b21 hf
  have hcm : uc ≤ MC := (by have o0 := hm1.1; have o1 := hM; have o2 := hu; (try simp only [hX_sI, hX_sR, hX_sL, hX_sD, hX_sIa, hX_sRa, hV_sI, hV_sR, hV_sL, hV_sD, hV_sIa, hV_sRa, hX_new, hV_new] at o0 o1 o2 ⊢); omega)
  have hsm : us ≤ MS := (by have o0 := hm1.2; have o1 := hN; have o2 := hv; (try simp only [hX_sI, hX_sR, hX_sL, hX_sD, hX_sIa, hX_sRa, hV_sI, hV_sR, hV_sL, hV_sD, hV_sIa, hV_sRa, hX_new, hV_new] at o0 o1 o2 ⊢); omega)
  clear hm1
  unfold fX11_takeWord_b21 at hf
  refine p_aloadq_n X (dcg dc_X11_takeWord 13 rfl) rfl rfl ?_
  refine p_iload_n X (dcg dc_X11_takeWord 14 rfl) rfl rfl ?_
  obtain ⟨a12, e13, hf⟩ := gs_some hf
  first | subst e13 | (try rw [e13])
  obtain ⟨hk14, hf⟩ := gd_some hf
  obtain ⟨z15, hz15, hf⟩ := bd_some hf
  refine p_callV (As := [_]) X ml_X11_142 (dcg dc_X11_takeWord 15 rfl) rfl rfl hk14 (wX8_at hG hz15) (by decide) (room4 (Nat.le_of_ble_eq_true rfl)) hcm hsm ?_
  rintro _ u9 ⟨rfl, e9⟩; have e9 := e9.symm; subst e9
  have er := Option.some.inj hf
  subst er
  refine p_vx ?_
  exact p_iret X rfl (dcg dc_X11_takeWord 16 rfl) ⟨_, rfl, rfl, rfl⟩ hcm hsm
noncomputable def fX11_takeWord_b18 (v2 : Int32) (v3 : Option Nat) (t0 : Nat) (t1 : Int32) (t2 : Option Nat) (h : PH) : Option ((Int32 × PH) ⊕ (Nat × PH)) :=
  gd (hK h t0 = 11) (bd (fX11_change t0 t1 t2 h) (fun z11 =>
  fX11_takeWord_b21 v2 v3 z11))
set_option maxRecDepth 100000 in
theorem mX11_takeWord_b18 {v2 : Int32} {v3 : Option Nat} {t0 : Nat} {t1 : Int32} {t2 : Option Nat} {h : PH} {r : ((Int32 × PH) ⊕ (Nat × PH))} (hf : fX11_takeWord_b18 v2 v3 t0 t1 t2 h = some r) : lez h (xT2 r) (vT2 r) := by
  unfold fX11_takeWord_b18 at hf
  have hle := lez_rf h
  obtain ⟨hk10, hf⟩ := gd_some hf
  obtain ⟨z11, hz11, hf⟩ := bd_some hf
  have hle := lez_rt (mX11_change hz11) hle
  exact lez_rt (mX11_takeWord_b21 hf) hle
set_option maxRecDepth 100000 in
theorem wX11_takeWord_b18 {E : PE} {p : Program} {l : Launch} {e : Env} {s : State} {m : MethodId} {args : Array Value} {below : List Frame} {meth : Method} {c : Code} {X0 V0 MC MS uc us : Nat} (X : Cx E p l e (rmv 51 MC MS) s m args below meth c RX11 cX11_takeWord 4 (some .int)) (hG : Gs E l) (hex : ∀ x ∈ c.exceptionTable.toList, False) {v2 : Int32} {v3 : Option Nat} {t0 : Nat} {t1 : Int32} {t2 : Option Nat} {h : PH} {r : ((Int32 × PH) ⊕ (Nat × PH))} (hM : MC + X0 = (xT2 r)) (hN : MS + V0 = (vT2 r)) (hu : uc + X0 = hX h) (hv : us + V0 = hV h) (hf : fX11_takeWord_b18 v2 v3 t0 t1 t2 h = some r)  : PW E p l e (rmv 51 MC MS) s m args below meth c 4 uc us (vx_MQ below (QG E (fun v u => ∃ z, r = .inl z ∧ v = some (.int z.1) ∧ u = z.2)) (XG E (fun En u => ∃ (z : Nat × PH) (n : Nat), r = .inr z ∧ En = exn z.1 ∧ hX z.2 ≤ n ∧ u = hbump z.2 n)) args s MC MS (pA E)) h 18 [(2, some (.int v2)), (3, some (va_rf v3))] [va_rf t2, .int t1, .ref t0] := by
  have hm1 : lez h (xT2 r) (vT2 r) := mX11_takeWord_b18 hf
  have hcm : uc ≤ MC := (by have o0 := hm1.1; have o1 := hM; have o2 := hu; (try simp only [hX_sI, hX_sR, hX_sL, hX_sD, hX_sIa, hX_sRa, hV_sI, hV_sR, hV_sL, hV_sD, hV_sIa, hV_sRa, hX_new, hV_new] at o0 o1 o2 ⊢); omega)
  have hsm : us ≤ MS := (by have o0 := hm1.2; have o1 := hN; have o2 := hv; (try simp only [hX_sI, hX_sR, hX_sL, hX_sD, hX_sIa, hX_sRa, hV_sI, hV_sR, hV_sL, hV_sD, hV_sIa, hV_sRa, hX_new, hV_new] at o0 o1 o2 ⊢); omega)
  clear hm1
  unfold fX11_takeWord_b18 at hf
  obtain ⟨hk10, hf⟩ := gd_some hf
  obtain ⟨z11, hz11, hf⟩ := bd_some hf
  have hc1 := mX11_change hz11
  have hm1 : lez _ (xT2 r) (vT2 r) := mX11_takeWord_b21 hf
  refine p_callV (As := [_, va_rf _]) X ml_X11_115 (dcg dc_X11_takeWord 12 rfl) rfl rfl hk10 (wX11_change hG hz11) (by decide) (room4 (Nat.le_of_ble_eq_true rfl)) (by have o0 := hm1.1; have o1 := hc1.1; have o2 := hM; have o3 := hu; (try simp only [hX_sI, hX_sR, hX_sL, hX_sD, hX_sIa, hX_sRa, hV_sI, hV_sR, hV_sL, hV_sD, hV_sIa, hV_sRa, hX_new, hV_new] at o0 o1 o2 o3 ⊢); omega) (by have o0 := hm1.2; have o1 := hc1.2; have o2 := hN; have o3 := hv; (try simp only [hX_sI, hX_sR, hX_sL, hX_sD, hX_sIa, hX_sRa, hV_sI, hV_sR, hV_sL, hV_sD, hV_sIa, hV_sRa, hX_new, hV_new] at o0 o1 o2 o3 ⊢); omega) ?_
  rintro _ u9 ⟨rfl, e9⟩; have e9 := e9.symm; subst e9
  refine p_pick [2, 3] ?_
  exact wX11_takeWord_b21 X hG hex hM hN (by have o0 := hc1.1; have o1 := hu; (try simp only [hX_sI, hX_sR, hX_sL, hX_sD, hX_sIa, hX_sRa, hV_sI, hV_sR, hV_sL, hV_sD, hV_sIa, hV_sRa, hX_new, hV_new] at o0 o1 ⊢); omega) (by have o0 := hc1.2; have o1 := hv; (try simp only [hX_sI, hX_sR, hX_sL, hX_sD, hX_sIa, hX_sRa, hV_sI, hV_sR, hV_sL, hV_sD, hV_sIa, hV_sRa, hX_new, hV_new] at o0 o1 ⊢); omega) hf 
noncomputable def fX11_takeWord_b11 (v0 : Nat) (v1 : Int32) (v2 : Int32) (v3 : Option Nat) (h : PH) : Option ((Int32 × PH) ⊕ (Nat × PH)) :=
  gs v3 (fun a6 =>
  gd (hK h a6 = 8) (bd (fX8_withTaken a6 v2 h) (fun z9 =>
  fX11_takeWord_b18 v2 (some a6) v0 v1 z9.1 z9.2)))
set_option maxRecDepth 100000 in
theorem mX11_takeWord_b11 {v0 : Nat} {v1 : Int32} {v2 : Int32} {v3 : Option Nat} {h : PH} {r : ((Int32 × PH) ⊕ (Nat × PH))} (hf : fX11_takeWord_b11 v0 v1 v2 v3 h = some r) : lez h (xT2 r) (vT2 r) := by
  unfold fX11_takeWord_b11 at hf
  have hle := lez_rf h
  obtain ⟨a6, e7, hf⟩ := gs_some hf
  obtain ⟨hk8, hf⟩ := gd_some hf
  obtain ⟨z9, hz9, hf⟩ := bd_some hf
  have hle := lez_rt (mX8_withTaken hz9) hle
  exact lez_rt (mX11_takeWord_b18 hf) hle
set_option maxRecDepth 100000 in
theorem wX11_takeWord_b11 {E : PE} {p : Program} {l : Launch} {e : Env} {s : State} {m : MethodId} {args : Array Value} {below : List Frame} {meth : Method} {c : Code} {X0 V0 MC MS uc us : Nat} (X : Cx E p l e (rmv 51 MC MS) s m args below meth c RX11 cX11_takeWord 4 (some .int)) (hG : Gs E l) (hex : ∀ x ∈ c.exceptionTable.toList, False) {v0 : Nat} {v1 : Int32} {v2 : Int32} {v3 : Option Nat} {h : PH} {r : ((Int32 × PH) ⊕ (Nat × PH))} (hM : MC + X0 = (xT2 r)) (hN : MS + V0 = (vT2 r)) (hu : uc + X0 = hX h) (hv : us + V0 = hV h) (hf : fX11_takeWord_b11 v0 v1 v2 v3 h = some r)  : PW E p l e (rmv 51 MC MS) s m args below meth c 4 uc us (vx_MQ below (QG E (fun v u => ∃ z, r = .inl z ∧ v = some (.int z.1) ∧ u = z.2)) (XG E (fun En u => ∃ (z : Nat × PH) (n : Nat), r = .inr z ∧ En = exn z.1 ∧ hX z.2 ≤ n ∧ u = hbump z.2 n)) args s MC MS (pA E)) h 11 [(0, some (.ref v0)), (1, some (.int v1)), (2, some (.int v2)), (3, some (va_rf v3))] [] := by
  have hm1 : lez h (xT2 r) (vT2 r) := mX11_takeWord_b11 hf
  have hcm : uc ≤ MC := (by have o0 := hm1.1; have o1 := hM; have o2 := hu; (try simp only [hX_sI, hX_sR, hX_sL, hX_sD, hX_sIa, hX_sRa, hV_sI, hV_sR, hV_sL, hV_sD, hV_sIa, hV_sRa, hX_new, hV_new] at o0 o1 o2 ⊢); omega)
  have hsm : us ≤ MS := (by have o0 := hm1.2; have o1 := hN; have o2 := hv; (try simp only [hX_sI, hX_sR, hX_sL, hX_sD, hX_sIa, hX_sRa, hV_sI, hV_sR, hV_sL, hV_sD, hV_sIa, hV_sRa, hX_new, hV_new] at o0 o1 o2 ⊢); omega)
  clear hm1
  unfold fX11_takeWord_b11 at hf
  refine p_aload_n X (dcg dc_X11_takeWord 7 rfl) rfl rfl ?_
  refine p_iload_n X (dcg dc_X11_takeWord 8 rfl) rfl rfl ?_
  refine p_aloadq_n X (dcg dc_X11_takeWord 9 rfl) rfl rfl ?_
  refine p_iload_n X (dcg dc_X11_takeWord 10 rfl) rfl rfl ?_
  obtain ⟨a6, e7, hf⟩ := gs_some hf
  first | subst e7 | (try rw [e7])
  obtain ⟨hk8, hf⟩ := gd_some hf
  obtain ⟨z9, hz9, hf⟩ := bd_some hf
  have hc1 := mX8_withTaken hz9
  have hm1 : lez _ (xT2 r) (vT2 r) := mX11_takeWord_b18 hf
  refine p_callV (As := [_]) X ml_X11_139 (dcg dc_X11_takeWord 11 rfl) rfl rfl hk8 (wX8_withTaken hG hz9) (by decide) (room4 (Nat.le_of_ble_eq_true rfl)) (by have o0 := hm1.1; have o1 := hc1.1; have o2 := hM; have o3 := hu; (try simp only [hX_sI, hX_sR, hX_sL, hX_sD, hX_sIa, hX_sRa, hV_sI, hV_sR, hV_sL, hV_sD, hV_sIa, hV_sRa, hX_new, hV_new] at o0 o1 o2 o3 ⊢); omega) (by have o0 := hm1.2; have o1 := hc1.2; have o2 := hN; have o3 := hv; (try simp only [hX_sI, hX_sR, hX_sL, hX_sD, hX_sIa, hX_sRa, hV_sI, hV_sR, hV_sL, hV_sD, hV_sIa, hV_sRa, hX_new, hV_new] at o0 o1 o2 o3 ⊢); omega) ?_
  rintro _ u9 ⟨rfl, e9⟩; have e9 := e9.symm; subst e9
  refine p_pick [2, 3] ?_
  exact wX11_takeWord_b18 X hG hex hM hN (by have o0 := hc1.1; have o1 := hu; (try simp only [hX_sI, hX_sR, hX_sL, hX_sD, hX_sIa, hX_sRa, hV_sI, hV_sR, hV_sL, hV_sD, hV_sIa, hV_sRa, hX_new, hV_new] at o0 o1 ⊢); omega) (by have o0 := hc1.2; have o1 := hv; (try simp only [hX_sI, hX_sR, hX_sL, hX_sD, hX_sIa, hX_sRa, hV_sI, hV_sR, hV_sL, hV_sD, hV_sIa, hV_sRa, hX_new, hV_new] at o0 o1 ⊢); omega) hf 
noncomputable def fX11_takeWord_b5 (v0 : Nat) (v1 : Int32) (v2 : Int32) (t0 : Option Nat) (h : PH) : Option ((Int32 × PH) ⊕ (Nat × PH)) :=
  bx (fX11_demandPlace t0 v2 h) (fun z4 =>
  fX11_takeWord_b11 v0 v1 v2 t0 z4)
set_option maxRecDepth 100000 in
theorem mX11_takeWord_b5 {v0 : Nat} {v1 : Int32} {v2 : Int32} {t0 : Option Nat} {h : PH} {r : ((Int32 × PH) ⊕ (Nat × PH))} (hf : fX11_takeWord_b5 v0 v1 v2 t0 h = some r) : lez h (xT2 r) (vT2 r) := by
  unfold fX11_takeWord_b5 at hf
  have hle := lez_rf h
  obtain ⟨y5, hy5, h1y5, h2y5⟩ := bx_some hf
  have hc1 := mX11_demandPlace hy5
  rcases y5 with z4 | z4
  · have hf := h1y5 z4 rfl
    have hle : lez h (hX z4) (hV z4) := lez_rt hc1 hle
    exact lez_rt (mX11_takeWord_b11 hf) hle
  · have hr9 := h2y5 z4 rfl
    subst hr9
    exact lez_rt hc1 hle
set_option maxRecDepth 100000 in
theorem wX11_takeWord_b5 {E : PE} {p : Program} {l : Launch} {e : Env} {s : State} {m : MethodId} {args : Array Value} {below : List Frame} {meth : Method} {c : Code} {X0 V0 MC MS uc us : Nat} (X : Cx E p l e (rmv 51 MC MS) s m args below meth c RX11 cX11_takeWord 4 (some .int)) (hG : Gs E l) (hex : ∀ x ∈ c.exceptionTable.toList, False) {v0 : Nat} {v1 : Int32} {v2 : Int32} {t0 : Option Nat} {h : PH} {r : ((Int32 × PH) ⊕ (Nat × PH))} (hM : MC + X0 = (xT2 r)) (hN : MS + V0 = (vT2 r)) (hu : uc + X0 = hX h) (hv : us + V0 = hV h) (hf : fX11_takeWord_b5 v0 v1 v2 t0 h = some r)  : PW E p l e (rmv 51 MC MS) s m args below meth c 4 uc us (vx_MQ below (QG E (fun v u => ∃ z, r = .inl z ∧ v = some (.int z.1) ∧ u = z.2)) (XG E (fun En u => ∃ (z : Nat × PH) (n : Nat), r = .inr z ∧ En = exn z.1 ∧ hX z.2 ≤ n ∧ u = hbump z.2 n)) args s MC MS (pA E)) h 5 [(0, some (.ref v0)), (1, some (.int v1)), (2, some (.int v2))] [va_rf t0] := by
  have hm1 : lez h (xT2 r) (vT2 r) := mX11_takeWord_b5 hf
  have hcm : uc ≤ MC := (by have o0 := hm1.1; have o1 := hM; have o2 := hu; (try simp only [hX_sI, hX_sR, hX_sL, hX_sD, hX_sIa, hX_sRa, hV_sI, hV_sR, hV_sL, hV_sD, hV_sIa, hV_sRa, hX_new, hV_new] at o0 o1 o2 ⊢); omega)
  have hsm : us ≤ MS := (by have o0 := hm1.2; have o1 := hN; have o2 := hv; (try simp only [hX_sI, hX_sR, hX_sL, hX_sD, hX_sIa, hX_sRa, hV_sI, hV_sR, hV_sL, hV_sD, hV_sIa, hV_sRa, hX_new, hV_new] at o0 o1 o2 ⊢); omega)
  clear hm1
  unfold fX11_takeWord_b5 at hf
  refine p_astoreq_n X (dcg dc_X11_takeWord 3 rfl) rfl (by decide) rfl ?_
  refine p_aloadq_n X (dcg dc_X11_takeWord 4 rfl) rfl rfl ?_
  refine p_iload_n X (dcg dc_X11_takeWord 5 rfl) rfl rfl ?_
  obtain ⟨y5, hy5, h1y5, h2y5⟩ := bx_some hf
  have hc1 := mX11_demandPlace hy5
  rcases y5 with z4 | z4
  · have hf := h1y5 z4 rfl
    have hm1 : lez _ (xT2 r) (vT2 r) := mX11_takeWord_b11 hf
    refine p_callSX (As := [va_rf _, _]) X hex ml_X11_135 (dcg dc_X11_takeWord 6 rfl) rfl rfl  (wX11_demandPlace hG hy5) (by decide) (room4 (Nat.le_of_ble_eq_true rfl)) (show uc + (hX z4 - hX h) ≤ MC from (by have o0 := hm1.1; have o1 := (show lez h (hX z4) (hV z4) from hc1).1; have o2 := hM; have o3 := hu; (try simp only [hX_sI, hX_sR, hX_sL, hX_sD, hX_sIa, hX_sRa, hV_sI, hV_sR, hV_sL, hV_sD, hV_sIa, hV_sRa, hX_new, hV_new] at o0 o1 o2 o3 ⊢); omega)) (show us + (hV z4 - hV h) ≤ MS from (by have o0 := hm1.2; have o1 := (show lez h (hX z4) (hV z4) from hc1).2; have o2 := hN; have o3 := hv; (try simp only [hX_sI, hX_sR, hX_sL, hX_sD, hX_sIa, hX_sRa, hV_sI, hV_sR, hV_sL, hV_sD, hV_sIa, hV_sRa, hX_new, hV_new] at o0 o1 o2 o3 ⊢); omega)) (show uc + (hX z4 - hX h) ≤ MC from (by have o0 := hm1.1; have o1 := (show lez h (hX z4) (hV z4) from hc1).1; have o2 := hM; have o3 := hu; (try simp only [hX_sI, hX_sR, hX_sL, hX_sD, hX_sIa, hX_sRa, hV_sI, hV_sR, hV_sL, hV_sD, hV_sIa, hV_sRa, hX_new, hV_new] at o0 o1 o2 o3 ⊢); omega)) (show us + (hV z4 - hV h) ≤ MS from (by have o0 := hm1.2; have o1 := (show lez h (hX z4) (hV z4) from hc1).2; have o2 := hN; have o3 := hv; (try simp only [hX_sI, hX_sR, hX_sL, hX_sD, hX_sIa, hX_sRa, hV_sI, hV_sR, hV_sL, hV_sD, hV_sIa, hV_sRa, hX_new, hV_new] at o0 o1 o2 o3 ⊢); omega)) (fun En u q => by obtain ⟨z9, n9, q9, _⟩ := q; cases q9) ?_
    rintro _ _ ⟨z9, hz9, rfl, rfl⟩
    cases hz9
    refine p_pick [0, 1, 2, 3] ?_
    exact wX11_takeWord_b11 X hG hex hM hN (show uc + (hX z4 - hX h) + X0 = hX z4 from (by have o0 := (show lez h (hX z4) (hV z4) from hc1).1; have o1 := hu; (try simp only [hX_sI, hX_sR, hX_sL, hX_sD, hX_sIa, hX_sRa, hV_sI, hV_sR, hV_sL, hV_sD, hV_sIa, hV_sRa, hX_new, hV_new] at o0 o1 ⊢); omega)) (show us + (hV z4 - hV h) + V0 = hV z4 from (by have o0 := (show lez h (hX z4) (hV z4) from hc1).2; have o1 := hv; (try simp only [hX_sI, hX_sR, hX_sL, hX_sD, hX_sIa, hX_sRa, hV_sI, hV_sR, hV_sL, hV_sD, hV_sIa, hV_sRa, hX_new, hV_new] at o0 o1 ⊢); omega)) hf 
  · have hr9 := h2y5 z4 rfl
    subst hr9
    refine p_callSX (As := [va_rf _, _]) X hex ml_X11_135 (dcg dc_X11_takeWord 6 rfl) rfl rfl  (wX11_demandPlace hG hy5) (by decide) (room4 (Nat.le_of_ble_eq_true rfl)) (show uc + (hX z4.2 + 1 - hX h) ≤ MC from (by have o0 := (show lez h (hX z4.2 + 1) (hV z4.2 + 6) from hc1).1; have o1 := (show MC + X0 = hX z4.2 + 1 from hM); have o2 := hu; (try simp only [hX_sI, hX_sR, hX_sL, hX_sD, hX_sIa, hX_sRa, hV_sI, hV_sR, hV_sL, hV_sD, hV_sIa, hV_sRa, hX_new, hV_new] at o0 o1 o2 ⊢); omega)) (show us + (hV z4.2 + 6 - hV h) ≤ MS from (by have o0 := (show lez h (hX z4.2 + 1) (hV z4.2 + 6) from hc1).2; have o1 := (show MS + V0 = hV z4.2 + 6 from hN); have o2 := hv; (try simp only [hX_sI, hX_sR, hX_sL, hX_sD, hX_sIa, hX_sRa, hV_sI, hV_sR, hV_sL, hV_sD, hV_sIa, hV_sRa, hX_new, hV_new] at o0 o1 o2 ⊢); omega)) (show uc + (hX z4.2 + 1 - hX h) ≤ MC from (by have o0 := (show lez h (hX z4.2 + 1) (hV z4.2 + 6) from hc1).1; have o1 := (show MC + X0 = hX z4.2 + 1 from hM); have o2 := hu; (try simp only [hX_sI, hX_sR, hX_sL, hX_sD, hX_sIa, hX_sRa, hV_sI, hV_sR, hV_sL, hV_sD, hV_sIa, hV_sRa, hX_new, hV_new] at o0 o1 o2 ⊢); omega)) (show us + (hV z4.2 + 6 - hV h) ≤ MS from (by have o0 := (show lez h (hX z4.2 + 1) (hV z4.2 + 6) from hc1).2; have o1 := (show MS + V0 = hV z4.2 + 6 from hN); have o2 := hv; (try simp only [hX_sI, hX_sR, hX_sL, hX_sD, hX_sIa, hX_sRa, hV_sI, hV_sR, hV_sL, hV_sD, hV_sIa, hV_sRa, hX_new, hV_new] at o0 o1 o2 ⊢); omega)) (fun En u q => by obtain ⟨z9, n9, q9, q8⟩ := q; cases q9; exact ⟨_, n9, rfl, q8⟩) ?_
    rintro _ _ ⟨z9, hz9, _⟩
    cases hz9
noncomputable def fX11_takeWord_b0 (v0 : Nat) (v1 : Int32) (v2 : Int32) (h : PH) : Option ((Int32 × PH) ⊕ (Nat × PH)) :=
  gd (hK h v0 = 11) (bx (fX11_demandText v0 v1 h) (fun z2 =>
  fX11_takeWord_b5 v0 v1 v2 z2.1 z2.2))
set_option maxRecDepth 100000 in
theorem mX11_takeWord_b0 {v0 : Nat} {v1 : Int32} {v2 : Int32} {h : PH} {r : ((Int32 × PH) ⊕ (Nat × PH))} (hf : fX11_takeWord_b0 v0 v1 v2 h = some r) : lez h (xT2 r) (vT2 r) := by
  unfold fX11_takeWord_b0 at hf
  have hle := lez_rf h
  obtain ⟨hk1, hf⟩ := gd_some hf
  obtain ⟨y3, hy3, h1y3, h2y3⟩ := bx_some hf
  have hc1 := mX11_demandText hy3
  rcases y3 with z2 | z2
  · have hf := h1y3 z2 rfl
    have hle : lez h (hX z2.2) (hV z2.2) := lez_rt hc1 hle
    exact lez_rt (mX11_takeWord_b5 hf) hle
  · have hr9 := h2y3 z2 rfl
    subst hr9
    exact lez_rt hc1 hle
set_option maxRecDepth 100000 in
theorem wX11_takeWord_b0 {E : PE} {p : Program} {l : Launch} {e : Env} {s : State} {m : MethodId} {args : Array Value} {below : List Frame} {meth : Method} {c : Code} {X0 V0 MC MS uc us : Nat} (X : Cx E p l e (rmv 51 MC MS) s m args below meth c RX11 cX11_takeWord 4 (some .int)) (hG : Gs E l) (hex : ∀ x ∈ c.exceptionTable.toList, False) {v0 : Nat} {v1 : Int32} {v2 : Int32} {h : PH} {r : ((Int32 × PH) ⊕ (Nat × PH))} (hM : MC + X0 = (xT2 r)) (hN : MS + V0 = (vT2 r)) (hu : uc + X0 = hX h) (hv : us + V0 = hV h) (hf : fX11_takeWord_b0 v0 v1 v2 h = some r)  : PW E p l e (rmv 51 MC MS) s m args below meth c 4 uc us (vx_MQ below (QG E (fun v u => ∃ z, r = .inl z ∧ v = some (.int z.1) ∧ u = z.2)) (XG E (fun En u => ∃ (z : Nat × PH) (n : Nat), r = .inr z ∧ En = exn z.1 ∧ hX z.2 ≤ n ∧ u = hbump z.2 n)) args s MC MS (pA E)) h 0 [(0, some (.ref v0)), (1, some (.int v1)), (2, some (.int v2))] [] := by
  have hm1 : lez h (xT2 r) (vT2 r) := mX11_takeWord_b0 hf
  have hcm : uc ≤ MC := (by have o0 := hm1.1; have o1 := hM; have o2 := hu; (try simp only [hX_sI, hX_sR, hX_sL, hX_sD, hX_sIa, hX_sRa, hV_sI, hV_sR, hV_sL, hV_sD, hV_sIa, hV_sRa, hX_new, hV_new] at o0 o1 o2 ⊢); omega)
  have hsm : us ≤ MS := (by have o0 := hm1.2; have o1 := hN; have o2 := hv; (try simp only [hX_sI, hX_sR, hX_sL, hX_sD, hX_sIa, hX_sRa, hV_sI, hV_sR, hV_sL, hV_sD, hV_sIa, hV_sRa, hX_new, hV_new] at o0 o1 o2 ⊢); omega)
  clear hm1
  unfold fX11_takeWord_b0 at hf
  refine p_aload_n X (dcg dc_X11_takeWord 0 rfl) rfl rfl ?_
  refine p_iload_n X (dcg dc_X11_takeWord 1 rfl) rfl rfl ?_
  obtain ⟨hk1, hf⟩ := gd_some hf
  obtain ⟨y3, hy3, h1y3, h2y3⟩ := bx_some hf
  have hc1 := mX11_demandText hy3
  rcases y3 with z2 | z2
  · have hf := h1y3 z2 rfl
    have hm1 : lez _ (xT2 r) (vT2 r) := mX11_takeWord_b5 hf
    refine p_callVX (As := [_]) X hex ml_X11_119 (dcg dc_X11_takeWord 2 rfl) rfl rfl hk1 (wX11_demandText hG hy3) (by decide) (room4 (Nat.le_of_ble_eq_true rfl)) (show uc + (hX z2.2 - hX h) ≤ MC from (by have o0 := hm1.1; have o1 := (show lez h (hX z2.2) (hV z2.2) from hc1).1; have o2 := hM; have o3 := hu; (try simp only [hX_sI, hX_sR, hX_sL, hX_sD, hX_sIa, hX_sRa, hV_sI, hV_sR, hV_sL, hV_sD, hV_sIa, hV_sRa, hX_new, hV_new] at o0 o1 o2 o3 ⊢); omega)) (show us + (hV z2.2 - hV h) ≤ MS from (by have o0 := hm1.2; have o1 := (show lez h (hX z2.2) (hV z2.2) from hc1).2; have o2 := hN; have o3 := hv; (try simp only [hX_sI, hX_sR, hX_sL, hX_sD, hX_sIa, hX_sRa, hV_sI, hV_sR, hV_sL, hV_sD, hV_sIa, hV_sRa, hX_new, hV_new] at o0 o1 o2 o3 ⊢); omega)) (show uc + (hX z2.2 - hX h) ≤ MC from (by have o0 := hm1.1; have o1 := (show lez h (hX z2.2) (hV z2.2) from hc1).1; have o2 := hM; have o3 := hu; (try simp only [hX_sI, hX_sR, hX_sL, hX_sD, hX_sIa, hX_sRa, hV_sI, hV_sR, hV_sL, hV_sD, hV_sIa, hV_sRa, hX_new, hV_new] at o0 o1 o2 o3 ⊢); omega)) (show us + (hV z2.2 - hV h) ≤ MS from (by have o0 := hm1.2; have o1 := (show lez h (hX z2.2) (hV z2.2) from hc1).2; have o2 := hN; have o3 := hv; (try simp only [hX_sI, hX_sR, hX_sL, hX_sD, hX_sIa, hX_sRa, hV_sI, hV_sR, hV_sL, hV_sD, hV_sIa, hV_sRa, hX_new, hV_new] at o0 o1 o2 o3 ⊢); omega)) (fun En u q => by obtain ⟨z9, n9, q9, _⟩ := q; cases q9) ?_
    rintro _ _ ⟨z9, hz9, rfl, rfl⟩
    cases hz9
    refine p_pick [0, 1, 2] ?_
    exact wX11_takeWord_b5 X hG hex hM hN (show uc + (hX z2.2 - hX h) + X0 = hX z2.2 from (by have o0 := (show lez h (hX z2.2) (hV z2.2) from hc1).1; have o1 := hu; (try simp only [hX_sI, hX_sR, hX_sL, hX_sD, hX_sIa, hX_sRa, hV_sI, hV_sR, hV_sL, hV_sD, hV_sIa, hV_sRa, hX_new, hV_new] at o0 o1 ⊢); omega)) (show us + (hV z2.2 - hV h) + V0 = hV z2.2 from (by have o0 := (show lez h (hX z2.2) (hV z2.2) from hc1).2; have o1 := hv; (try simp only [hX_sI, hX_sR, hX_sL, hX_sD, hX_sIa, hX_sRa, hV_sI, hV_sR, hV_sL, hV_sD, hV_sIa, hV_sRa, hX_new, hV_new] at o0 o1 ⊢); omega)) hf 
  · have hr9 := h2y3 z2 rfl
    subst hr9
    refine p_callVX (As := [_]) X hex ml_X11_119 (dcg dc_X11_takeWord 2 rfl) rfl rfl hk1 (wX11_demandText hG hy3) (by decide) (room4 (Nat.le_of_ble_eq_true rfl)) (show uc + (hX z2.2 + 1 - hX h) ≤ MC from (by have o0 := (show lez h (hX z2.2 + 1) (hV z2.2 + 6) from hc1).1; have o1 := (show MC + X0 = hX z2.2 + 1 from hM); have o2 := hu; (try simp only [hX_sI, hX_sR, hX_sL, hX_sD, hX_sIa, hX_sRa, hV_sI, hV_sR, hV_sL, hV_sD, hV_sIa, hV_sRa, hX_new, hV_new] at o0 o1 o2 ⊢); omega)) (show us + (hV z2.2 + 6 - hV h) ≤ MS from (by have o0 := (show lez h (hX z2.2 + 1) (hV z2.2 + 6) from hc1).2; have o1 := (show MS + V0 = hV z2.2 + 6 from hN); have o2 := hv; (try simp only [hX_sI, hX_sR, hX_sL, hX_sD, hX_sIa, hX_sRa, hV_sI, hV_sR, hV_sL, hV_sD, hV_sIa, hV_sRa, hX_new, hV_new] at o0 o1 o2 ⊢); omega)) (show uc + (hX z2.2 + 1 - hX h) ≤ MC from (by have o0 := (show lez h (hX z2.2 + 1) (hV z2.2 + 6) from hc1).1; have o1 := (show MC + X0 = hX z2.2 + 1 from hM); have o2 := hu; (try simp only [hX_sI, hX_sR, hX_sL, hX_sD, hX_sIa, hX_sRa, hV_sI, hV_sR, hV_sL, hV_sD, hV_sIa, hV_sRa, hX_new, hV_new] at o0 o1 o2 ⊢); omega)) (show us + (hV z2.2 + 6 - hV h) ≤ MS from (by have o0 := (show lez h (hX z2.2 + 1) (hV z2.2 + 6) from hc1).2; have o1 := (show MS + V0 = hV z2.2 + 6 from hN); have o2 := hv; (try simp only [hX_sI, hX_sR, hX_sL, hX_sD, hX_sIa, hX_sRa, hV_sI, hV_sR, hV_sL, hV_sD, hV_sIa, hV_sRa, hX_new, hV_new] at o0 o1 o2 ⊢); omega)) (fun En u q => by obtain ⟨z9, n9, q9, q8⟩ := q; cases q9; exact ⟨_, n9, rfl, q8⟩) ?_
    rintro _ _ ⟨z9, hz9, _⟩
    cases hz9
noncomputable def fX11_takeWord (v0 : Nat) (v1 : Int32) (v2 : Int32) (h : PH) : Option ((Int32 × PH) ⊕ (Nat × PH)) :=
  fX11_takeWord_b0 v0 v1 v2 h
set_option maxRecDepth 100000 in
theorem mX11_takeWord {v0 : Nat} {v1 : Int32} {v2 : Int32} {h : PH} {r : ((Int32 × PH) ⊕ (Nat × PH))} (hf : fX11_takeWord v0 v1 v2 h = some r) : lez h (xT2 r) (vT2 r) := by
  unfold fX11_takeWord at hf
  have hle := lez_rf h
  exact lez_rt (mX11_takeWord_b0 hf) hle
set_option maxRecDepth 100000 in
theorem wX11_takeWord {E : PE} {l : Launch} (hG : Gs E l) {v0 : Nat} {v1 : Int32} {v2 : Int32} {h : PH} {r : ((Int32 × PH) ⊕ (Nat × PH))} (hf : fX11_takeWord v0 v1 v2 h = some r) : CtX E l 51 ((xT2 r) - hX h) ((vT2 r) - hV h) yX11_takeWord cX11_takeWord 4 (some .int) [.ref v0, .int v1, .int v2] h (fun v u => ∃ z, r = .inl z ∧ v = some (.int z.1) ∧ u = z.2) (fun En u => ∃ (z : Nat × PH) (n : Nat), r = .inr z ∧ En = exn z.1 ∧ hX z.2 ≤ n ∧ u = hbump z.2 n) := by
  have hmm := mX11_takeWord hf
  refine ctx_of hG (by decide) (Nat.le_of_ble_eq_true rfl) ?_
  intro p e s m args below meth c X hex
  show PW E p l e _ s m args below meth c _ 0 0 _ h 0 [(0, some (.ref v0)), (1, some (.int v1)), (2, some (.int v2))] []
  unfold fX11_takeWord at hf
  have hM := Nat.sub_add_cancel hmm.1
  have hN := Nat.sub_add_cancel hmm.2
  refine p_pick [0, 1, 2] ?_
  exact wX11_takeWord_b0 X hG hex hM hN (Nat.zero_add _) (Nat.zero_add _) hf
theorem dc_X11_setWord : decs cX11_setWord [(0, .aload_n 0, 1), (1, .iload_n 1, 1), (2, .invokevirtual 119, 3), (5, .astore 4, 2), (7, .aload 4, 2), (9, .iload_n 2, 1), (10, .invokestatic 135, 3), (13, .iload_n 3, 1), (14, .invokestatic 128, 3), (17, .aload_n 0, 1), (18, .iload_n 1, 1), (19, .aload 4, 2), (21, .iload_n 2, 1), (22, .iload_n 3, 1), (23, .invokevirtual 145, 3), (26, .invokevirtual 115, 3), (29, .aload 4, 2), (31, .iload_n 2, 1), (32, .invokevirtual 142, 3), (35, .ireturn, 1)] = true := by decide +kernel
noncomputable def fX11_setWord_b29 (v2 : Int32) (v4 : Option Nat) (h : PH) : Option ((Int32 × PH) ⊕ (Nat × PH)) :=
  gs v4 (fun a14 =>
  gd (hK h a14 = 8) (bd (fX8_at a14 v2 h) (fun z17 =>
  some (.inl ((z17, h))))))
set_option maxRecDepth 100000 in
theorem mX11_setWord_b29 {v2 : Int32} {v4 : Option Nat} {h : PH} {r : ((Int32 × PH) ⊕ (Nat × PH))} (hf : fX11_setWord_b29 v2 v4 h = some r) : lez h (xT2 r) (vT2 r) := by
  unfold fX11_setWord_b29 at hf
  have hle := lez_rf h
  obtain ⟨a14, e15, hf⟩ := gs_some hf
  obtain ⟨hk16, hf⟩ := gd_some hf
  obtain ⟨z17, hz17, hf⟩ := bd_some hf
  have ee := Option.some.inj hf; subst ee; exact hle
set_option maxRecDepth 100000 in
theorem wX11_setWord_b29 {E : PE} {p : Program} {l : Launch} {e : Env} {s : State} {m : MethodId} {args : Array Value} {below : List Frame} {meth : Method} {c : Code} {X0 V0 MC MS uc us : Nat} (X : Cx E p l e (rmv 51 MC MS) s m args below meth c RX11 cX11_setWord 5 (some .int)) (hG : Gs E l) (hex : ∀ x ∈ c.exceptionTable.toList, False) {v2 : Int32} {v4 : Option Nat} {h : PH} {r : ((Int32 × PH) ⊕ (Nat × PH))} (hM : MC + X0 = (xT2 r)) (hN : MS + V0 = (vT2 r)) (hu : uc + X0 = hX h) (hv : us + V0 = hV h) (hf : fX11_setWord_b29 v2 v4 h = some r)  : PW E p l e (rmv 51 MC MS) s m args below meth c 5 uc us (vx_MQ below (QG E (fun v u => ∃ z, r = .inl z ∧ v = some (.int z.1) ∧ u = z.2)) (XG E (fun En u => ∃ (z : Nat × PH) (n : Nat), r = .inr z ∧ En = exn z.1 ∧ hX z.2 ≤ n ∧ u = hbump z.2 n)) args s MC MS (pA E)) h 29 [(2, some (.int v2)), (4, some (va_rf v4))] [] := by
  have hm1 : lez h (xT2 r) (vT2 r) := mX11_setWord_b29 hf
  have hcm : uc ≤ MC := (by have o0 := hm1.1; have o1 := hM; have o2 := hu; (try simp only [hX_sI, hX_sR, hX_sL, hX_sD, hX_sIa, hX_sRa, hV_sI, hV_sR, hV_sL, hV_sD, hV_sIa, hV_sRa, hX_new, hV_new] at o0 o1 o2 ⊢); omega)
  have hsm : us ≤ MS := (by have o0 := hm1.2; have o1 := hN; have o2 := hv; (try simp only [hX_sI, hX_sR, hX_sL, hX_sD, hX_sIa, hX_sRa, hV_sI, hV_sR, hV_sL, hV_sD, hV_sIa, hV_sRa, hX_new, hV_new] at o0 o1 o2 ⊢); omega)
  clear hm1
  unfold fX11_setWord_b29 at hf
  refine p_aloadq X (dcg dc_X11_setWord 16 rfl) rfl ?_
  refine p_iload_n X (dcg dc_X11_setWord 17 rfl) rfl rfl ?_
  obtain ⟨a14, e15, hf⟩ := gs_some hf
  first | subst e15 | (try rw [e15])
  obtain ⟨hk16, hf⟩ := gd_some hf
  obtain ⟨z17, hz17, hf⟩ := bd_some hf
  refine p_callV (As := [_]) X ml_X11_142 (dcg dc_X11_setWord 18 rfl) rfl rfl hk16 (wX8_at hG hz17) (by decide) (room4 (Nat.le_of_ble_eq_true rfl)) hcm hsm ?_
  rintro _ u9 ⟨rfl, e9⟩; have e9 := e9.symm; subst e9
  have er := Option.some.inj hf
  subst er
  refine p_vx ?_
  exact p_iret X rfl (dcg dc_X11_setWord 19 rfl) ⟨_, rfl, rfl, rfl⟩ hcm hsm
noncomputable def fX11_setWord_b26 (v2 : Int32) (v4 : Option Nat) (t0 : Nat) (t1 : Int32) (t2 : Option Nat) (h : PH) : Option ((Int32 × PH) ⊕ (Nat × PH)) :=
  gd (hK h t0 = 11) (bd (fX11_change t0 t1 t2 h) (fun z13 =>
  fX11_setWord_b29 v2 v4 z13))
set_option maxRecDepth 100000 in
theorem mX11_setWord_b26 {v2 : Int32} {v4 : Option Nat} {t0 : Nat} {t1 : Int32} {t2 : Option Nat} {h : PH} {r : ((Int32 × PH) ⊕ (Nat × PH))} (hf : fX11_setWord_b26 v2 v4 t0 t1 t2 h = some r) : lez h (xT2 r) (vT2 r) := by
  unfold fX11_setWord_b26 at hf
  have hle := lez_rf h
  obtain ⟨hk12, hf⟩ := gd_some hf
  obtain ⟨z13, hz13, hf⟩ := bd_some hf
  have hle := lez_rt (mX11_change hz13) hle
  exact lez_rt (mX11_setWord_b29 hf) hle
set_option maxRecDepth 100000 in
theorem wX11_setWord_b26 {E : PE} {p : Program} {l : Launch} {e : Env} {s : State} {m : MethodId} {args : Array Value} {below : List Frame} {meth : Method} {c : Code} {X0 V0 MC MS uc us : Nat} (X : Cx E p l e (rmv 51 MC MS) s m args below meth c RX11 cX11_setWord 5 (some .int)) (hG : Gs E l) (hex : ∀ x ∈ c.exceptionTable.toList, False) {v2 : Int32} {v4 : Option Nat} {t0 : Nat} {t1 : Int32} {t2 : Option Nat} {h : PH} {r : ((Int32 × PH) ⊕ (Nat × PH))} (hM : MC + X0 = (xT2 r)) (hN : MS + V0 = (vT2 r)) (hu : uc + X0 = hX h) (hv : us + V0 = hV h) (hf : fX11_setWord_b26 v2 v4 t0 t1 t2 h = some r)  : PW E p l e (rmv 51 MC MS) s m args below meth c 5 uc us (vx_MQ below (QG E (fun v u => ∃ z, r = .inl z ∧ v = some (.int z.1) ∧ u = z.2)) (XG E (fun En u => ∃ (z : Nat × PH) (n : Nat), r = .inr z ∧ En = exn z.1 ∧ hX z.2 ≤ n ∧ u = hbump z.2 n)) args s MC MS (pA E)) h 26 [(2, some (.int v2)), (4, some (va_rf v4))] [va_rf t2, .int t1, .ref t0] := by
  have hm1 : lez h (xT2 r) (vT2 r) := mX11_setWord_b26 hf
  have hcm : uc ≤ MC := (by have o0 := hm1.1; have o1 := hM; have o2 := hu; (try simp only [hX_sI, hX_sR, hX_sL, hX_sD, hX_sIa, hX_sRa, hV_sI, hV_sR, hV_sL, hV_sD, hV_sIa, hV_sRa, hX_new, hV_new] at o0 o1 o2 ⊢); omega)
  have hsm : us ≤ MS := (by have o0 := hm1.2; have o1 := hN; have o2 := hv; (try simp only [hX_sI, hX_sR, hX_sL, hX_sD, hX_sIa, hX_sRa, hV_sI, hV_sR, hV_sL, hV_sD, hV_sIa, hV_sRa, hX_new, hV_new] at o0 o1 o2 ⊢); omega)
  clear hm1
  unfold fX11_setWord_b26 at hf
  obtain ⟨hk12, hf⟩ := gd_some hf
  obtain ⟨z13, hz13, hf⟩ := bd_some hf
  have hc1 := mX11_change hz13
  have hm1 : lez _ (xT2 r) (vT2 r) := mX11_setWord_b29 hf
  refine p_callV (As := [_, va_rf _]) X ml_X11_115 (dcg dc_X11_setWord 15 rfl) rfl rfl hk12 (wX11_change hG hz13) (by decide) (room4 (Nat.le_of_ble_eq_true rfl)) (by have o0 := hm1.1; have o1 := hc1.1; have o2 := hM; have o3 := hu; (try simp only [hX_sI, hX_sR, hX_sL, hX_sD, hX_sIa, hX_sRa, hV_sI, hV_sR, hV_sL, hV_sD, hV_sIa, hV_sRa, hX_new, hV_new] at o0 o1 o2 o3 ⊢); omega) (by have o0 := hm1.2; have o1 := hc1.2; have o2 := hN; have o3 := hv; (try simp only [hX_sI, hX_sR, hX_sL, hX_sD, hX_sIa, hX_sRa, hV_sI, hV_sR, hV_sL, hV_sD, hV_sIa, hV_sRa, hX_new, hV_new] at o0 o1 o2 o3 ⊢); omega) ?_
  rintro _ u9 ⟨rfl, e9⟩; have e9 := e9.symm; subst e9
  refine p_pick [2, 4] ?_
  exact wX11_setWord_b29 X hG hex hM hN (by have o0 := hc1.1; have o1 := hu; (try simp only [hX_sI, hX_sR, hX_sL, hX_sD, hX_sIa, hX_sRa, hV_sI, hV_sR, hV_sL, hV_sD, hV_sIa, hV_sRa, hX_new, hV_new] at o0 o1 ⊢); omega) (by have o0 := hc1.2; have o1 := hv; (try simp only [hX_sI, hX_sR, hX_sL, hX_sD, hX_sIa, hX_sRa, hV_sI, hV_sR, hV_sL, hV_sD, hV_sIa, hV_sRa, hX_new, hV_new] at o0 o1 ⊢); omega) hf 
noncomputable def fX11_setWord_b17 (v0 : Nat) (v1 : Int32) (v2 : Int32) (v3 : Int32) (v4 : Option Nat) (h : PH) : Option ((Int32 × PH) ⊕ (Nat × PH)) :=
  gs v4 (fun a8 =>
  gd (hK h a8 = 8) (bd (fX8_withSet a8 v2 v3 h) (fun z11 =>
  fX11_setWord_b26 v2 (some a8) v0 v1 z11.1 z11.2)))
set_option maxRecDepth 100000 in
theorem mX11_setWord_b17 {v0 : Nat} {v1 : Int32} {v2 : Int32} {v3 : Int32} {v4 : Option Nat} {h : PH} {r : ((Int32 × PH) ⊕ (Nat × PH))} (hf : fX11_setWord_b17 v0 v1 v2 v3 v4 h = some r) : lez h (xT2 r) (vT2 r) := by
  unfold fX11_setWord_b17 at hf
  have hle := lez_rf h
  obtain ⟨a8, e9, hf⟩ := gs_some hf
  obtain ⟨hk10, hf⟩ := gd_some hf
  obtain ⟨z11, hz11, hf⟩ := bd_some hf
  have hle := lez_rt (mX8_withSet hz11) hle
  exact lez_rt (mX11_setWord_b26 hf) hle
set_option maxRecDepth 100000 in
theorem wX11_setWord_b17 {E : PE} {p : Program} {l : Launch} {e : Env} {s : State} {m : MethodId} {args : Array Value} {below : List Frame} {meth : Method} {c : Code} {X0 V0 MC MS uc us : Nat} (X : Cx E p l e (rmv 51 MC MS) s m args below meth c RX11 cX11_setWord 5 (some .int)) (hG : Gs E l) (hex : ∀ x ∈ c.exceptionTable.toList, False) {v0 : Nat} {v1 : Int32} {v2 : Int32} {v3 : Int32} {v4 : Option Nat} {h : PH} {r : ((Int32 × PH) ⊕ (Nat × PH))} (hM : MC + X0 = (xT2 r)) (hN : MS + V0 = (vT2 r)) (hu : uc + X0 = hX h) (hv : us + V0 = hV h) (hf : fX11_setWord_b17 v0 v1 v2 v3 v4 h = some r)  : PW E p l e (rmv 51 MC MS) s m args below meth c 5 uc us (vx_MQ below (QG E (fun v u => ∃ z, r = .inl z ∧ v = some (.int z.1) ∧ u = z.2)) (XG E (fun En u => ∃ (z : Nat × PH) (n : Nat), r = .inr z ∧ En = exn z.1 ∧ hX z.2 ≤ n ∧ u = hbump z.2 n)) args s MC MS (pA E)) h 17 [(0, some (.ref v0)), (1, some (.int v1)), (2, some (.int v2)), (3, some (.int v3)), (4, some (va_rf v4))] [] := by
  have hm1 : lez h (xT2 r) (vT2 r) := mX11_setWord_b17 hf
  have hcm : uc ≤ MC := (by have o0 := hm1.1; have o1 := hM; have o2 := hu; (try simp only [hX_sI, hX_sR, hX_sL, hX_sD, hX_sIa, hX_sRa, hV_sI, hV_sR, hV_sL, hV_sD, hV_sIa, hV_sRa, hX_new, hV_new] at o0 o1 o2 ⊢); omega)
  have hsm : us ≤ MS := (by have o0 := hm1.2; have o1 := hN; have o2 := hv; (try simp only [hX_sI, hX_sR, hX_sL, hX_sD, hX_sIa, hX_sRa, hV_sI, hV_sR, hV_sL, hV_sD, hV_sIa, hV_sRa, hX_new, hV_new] at o0 o1 o2 ⊢); omega)
  clear hm1
  unfold fX11_setWord_b17 at hf
  refine p_aload_n X (dcg dc_X11_setWord 9 rfl) rfl rfl ?_
  refine p_iload_n X (dcg dc_X11_setWord 10 rfl) rfl rfl ?_
  refine p_aloadq X (dcg dc_X11_setWord 11 rfl) rfl ?_
  refine p_iload_n X (dcg dc_X11_setWord 12 rfl) rfl rfl ?_
  refine p_iload_n X (dcg dc_X11_setWord 13 rfl) rfl rfl ?_
  obtain ⟨a8, e9, hf⟩ := gs_some hf
  first | subst e9 | (try rw [e9])
  obtain ⟨hk10, hf⟩ := gd_some hf
  obtain ⟨z11, hz11, hf⟩ := bd_some hf
  have hc1 := mX8_withSet hz11
  have hm1 : lez _ (xT2 r) (vT2 r) := mX11_setWord_b26 hf
  refine p_callV (As := [_, _]) X ml_X11_145 (dcg dc_X11_setWord 14 rfl) rfl rfl hk10 (wX8_withSet hG hz11) (by decide) (room4 (Nat.le_of_ble_eq_true rfl)) (by have o0 := hm1.1; have o1 := hc1.1; have o2 := hM; have o3 := hu; (try simp only [hX_sI, hX_sR, hX_sL, hX_sD, hX_sIa, hX_sRa, hV_sI, hV_sR, hV_sL, hV_sD, hV_sIa, hV_sRa, hX_new, hV_new] at o0 o1 o2 o3 ⊢); omega) (by have o0 := hm1.2; have o1 := hc1.2; have o2 := hN; have o3 := hv; (try simp only [hX_sI, hX_sR, hX_sL, hX_sD, hX_sIa, hX_sRa, hV_sI, hV_sR, hV_sL, hV_sD, hV_sIa, hV_sRa, hX_new, hV_new] at o0 o1 o2 o3 ⊢); omega) ?_
  rintro _ u9 ⟨rfl, e9⟩; have e9 := e9.symm; subst e9
  refine p_pick [2, 4] ?_
  exact wX11_setWord_b26 X hG hex hM hN (by have o0 := hc1.1; have o1 := hu; (try simp only [hX_sI, hX_sR, hX_sL, hX_sD, hX_sIa, hX_sRa, hV_sI, hV_sR, hV_sL, hV_sD, hV_sIa, hV_sRa, hX_new, hV_new] at o0 o1 ⊢); omega) (by have o0 := hc1.2; have o1 := hv; (try simp only [hX_sI, hX_sR, hX_sL, hX_sD, hX_sIa, hX_sRa, hV_sI, hV_sR, hV_sL, hV_sD, hV_sIa, hV_sRa, hX_new, hV_new] at o0 o1 ⊢); omega) hf 
noncomputable def fX11_setWord_b13 (v0 : Nat) (v1 : Int32) (v2 : Int32) (v3 : Int32) (v4 : Option Nat) (h : PH) : Option ((Int32 × PH) ⊕ (Nat × PH)) :=
  bx (fX11_demandWord v3 h) (fun z6 =>
  fX11_setWord_b17 v0 v1 v2 v3 v4 z6)
set_option maxRecDepth 100000 in
theorem mX11_setWord_b13 {v0 : Nat} {v1 : Int32} {v2 : Int32} {v3 : Int32} {v4 : Option Nat} {h : PH} {r : ((Int32 × PH) ⊕ (Nat × PH))} (hf : fX11_setWord_b13 v0 v1 v2 v3 v4 h = some r) : lez h (xT2 r) (vT2 r) := by
  unfold fX11_setWord_b13 at hf
  have hle := lez_rf h
  obtain ⟨y7, hy7, h1y7, h2y7⟩ := bx_some hf
  have hc1 := mX11_demandWord hy7
  rcases y7 with z6 | z6
  · have hf := h1y7 z6 rfl
    have hle : lez h (hX z6) (hV z6) := lez_rt hc1 hle
    exact lez_rt (mX11_setWord_b17 hf) hle
  · have hr9 := h2y7 z6 rfl
    subst hr9
    exact lez_rt hc1 hle
set_option maxRecDepth 100000 in
theorem wX11_setWord_b13 {E : PE} {p : Program} {l : Launch} {e : Env} {s : State} {m : MethodId} {args : Array Value} {below : List Frame} {meth : Method} {c : Code} {X0 V0 MC MS uc us : Nat} (X : Cx E p l e (rmv 51 MC MS) s m args below meth c RX11 cX11_setWord 5 (some .int)) (hG : Gs E l) (hex : ∀ x ∈ c.exceptionTable.toList, False) {v0 : Nat} {v1 : Int32} {v2 : Int32} {v3 : Int32} {v4 : Option Nat} {h : PH} {r : ((Int32 × PH) ⊕ (Nat × PH))} (hM : MC + X0 = (xT2 r)) (hN : MS + V0 = (vT2 r)) (hu : uc + X0 = hX h) (hv : us + V0 = hV h) (hf : fX11_setWord_b13 v0 v1 v2 v3 v4 h = some r)  : PW E p l e (rmv 51 MC MS) s m args below meth c 5 uc us (vx_MQ below (QG E (fun v u => ∃ z, r = .inl z ∧ v = some (.int z.1) ∧ u = z.2)) (XG E (fun En u => ∃ (z : Nat × PH) (n : Nat), r = .inr z ∧ En = exn z.1 ∧ hX z.2 ≤ n ∧ u = hbump z.2 n)) args s MC MS (pA E)) h 13 [(0, some (.ref v0)), (1, some (.int v1)), (2, some (.int v2)), (3, some (.int v3)), (4, some (va_rf v4))] [] := by
  have hm1 : lez h (xT2 r) (vT2 r) := mX11_setWord_b13 hf
  have hcm : uc ≤ MC := (by have o0 := hm1.1; have o1 := hM; have o2 := hu; (try simp only [hX_sI, hX_sR, hX_sL, hX_sD, hX_sIa, hX_sRa, hV_sI, hV_sR, hV_sL, hV_sD, hV_sIa, hV_sRa, hX_new, hV_new] at o0 o1 o2 ⊢); omega)
  have hsm : us ≤ MS := (by have o0 := hm1.2; have o1 := hN; have o2 := hv; (try simp only [hX_sI, hX_sR, hX_sL, hX_sD, hX_sIa, hX_sRa, hV_sI, hV_sR, hV_sL, hV_sD, hV_sIa, hV_sRa, hX_new, hV_new] at o0 o1 o2 ⊢); omega)
  clear hm1
  unfold fX11_setWord_b13 at hf
  refine p_iload_n X (dcg dc_X11_setWord 7 rfl) rfl rfl ?_
  obtain ⟨y7, hy7, h1y7, h2y7⟩ := bx_some hf
  have hc1 := mX11_demandWord hy7
  rcases y7 with z6 | z6
  · have hf := h1y7 z6 rfl
    have hm1 : lez _ (xT2 r) (vT2 r) := mX11_setWord_b17 hf
    refine p_callSX (As := [_]) X hex ml_X11_128 (dcg dc_X11_setWord 8 rfl) rfl rfl  (wX11_demandWord hG hy7) (by decide) (room4 (Nat.le_of_ble_eq_true rfl)) (show uc + (hX z6 - hX h) ≤ MC from (by have o0 := hm1.1; have o1 := (show lez h (hX z6) (hV z6) from hc1).1; have o2 := hM; have o3 := hu; (try simp only [hX_sI, hX_sR, hX_sL, hX_sD, hX_sIa, hX_sRa, hV_sI, hV_sR, hV_sL, hV_sD, hV_sIa, hV_sRa, hX_new, hV_new] at o0 o1 o2 o3 ⊢); omega)) (show us + (hV z6 - hV h) ≤ MS from (by have o0 := hm1.2; have o1 := (show lez h (hX z6) (hV z6) from hc1).2; have o2 := hN; have o3 := hv; (try simp only [hX_sI, hX_sR, hX_sL, hX_sD, hX_sIa, hX_sRa, hV_sI, hV_sR, hV_sL, hV_sD, hV_sIa, hV_sRa, hX_new, hV_new] at o0 o1 o2 o3 ⊢); omega)) (show uc + (hX z6 - hX h) ≤ MC from (by have o0 := hm1.1; have o1 := (show lez h (hX z6) (hV z6) from hc1).1; have o2 := hM; have o3 := hu; (try simp only [hX_sI, hX_sR, hX_sL, hX_sD, hX_sIa, hX_sRa, hV_sI, hV_sR, hV_sL, hV_sD, hV_sIa, hV_sRa, hX_new, hV_new] at o0 o1 o2 o3 ⊢); omega)) (show us + (hV z6 - hV h) ≤ MS from (by have o0 := hm1.2; have o1 := (show lez h (hX z6) (hV z6) from hc1).2; have o2 := hN; have o3 := hv; (try simp only [hX_sI, hX_sR, hX_sL, hX_sD, hX_sIa, hX_sRa, hV_sI, hV_sR, hV_sL, hV_sD, hV_sIa, hV_sRa, hX_new, hV_new] at o0 o1 o2 o3 ⊢); omega)) (fun En u q => by obtain ⟨z9, n9, q9, _⟩ := q; cases q9) ?_
    rintro _ _ ⟨z9, hz9, rfl, rfl⟩
    cases hz9
    refine p_pick [0, 1, 2, 3, 4] ?_
    exact wX11_setWord_b17 X hG hex hM hN (show uc + (hX z6 - hX h) + X0 = hX z6 from (by have o0 := (show lez h (hX z6) (hV z6) from hc1).1; have o1 := hu; (try simp only [hX_sI, hX_sR, hX_sL, hX_sD, hX_sIa, hX_sRa, hV_sI, hV_sR, hV_sL, hV_sD, hV_sIa, hV_sRa, hX_new, hV_new] at o0 o1 ⊢); omega)) (show us + (hV z6 - hV h) + V0 = hV z6 from (by have o0 := (show lez h (hX z6) (hV z6) from hc1).2; have o1 := hv; (try simp only [hX_sI, hX_sR, hX_sL, hX_sD, hX_sIa, hX_sRa, hV_sI, hV_sR, hV_sL, hV_sD, hV_sIa, hV_sRa, hX_new, hV_new] at o0 o1 ⊢); omega)) hf 
  · have hr9 := h2y7 z6 rfl
    subst hr9
    refine p_callSX (As := [_]) X hex ml_X11_128 (dcg dc_X11_setWord 8 rfl) rfl rfl  (wX11_demandWord hG hy7) (by decide) (room4 (Nat.le_of_ble_eq_true rfl)) (show uc + (hX z6.2 + 1 - hX h) ≤ MC from (by have o0 := (show lez h (hX z6.2 + 1) (hV z6.2 + 6) from hc1).1; have o1 := (show MC + X0 = hX z6.2 + 1 from hM); have o2 := hu; (try simp only [hX_sI, hX_sR, hX_sL, hX_sD, hX_sIa, hX_sRa, hV_sI, hV_sR, hV_sL, hV_sD, hV_sIa, hV_sRa, hX_new, hV_new] at o0 o1 o2 ⊢); omega)) (show us + (hV z6.2 + 6 - hV h) ≤ MS from (by have o0 := (show lez h (hX z6.2 + 1) (hV z6.2 + 6) from hc1).2; have o1 := (show MS + V0 = hV z6.2 + 6 from hN); have o2 := hv; (try simp only [hX_sI, hX_sR, hX_sL, hX_sD, hX_sIa, hX_sRa, hV_sI, hV_sR, hV_sL, hV_sD, hV_sIa, hV_sRa, hX_new, hV_new] at o0 o1 o2 ⊢); omega)) (show uc + (hX z6.2 + 1 - hX h) ≤ MC from (by have o0 := (show lez h (hX z6.2 + 1) (hV z6.2 + 6) from hc1).1; have o1 := (show MC + X0 = hX z6.2 + 1 from hM); have o2 := hu; (try simp only [hX_sI, hX_sR, hX_sL, hX_sD, hX_sIa, hX_sRa, hV_sI, hV_sR, hV_sL, hV_sD, hV_sIa, hV_sRa, hX_new, hV_new] at o0 o1 o2 ⊢); omega)) (show us + (hV z6.2 + 6 - hV h) ≤ MS from (by have o0 := (show lez h (hX z6.2 + 1) (hV z6.2 + 6) from hc1).2; have o1 := (show MS + V0 = hV z6.2 + 6 from hN); have o2 := hv; (try simp only [hX_sI, hX_sR, hX_sL, hX_sD, hX_sIa, hX_sRa, hV_sI, hV_sR, hV_sL, hV_sD, hV_sIa, hV_sRa, hX_new, hV_new] at o0 o1 o2 ⊢); omega)) (fun En u q => by obtain ⟨z9, n9, q9, q8⟩ := q; cases q9; exact ⟨_, n9, rfl, q8⟩) ?_
    rintro _ _ ⟨z9, hz9, _⟩
    cases hz9
noncomputable def fX11_setWord_b5 (v0 : Nat) (v1 : Int32) (v2 : Int32) (v3 : Int32) (t0 : Option Nat) (h : PH) : Option ((Int32 × PH) ⊕ (Nat × PH)) :=
  bx (fX11_demandPlace t0 v2 h) (fun z4 =>
  fX11_setWord_b13 v0 v1 v2 v3 t0 z4)
set_option maxRecDepth 100000 in
theorem mX11_setWord_b5 {v0 : Nat} {v1 : Int32} {v2 : Int32} {v3 : Int32} {t0 : Option Nat} {h : PH} {r : ((Int32 × PH) ⊕ (Nat × PH))} (hf : fX11_setWord_b5 v0 v1 v2 v3 t0 h = some r) : lez h (xT2 r) (vT2 r) := by
  unfold fX11_setWord_b5 at hf
  have hle := lez_rf h
  obtain ⟨y5, hy5, h1y5, h2y5⟩ := bx_some hf
  have hc1 := mX11_demandPlace hy5
  rcases y5 with z4 | z4
  · have hf := h1y5 z4 rfl
    have hle : lez h (hX z4) (hV z4) := lez_rt hc1 hle
    exact lez_rt (mX11_setWord_b13 hf) hle
  · have hr9 := h2y5 z4 rfl
    subst hr9
    exact lez_rt hc1 hle
set_option maxRecDepth 100000 in
theorem wX11_setWord_b5 {E : PE} {p : Program} {l : Launch} {e : Env} {s : State} {m : MethodId} {args : Array Value} {below : List Frame} {meth : Method} {c : Code} {X0 V0 MC MS uc us : Nat} (X : Cx E p l e (rmv 51 MC MS) s m args below meth c RX11 cX11_setWord 5 (some .int)) (hG : Gs E l) (hex : ∀ x ∈ c.exceptionTable.toList, False) {v0 : Nat} {v1 : Int32} {v2 : Int32} {v3 : Int32} {t0 : Option Nat} {h : PH} {r : ((Int32 × PH) ⊕ (Nat × PH))} (hM : MC + X0 = (xT2 r)) (hN : MS + V0 = (vT2 r)) (hu : uc + X0 = hX h) (hv : us + V0 = hV h) (hf : fX11_setWord_b5 v0 v1 v2 v3 t0 h = some r)  : PW E p l e (rmv 51 MC MS) s m args below meth c 5 uc us (vx_MQ below (QG E (fun v u => ∃ z, r = .inl z ∧ v = some (.int z.1) ∧ u = z.2)) (XG E (fun En u => ∃ (z : Nat × PH) (n : Nat), r = .inr z ∧ En = exn z.1 ∧ hX z.2 ≤ n ∧ u = hbump z.2 n)) args s MC MS (pA E)) h 5 [(0, some (.ref v0)), (1, some (.int v1)), (2, some (.int v2)), (3, some (.int v3))] [va_rf t0] := by
  have hm1 : lez h (xT2 r) (vT2 r) := mX11_setWord_b5 hf
  have hcm : uc ≤ MC := (by have o0 := hm1.1; have o1 := hM; have o2 := hu; (try simp only [hX_sI, hX_sR, hX_sL, hX_sD, hX_sIa, hX_sRa, hV_sI, hV_sR, hV_sL, hV_sD, hV_sIa, hV_sRa, hX_new, hV_new] at o0 o1 o2 ⊢); omega)
  have hsm : us ≤ MS := (by have o0 := hm1.2; have o1 := hN; have o2 := hv; (try simp only [hX_sI, hX_sR, hX_sL, hX_sD, hX_sIa, hX_sRa, hV_sI, hV_sR, hV_sL, hV_sD, hV_sIa, hV_sRa, hX_new, hV_new] at o0 o1 o2 ⊢); omega)
  clear hm1
  unfold fX11_setWord_b5 at hf
  refine p_astoreq X (dcg dc_X11_setWord 3 rfl) (by decide) rfl ?_
  refine p_aloadq X (dcg dc_X11_setWord 4 rfl) rfl ?_
  refine p_iload_n X (dcg dc_X11_setWord 5 rfl) rfl rfl ?_
  obtain ⟨y5, hy5, h1y5, h2y5⟩ := bx_some hf
  have hc1 := mX11_demandPlace hy5
  rcases y5 with z4 | z4
  · have hf := h1y5 z4 rfl
    have hm1 : lez _ (xT2 r) (vT2 r) := mX11_setWord_b13 hf
    refine p_callSX (As := [va_rf _, _]) X hex ml_X11_135 (dcg dc_X11_setWord 6 rfl) rfl rfl  (wX11_demandPlace hG hy5) (by decide) (room4 (Nat.le_of_ble_eq_true rfl)) (show uc + (hX z4 - hX h) ≤ MC from (by have o0 := hm1.1; have o1 := (show lez h (hX z4) (hV z4) from hc1).1; have o2 := hM; have o3 := hu; (try simp only [hX_sI, hX_sR, hX_sL, hX_sD, hX_sIa, hX_sRa, hV_sI, hV_sR, hV_sL, hV_sD, hV_sIa, hV_sRa, hX_new, hV_new] at o0 o1 o2 o3 ⊢); omega)) (show us + (hV z4 - hV h) ≤ MS from (by have o0 := hm1.2; have o1 := (show lez h (hX z4) (hV z4) from hc1).2; have o2 := hN; have o3 := hv; (try simp only [hX_sI, hX_sR, hX_sL, hX_sD, hX_sIa, hX_sRa, hV_sI, hV_sR, hV_sL, hV_sD, hV_sIa, hV_sRa, hX_new, hV_new] at o0 o1 o2 o3 ⊢); omega)) (show uc + (hX z4 - hX h) ≤ MC from (by have o0 := hm1.1; have o1 := (show lez h (hX z4) (hV z4) from hc1).1; have o2 := hM; have o3 := hu; (try simp only [hX_sI, hX_sR, hX_sL, hX_sD, hX_sIa, hX_sRa, hV_sI, hV_sR, hV_sL, hV_sD, hV_sIa, hV_sRa, hX_new, hV_new] at o0 o1 o2 o3 ⊢); omega)) (show us + (hV z4 - hV h) ≤ MS from (by have o0 := hm1.2; have o1 := (show lez h (hX z4) (hV z4) from hc1).2; have o2 := hN; have o3 := hv; (try simp only [hX_sI, hX_sR, hX_sL, hX_sD, hX_sIa, hX_sRa, hV_sI, hV_sR, hV_sL, hV_sD, hV_sIa, hV_sRa, hX_new, hV_new] at o0 o1 o2 o3 ⊢); omega)) (fun En u q => by obtain ⟨z9, n9, q9, _⟩ := q; cases q9) ?_
    rintro _ _ ⟨z9, hz9, rfl, rfl⟩
    cases hz9
    refine p_pick [0, 1, 2, 3, 4] ?_
    exact wX11_setWord_b13 X hG hex hM hN (show uc + (hX z4 - hX h) + X0 = hX z4 from (by have o0 := (show lez h (hX z4) (hV z4) from hc1).1; have o1 := hu; (try simp only [hX_sI, hX_sR, hX_sL, hX_sD, hX_sIa, hX_sRa, hV_sI, hV_sR, hV_sL, hV_sD, hV_sIa, hV_sRa, hX_new, hV_new] at o0 o1 ⊢); omega)) (show us + (hV z4 - hV h) + V0 = hV z4 from (by have o0 := (show lez h (hX z4) (hV z4) from hc1).2; have o1 := hv; (try simp only [hX_sI, hX_sR, hX_sL, hX_sD, hX_sIa, hX_sRa, hV_sI, hV_sR, hV_sL, hV_sD, hV_sIa, hV_sRa, hX_new, hV_new] at o0 o1 ⊢); omega)) hf 
  · have hr9 := h2y5 z4 rfl
    subst hr9
    refine p_callSX (As := [va_rf _, _]) X hex ml_X11_135 (dcg dc_X11_setWord 6 rfl) rfl rfl  (wX11_demandPlace hG hy5) (by decide) (room4 (Nat.le_of_ble_eq_true rfl)) (show uc + (hX z4.2 + 1 - hX h) ≤ MC from (by have o0 := (show lez h (hX z4.2 + 1) (hV z4.2 + 6) from hc1).1; have o1 := (show MC + X0 = hX z4.2 + 1 from hM); have o2 := hu; (try simp only [hX_sI, hX_sR, hX_sL, hX_sD, hX_sIa, hX_sRa, hV_sI, hV_sR, hV_sL, hV_sD, hV_sIa, hV_sRa, hX_new, hV_new] at o0 o1 o2 ⊢); omega)) (show us + (hV z4.2 + 6 - hV h) ≤ MS from (by have o0 := (show lez h (hX z4.2 + 1) (hV z4.2 + 6) from hc1).2; have o1 := (show MS + V0 = hV z4.2 + 6 from hN); have o2 := hv; (try simp only [hX_sI, hX_sR, hX_sL, hX_sD, hX_sIa, hX_sRa, hV_sI, hV_sR, hV_sL, hV_sD, hV_sIa, hV_sRa, hX_new, hV_new] at o0 o1 o2 ⊢); omega)) (show uc + (hX z4.2 + 1 - hX h) ≤ MC from (by have o0 := (show lez h (hX z4.2 + 1) (hV z4.2 + 6) from hc1).1; have o1 := (show MC + X0 = hX z4.2 + 1 from hM); have o2 := hu; (try simp only [hX_sI, hX_sR, hX_sL, hX_sD, hX_sIa, hX_sRa, hV_sI, hV_sR, hV_sL, hV_sD, hV_sIa, hV_sRa, hX_new, hV_new] at o0 o1 o2 ⊢); omega)) (show us + (hV z4.2 + 6 - hV h) ≤ MS from (by have o0 := (show lez h (hX z4.2 + 1) (hV z4.2 + 6) from hc1).2; have o1 := (show MS + V0 = hV z4.2 + 6 from hN); have o2 := hv; (try simp only [hX_sI, hX_sR, hX_sL, hX_sD, hX_sIa, hX_sRa, hV_sI, hV_sR, hV_sL, hV_sD, hV_sIa, hV_sRa, hX_new, hV_new] at o0 o1 o2 ⊢); omega)) (fun En u q => by obtain ⟨z9, n9, q9, q8⟩ := q; cases q9; exact ⟨_, n9, rfl, q8⟩) ?_
    rintro _ _ ⟨z9, hz9, _⟩
    cases hz9
noncomputable def fX11_setWord_b0 (v0 : Nat) (v1 : Int32) (v2 : Int32) (v3 : Int32) (h : PH) : Option ((Int32 × PH) ⊕ (Nat × PH)) :=
  gd (hK h v0 = 11) (bx (fX11_demandText v0 v1 h) (fun z2 =>
  fX11_setWord_b5 v0 v1 v2 v3 z2.1 z2.2))
set_option maxRecDepth 100000 in
theorem mX11_setWord_b0 {v0 : Nat} {v1 : Int32} {v2 : Int32} {v3 : Int32} {h : PH} {r : ((Int32 × PH) ⊕ (Nat × PH))} (hf : fX11_setWord_b0 v0 v1 v2 v3 h = some r) : lez h (xT2 r) (vT2 r) := by
  unfold fX11_setWord_b0 at hf
  have hle := lez_rf h
  obtain ⟨hk1, hf⟩ := gd_some hf
  obtain ⟨y3, hy3, h1y3, h2y3⟩ := bx_some hf
  have hc1 := mX11_demandText hy3
  rcases y3 with z2 | z2
  · have hf := h1y3 z2 rfl
    have hle : lez h (hX z2.2) (hV z2.2) := lez_rt hc1 hle
    exact lez_rt (mX11_setWord_b5 hf) hle
  · have hr9 := h2y3 z2 rfl
    subst hr9
    exact lez_rt hc1 hle
set_option maxRecDepth 100000 in
theorem wX11_setWord_b0 {E : PE} {p : Program} {l : Launch} {e : Env} {s : State} {m : MethodId} {args : Array Value} {below : List Frame} {meth : Method} {c : Code} {X0 V0 MC MS uc us : Nat} (X : Cx E p l e (rmv 51 MC MS) s m args below meth c RX11 cX11_setWord 5 (some .int)) (hG : Gs E l) (hex : ∀ x ∈ c.exceptionTable.toList, False) {v0 : Nat} {v1 : Int32} {v2 : Int32} {v3 : Int32} {h : PH} {r : ((Int32 × PH) ⊕ (Nat × PH))} (hM : MC + X0 = (xT2 r)) (hN : MS + V0 = (vT2 r)) (hu : uc + X0 = hX h) (hv : us + V0 = hV h) (hf : fX11_setWord_b0 v0 v1 v2 v3 h = some r)  : PW E p l e (rmv 51 MC MS) s m args below meth c 5 uc us (vx_MQ below (QG E (fun v u => ∃ z, r = .inl z ∧ v = some (.int z.1) ∧ u = z.2)) (XG E (fun En u => ∃ (z : Nat × PH) (n : Nat), r = .inr z ∧ En = exn z.1 ∧ hX z.2 ≤ n ∧ u = hbump z.2 n)) args s MC MS (pA E)) h 0 [(0, some (.ref v0)), (1, some (.int v1)), (2, some (.int v2)), (3, some (.int v3))] [] := by
  have hm1 : lez h (xT2 r) (vT2 r) := mX11_setWord_b0 hf
  have hcm : uc ≤ MC := (by have o0 := hm1.1; have o1 := hM; have o2 := hu; (try simp only [hX_sI, hX_sR, hX_sL, hX_sD, hX_sIa, hX_sRa, hV_sI, hV_sR, hV_sL, hV_sD, hV_sIa, hV_sRa, hX_new, hV_new] at o0 o1 o2 ⊢); omega)
  have hsm : us ≤ MS := (by have o0 := hm1.2; have o1 := hN; have o2 := hv; (try simp only [hX_sI, hX_sR, hX_sL, hX_sD, hX_sIa, hX_sRa, hV_sI, hV_sR, hV_sL, hV_sD, hV_sIa, hV_sRa, hX_new, hV_new] at o0 o1 o2 ⊢); omega)
  clear hm1
  unfold fX11_setWord_b0 at hf
  refine p_aload_n X (dcg dc_X11_setWord 0 rfl) rfl rfl ?_
  refine p_iload_n X (dcg dc_X11_setWord 1 rfl) rfl rfl ?_
  obtain ⟨hk1, hf⟩ := gd_some hf
  obtain ⟨y3, hy3, h1y3, h2y3⟩ := bx_some hf
  have hc1 := mX11_demandText hy3
  rcases y3 with z2 | z2
  · have hf := h1y3 z2 rfl
    have hm1 : lez _ (xT2 r) (vT2 r) := mX11_setWord_b5 hf
    refine p_callVX (As := [_]) X hex ml_X11_119 (dcg dc_X11_setWord 2 rfl) rfl rfl hk1 (wX11_demandText hG hy3) (by decide) (room4 (Nat.le_of_ble_eq_true rfl)) (show uc + (hX z2.2 - hX h) ≤ MC from (by have o0 := hm1.1; have o1 := (show lez h (hX z2.2) (hV z2.2) from hc1).1; have o2 := hM; have o3 := hu; (try simp only [hX_sI, hX_sR, hX_sL, hX_sD, hX_sIa, hX_sRa, hV_sI, hV_sR, hV_sL, hV_sD, hV_sIa, hV_sRa, hX_new, hV_new] at o0 o1 o2 o3 ⊢); omega)) (show us + (hV z2.2 - hV h) ≤ MS from (by have o0 := hm1.2; have o1 := (show lez h (hX z2.2) (hV z2.2) from hc1).2; have o2 := hN; have o3 := hv; (try simp only [hX_sI, hX_sR, hX_sL, hX_sD, hX_sIa, hX_sRa, hV_sI, hV_sR, hV_sL, hV_sD, hV_sIa, hV_sRa, hX_new, hV_new] at o0 o1 o2 o3 ⊢); omega)) (show uc + (hX z2.2 - hX h) ≤ MC from (by have o0 := hm1.1; have o1 := (show lez h (hX z2.2) (hV z2.2) from hc1).1; have o2 := hM; have o3 := hu; (try simp only [hX_sI, hX_sR, hX_sL, hX_sD, hX_sIa, hX_sRa, hV_sI, hV_sR, hV_sL, hV_sD, hV_sIa, hV_sRa, hX_new, hV_new] at o0 o1 o2 o3 ⊢); omega)) (show us + (hV z2.2 - hV h) ≤ MS from (by have o0 := hm1.2; have o1 := (show lez h (hX z2.2) (hV z2.2) from hc1).2; have o2 := hN; have o3 := hv; (try simp only [hX_sI, hX_sR, hX_sL, hX_sD, hX_sIa, hX_sRa, hV_sI, hV_sR, hV_sL, hV_sD, hV_sIa, hV_sRa, hX_new, hV_new] at o0 o1 o2 o3 ⊢); omega)) (fun En u q => by obtain ⟨z9, n9, q9, _⟩ := q; cases q9) ?_
    rintro _ _ ⟨z9, hz9, rfl, rfl⟩
    cases hz9
    refine p_pick [0, 1, 2, 3] ?_
    exact wX11_setWord_b5 X hG hex hM hN (show uc + (hX z2.2 - hX h) + X0 = hX z2.2 from (by have o0 := (show lez h (hX z2.2) (hV z2.2) from hc1).1; have o1 := hu; (try simp only [hX_sI, hX_sR, hX_sL, hX_sD, hX_sIa, hX_sRa, hV_sI, hV_sR, hV_sL, hV_sD, hV_sIa, hV_sRa, hX_new, hV_new] at o0 o1 ⊢); omega)) (show us + (hV z2.2 - hV h) + V0 = hV z2.2 from (by have o0 := (show lez h (hX z2.2) (hV z2.2) from hc1).2; have o1 := hv; (try simp only [hX_sI, hX_sR, hX_sL, hX_sD, hX_sIa, hX_sRa, hV_sI, hV_sR, hV_sL, hV_sD, hV_sIa, hV_sRa, hX_new, hV_new] at o0 o1 ⊢); omega)) hf 
  · have hr9 := h2y3 z2 rfl
    subst hr9
    refine p_callVX (As := [_]) X hex ml_X11_119 (dcg dc_X11_setWord 2 rfl) rfl rfl hk1 (wX11_demandText hG hy3) (by decide) (room4 (Nat.le_of_ble_eq_true rfl)) (show uc + (hX z2.2 + 1 - hX h) ≤ MC from (by have o0 := (show lez h (hX z2.2 + 1) (hV z2.2 + 6) from hc1).1; have o1 := (show MC + X0 = hX z2.2 + 1 from hM); have o2 := hu; (try simp only [hX_sI, hX_sR, hX_sL, hX_sD, hX_sIa, hX_sRa, hV_sI, hV_sR, hV_sL, hV_sD, hV_sIa, hV_sRa, hX_new, hV_new] at o0 o1 o2 ⊢); omega)) (show us + (hV z2.2 + 6 - hV h) ≤ MS from (by have o0 := (show lez h (hX z2.2 + 1) (hV z2.2 + 6) from hc1).2; have o1 := (show MS + V0 = hV z2.2 + 6 from hN); have o2 := hv; (try simp only [hX_sI, hX_sR, hX_sL, hX_sD, hX_sIa, hX_sRa, hV_sI, hV_sR, hV_sL, hV_sD, hV_sIa, hV_sRa, hX_new, hV_new] at o0 o1 o2 ⊢); omega)) (show uc + (hX z2.2 + 1 - hX h) ≤ MC from (by have o0 := (show lez h (hX z2.2 + 1) (hV z2.2 + 6) from hc1).1; have o1 := (show MC + X0 = hX z2.2 + 1 from hM); have o2 := hu; (try simp only [hX_sI, hX_sR, hX_sL, hX_sD, hX_sIa, hX_sRa, hV_sI, hV_sR, hV_sL, hV_sD, hV_sIa, hV_sRa, hX_new, hV_new] at o0 o1 o2 ⊢); omega)) (show us + (hV z2.2 + 6 - hV h) ≤ MS from (by have o0 := (show lez h (hX z2.2 + 1) (hV z2.2 + 6) from hc1).2; have o1 := (show MS + V0 = hV z2.2 + 6 from hN); have o2 := hv; (try simp only [hX_sI, hX_sR, hX_sL, hX_sD, hX_sIa, hX_sRa, hV_sI, hV_sR, hV_sL, hV_sD, hV_sIa, hV_sRa, hX_new, hV_new] at o0 o1 o2 ⊢); omega)) (fun En u q => by obtain ⟨z9, n9, q9, q8⟩ := q; cases q9; exact ⟨_, n9, rfl, q8⟩) ?_
    rintro _ _ ⟨z9, hz9, _⟩
    cases hz9
noncomputable def fX11_setWord (v0 : Nat) (v1 : Int32) (v2 : Int32) (v3 : Int32) (h : PH) : Option ((Int32 × PH) ⊕ (Nat × PH)) :=
  fX11_setWord_b0 v0 v1 v2 v3 h
set_option maxRecDepth 100000 in
theorem mX11_setWord {v0 : Nat} {v1 : Int32} {v2 : Int32} {v3 : Int32} {h : PH} {r : ((Int32 × PH) ⊕ (Nat × PH))} (hf : fX11_setWord v0 v1 v2 v3 h = some r) : lez h (xT2 r) (vT2 r) := by
  unfold fX11_setWord at hf
  have hle := lez_rf h
  exact lez_rt (mX11_setWord_b0 hf) hle
set_option maxRecDepth 100000 in
theorem wX11_setWord {E : PE} {l : Launch} (hG : Gs E l) {v0 : Nat} {v1 : Int32} {v2 : Int32} {v3 : Int32} {h : PH} {r : ((Int32 × PH) ⊕ (Nat × PH))} (hf : fX11_setWord v0 v1 v2 v3 h = some r) : CtX E l 51 ((xT2 r) - hX h) ((vT2 r) - hV h) yX11_setWord cX11_setWord 5 (some .int) [.ref v0, .int v1, .int v2, .int v3] h (fun v u => ∃ z, r = .inl z ∧ v = some (.int z.1) ∧ u = z.2) (fun En u => ∃ (z : Nat × PH) (n : Nat), r = .inr z ∧ En = exn z.1 ∧ hX z.2 ≤ n ∧ u = hbump z.2 n) := by
  have hmm := mX11_setWord hf
  refine ctx_of hG (by decide) (Nat.le_of_ble_eq_true rfl) ?_
  intro p e s m args below meth c X hex
  show PW E p l e _ s m args below meth c _ 0 0 _ h 0 [(0, some (.ref v0)), (1, some (.int v1)), (2, some (.int v2)), (3, some (.int v3))] []
  unfold fX11_setWord at hf
  have hM := Nat.sub_add_cancel hmm.1
  have hN := Nat.sub_add_cancel hmm.2
  refine p_pick [0, 1, 2, 3] ?_
  exact wX11_setWord_b0 X hG hex hM hN (Nat.zero_add _) (Nat.zero_add _) hf
