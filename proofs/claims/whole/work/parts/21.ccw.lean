/-! methods of the program (by program: wip/whole/gen2.py) -/
theorem dc_Jxa1e45_init_da8c8 : decs cJxa1e45_init_da8c8 [(0, .aload_n 0, 1), (1, .invokespecial 1, 3), (4, .return_, 1)] = true := by decide +kernel
noncomputable def fJxa1e45_init_da8c8 (v0 : Nat) : Option Unit :=
  some (())
set_option maxRecDepth 100000 in
theorem wJxa1e45_init_da8c8 {E : PE} {l : Launch} (hG : Gs E l) {v0 : Nat} {h : PH} {r : Unit} (hf : fJxa1e45_init_da8c8 v0 = some r) : Ct E l 1 0 0 yJxa1e45_init_da8c8 cJxa1e45_init_da8c8 1 (none) [.ref v0] h (fun v u => v = none ∧ u = h) := by
  refine ct_of hG (by decide) (Nat.le_of_ble_eq_true rfl) ?_
  intro p e s m args below meth c X hnm
  show PW E p l e _ s m args below meth c _ 0 0 _ h 0 [(0, some (.ref v0))] []
  unfold fJxa1e45_init_da8c8 at hf
  refine p_aload_n X (dcg dc_Jxa1e45_init_da8c8 0 rfl) rfl rfl ?_
  refine p_objinit X tw_219 tw_146 tw_147 (dcg dc_Jxa1e45_init_da8c8 1 rfl) (Nat.le_of_ble_eq_true rfl) (Nat.le_trans (Nat.add_le_add_right (room4 (Nat.le_of_ble_eq_true rfl)) 12) (Nat.le_of_ble_eq_true rfl)) (fun ls hl => hl.1.trans X.2.2.1.symm) ?_
  have er := Option.some.inj hf
  subst er
  exact p_vret X rfl (dcg dc_Jxa1e45_init_da8c8 2 rfl) ⟨rfl, rfl⟩ (Nat.le_refl _) (Nat.le_refl _)
theorem dc_Jxc12de_init_da8c8 : decs cJxc12de_init_da8c8 [(0, .aload_n 0, 1), (1, .invokespecial 1, 3), (4, .aload_n 0, 1), (5, .iconst 0, 1), (6, .putfield 7, 3), (9, .return_, 1)] = true := by decide +kernel
noncomputable def fJxc12de_init_da8c8 (v0 : Nat) (h : PH) : Option PH :=
  bd (fJxa1e45_init_da8c8 v0) (fun z1 =>
  gd (hK h v0 = 14) (lt (sI h 14 v0 0 (0 : Int32)) (fun h3 =>
  some (h3))))
set_option maxRecDepth 100000 in
theorem mJxc12de_init_da8c8 {v0 : Nat} {h : PH} {r : PH} (hf : fJxc12de_init_da8c8 v0 h = some r) : eqz h (hX r) (hV r) := by
  unfold fJxc12de_init_da8c8 at hf
  have hle := eqz_rf h
  obtain ⟨z1, hz1, hf⟩ := bd_some hf
  obtain ⟨hk2, hf⟩ := gd_some hf
  obtain ⟨h3, rfl, hf⟩ := lt_some hf
  have ee := Option.some.inj hf; subst ee; exact hle
set_option maxRecDepth 100000 in
theorem wJxc12de_init_da8c8 {E : PE} {l : Launch} (hG : Gs E l) {v0 : Nat} {h : PH} {r : PH} (hf : fJxc12de_init_da8c8 v0 h = some r) : Ct E l 2 0 0 yJxc12de_init_da8c8 cJxc12de_init_da8c8 1 (none) [.ref v0] h (fun v u => v = none ∧ u = r) := by
  refine ct_of hG (by decide) (Nat.le_of_ble_eq_true rfl) ?_
  intro p e s m args below meth c X hnm
  show PW E p l e _ s m args below meth c _ 0 0 _ h 0 [(0, some (.ref v0))] []
  unfold fJxc12de_init_da8c8 at hf
  refine p_aload_n X (dcg dc_Jxc12de_init_da8c8 0 rfl) rfl rfl ?_
  obtain ⟨z1, hz1, hf⟩ := bd_some hf
  refine p_callI (As := []) (ret1 := none) X ml_Jxc12de_1 (dcg dc_Jxc12de_init_da8c8 1 rfl) rfl rfl  (wJxa1e45_init_da8c8 hG hz1) (by decide) (room4 (Nat.le_of_ble_eq_true rfl)) (Nat.le_refl _) (Nat.le_refl _) ?_
  rintro _ u9 ⟨rfl, e9⟩; have e9 := e9.symm; subst e9
  refine p_aload_n X (dcg dc_Jxc12de_init_da8c8 2 rfl) rfl rfl ?_
  refine p_iconst (v := 0) X (dcg dc_Jxc12de_init_da8c8 3 rfl) (by decide) ?_
  obtain ⟨hk2, hf⟩ := gd_some hf
  refine p_putI X fl_Jxc12de_7 rfl (by decide) (fun q hq => by cases hq; rfl) rfl rfl (dcg dc_Jxc12de_init_da8c8 4 rfl) hk2 ?_
  obtain ⟨h3, rfl, hf⟩ := lt_some hf
  have er := Option.some.inj hf
  subst er
  exact p_vret X rfl (dcg dc_Jxc12de_init_da8c8 5 rfl) ⟨rfl, rfl⟩ (Nat.le_refl _) (Nat.le_refl _)
theorem dc_Jx4a65c_init_da8c8 : decs cJx4a65c_init_da8c8 [(0, .aload_n 0, 1), (1, .invokespecial 1, 3), (4, .aload_n 0, 1), (5, .getstatic 39, 3), (8, .putfield 9, 3), (11, .return_, 1)] = true := by decide +kernel
noncomputable def fJx4a65c_init_da8c8 (v0 : Nat) (h : PH) : Option PH :=
  bd (fJxc12de_init_da8c8 v0 h) (fun z1 =>
  gd (hK z1 v0 = 14) (lt (sR z1 14 v0 1 (some 3)) (fun h3 =>
  some (h3))))
set_option maxRecDepth 100000 in
theorem mJx4a65c_init_da8c8 {v0 : Nat} {h : PH} {r : PH} (hf : fJx4a65c_init_da8c8 v0 h = some r) : eqz h (hX r) (hV r) := by
  unfold fJx4a65c_init_da8c8 at hf
  have hle := eqz_rf h
  obtain ⟨z1, hz1, hf⟩ := bd_some hf
  have hle := eqz_rt (mJxc12de_init_da8c8 hz1) hle
  obtain ⟨hk2, hf⟩ := gd_some hf
  obtain ⟨h3, rfl, hf⟩ := lt_some hf
  have ee := Option.some.inj hf; subst ee; exact hle
set_option maxRecDepth 100000 in
theorem wJx4a65c_init_da8c8 {E : PE} {l : Launch} (hG : Gs E l) {v0 : Nat} {h : PH} {r : PH} (hf : fJx4a65c_init_da8c8 v0 h = some r) : Ct E l 3 0 0 yJx4a65c_init_da8c8 cJx4a65c_init_da8c8 1 (none) [.ref v0] h (fun v u => v = none ∧ u = r) := by
  refine ct_of hG (by decide) (Nat.le_of_ble_eq_true rfl) ?_
  intro p e s m args below meth c X hnm
  show PW E p l e _ s m args below meth c _ 0 0 _ h 0 [(0, some (.ref v0))] []
  unfold fJx4a65c_init_da8c8 at hf
  refine p_aload_n X (dcg dc_Jx4a65c_init_da8c8 0 rfl) rfl rfl ?_
  obtain ⟨z1, hz1, hf⟩ := bd_some hf
  refine p_callI (As := []) (ret1 := none) X ml_Jx4a65c_1 (dcg dc_Jx4a65c_init_da8c8 1 rfl) rfl rfl  (wJxc12de_init_da8c8 hG hz1) (by decide) (room4 (Nat.le_of_ble_eq_true rfl)) (Nat.le_refl _) (Nat.le_refl _) ?_
  rintro _ u9 ⟨rfl, e9⟩; have e9 := e9.symm; subst e9
  refine p_aload_n X (dcg dc_Jx4a65c_init_da8c8 2 rfl) rfl rfl ?_
  refine p_gets (v := .ref 3) X (gz_emp hG) tw_220 (dcg dc_Jx4a65c_init_da8c8 3 rfl) ?_
  obtain ⟨hk2, hf⟩ := gd_some hf
  refine p_putR (v := some _) X fl_Jx4a65c_9 rfl (by decide) (fun q hq => by cases hq; rfl) (nar_rf _ (by decide)) (fit_rf _ (by decide)) (dcg dc_Jx4a65c_init_da8c8 4 rfl) hk2 ?_
  obtain ⟨h3, rfl, hf⟩ := lt_some hf
  have er := Option.some.inj hf
  subst er
  exact p_vret X rfl (dcg dc_Jx4a65c_init_da8c8 5 rfl) ⟨rfl, rfl⟩ (Nat.le_refl _) (Nat.le_refl _)
theorem dc_X3_init : decs cX3_init [(0, .aload_n 0, 1), (1, .invokespecial 3, 3), (4, .aload_n 0, 1), (5, .new 9, 3), (8, .dup, 1), (9, .invokespecial 11, 3), (12, .putfield 12, 3), (15, .aload_n 0, 1), (16, .bipush 101, 2), (18, .newarray .int, 2), (20, .putfield 18, 3), (23, .return_, 1)] = true := by decide +kernel
noncomputable def fX3_init_b20 (t0 : Nat) (t1 : Nat) (h : PH) : Option PH :=
  gd (hK h t0 = 3) (lt (sR h 3 t0 1 (some t1)) (fun h6 =>
  some (h6)))
set_option maxRecDepth 100000 in
theorem mX3_init_b20 {t0 : Nat} {t1 : Nat} {h : PH} {r : PH} (hf : fX3_init_b20 t0 t1 h = some r) : lez h (hX r) (hV r) := by
  unfold fX3_init_b20 at hf
  have hle := lez_rf h
  obtain ⟨hk5, hf⟩ := gd_some hf
  obtain ⟨h6, rfl, hf⟩ := lt_some hf
  have ee := Option.some.inj hf; subst ee; exact hle
set_option maxRecDepth 100000 in
theorem wX3_init_b20 {E : PE} {p : Program} {l : Launch} {e : Env} {s : State} {m : MethodId} {args : Array Value} {below : List Frame} {meth : Method} {c : Code} {X0 V0 MC MS uc us : Nat} (X : Cx E p l e (rmv 4 MC MS) s m args below meth c RX3 cX3_init 1 (none)) (hG : Gs E l) (hnm : meth.name = yX3_init.name) {t0 : Nat} {t1 : Nat} {h : PH} {r : PH} (hM : MC + X0 = (hX r)) (hN : MS + V0 = (hV r)) (hu : uc + X0 = hX h) (hv : us + V0 = hV h) (hf : fX3_init_b20 t0 t1 h = some r)  : PW E p l e (rmv 4 MC MS) s m args below meth c 1 uc us (MQ below (QG E (fun v u => v = none ∧ u = r)) args s MC MS (pA E)) h 20 [] [.ref t1, .ref t0] := by
  have hm1 : lez h (hX r) (hV r) := mX3_init_b20 hf
  have hcm : uc ≤ MC := (by have o0 := hm1.1; have o1 := hM; have o2 := hu; (try simp only [hX_sI, hX_sR, hX_sL, hX_sD, hX_sIa, hX_sRa, hV_sI, hV_sR, hV_sL, hV_sD, hV_sIa, hV_sRa, hX_new, hV_new] at o0 o1 o2 ⊢); omega)
  have hsm : us ≤ MS := (by have o0 := hm1.2; have o1 := hN; have o2 := hv; (try simp only [hX_sI, hX_sR, hX_sL, hX_sD, hX_sIa, hX_sRa, hV_sI, hV_sR, hV_sL, hV_sD, hV_sIa, hV_sRa, hX_new, hV_new] at o0 o1 o2 ⊢); omega)
  clear hm1
  unfold fX3_init_b20 at hf
  obtain ⟨hk5, hf⟩ := gd_some hf
  refine p_putRf (v := some _) X fl_X3_18 rfl (by decide) (fun q hq => by cases hq; exact ⟨rfl, rfl⟩) hnm (nar_rf _ (by decide)) (fit_rf _ (by decide)) (dcg dc_X3_init 10 rfl) hk5 ?_
  obtain ⟨h6, rfl, hf⟩ := lt_some hf
  have er := Option.some.inj hf
  subst er
  exact p_vret X rfl (dcg dc_X3_init 11 rfl) ⟨rfl, rfl⟩ hcm hsm
noncomputable def fX3_init_b8 (v0 : Nat) (t0 : Nat) (t1 : Nat) (h : PH) : Option PH :=
  bd (fJx4a65c_init_da8c8 t1 h) (fun z1 =>
  gd (hK z1 t0 = 3) (lt (sR z1 3 t0 0 (some t1)) (fun h3 =>
  gd (¬ (101 : Int32) < 0 ∧ (Int32.toNatClampNeg (101 : Int32)) ≤ 1000000) (fX3_init_b20 v0 (hX h3) (hnew h3 20 (Int32.toNatClampNeg (101 : Int32)))))))
set_option maxRecDepth 100000 in
theorem mX3_init_b8 {v0 : Nat} {t0 : Nat} {t1 : Nat} {h : PH} {r : PH} (hf : fX3_init_b8 v0 t0 t1 h = some r) : lez h (hX r) (hV r) := by
  unfold fX3_init_b8 at hf
  have hle := lez_rf h
  obtain ⟨z1, hz1, hf⟩ := bd_some hf
  have hle := lez_rt (lez_eq (mJx4a65c_init_da8c8 hz1)) hle
  obtain ⟨hk2, hf⟩ := gd_some hf
  obtain ⟨h3, rfl, hf⟩ := lt_some hf
  obtain ⟨hg4, hf⟩ := gd_some hf
  have hle := lez_nw (c := 20) (n := (Int32.toNatClampNeg (101 : Int32))) hle
  exact lez_rt (mX3_init_b20 hf) hle
set_option maxRecDepth 100000 in
theorem wX3_init_b8 {E : PE} {p : Program} {l : Launch} {e : Env} {s : State} {m : MethodId} {args : Array Value} {below : List Frame} {meth : Method} {c : Code} {X0 V0 MC MS uc us : Nat} (X : Cx E p l e (rmv 4 MC MS) s m args below meth c RX3 cX3_init 1 (none)) (hG : Gs E l) (hnm : meth.name = yX3_init.name) {v0 : Nat} {t0 : Nat} {t1 : Nat} {h : PH} {r : PH} (hM : MC + X0 = (hX r)) (hN : MS + V0 = (hV r)) (hu : uc + X0 = hX h) (hv : us + V0 = hV h) (hf : fX3_init_b8 v0 t0 t1 h = some r)  : PW E p l e (rmv 4 MC MS) s m args below meth c 1 uc us (MQ below (QG E (fun v u => v = none ∧ u = r)) args s MC MS (pA E)) h 8 [(0, some (.ref v0))] [.ref t1, .ref t0] := by
  have hm1 : lez h (hX r) (hV r) := mX3_init_b8 hf
  have hcm : uc ≤ MC := (by have o0 := hm1.1; have o1 := hM; have o2 := hu; (try simp only [hX_sI, hX_sR, hX_sL, hX_sD, hX_sIa, hX_sRa, hV_sI, hV_sR, hV_sL, hV_sD, hV_sIa, hV_sRa, hX_new, hV_new] at o0 o1 o2 ⊢); omega)
  have hsm : us ≤ MS := (by have o0 := hm1.2; have o1 := hN; have o2 := hv; (try simp only [hX_sI, hX_sR, hX_sL, hX_sD, hX_sIa, hX_sRa, hV_sI, hV_sR, hV_sL, hV_sD, hV_sIa, hV_sRa, hX_new, hV_new] at o0 o1 o2 ⊢); omega)
  clear hm1
  unfold fX3_init_b8 at hf
  refine p_dup X (dcg dc_X3_init 4 rfl) rfl ?_
  obtain ⟨z1, hz1, hf⟩ := bd_some hf
  refine p_callI (As := []) (ret1 := none) X ml_X3_11 (dcg dc_X3_init 5 rfl) rfl rfl  (wJx4a65c_init_da8c8 hG hz1) (by decide) (room4 (Nat.le_of_ble_eq_true rfl)) hcm hsm ?_
  rintro _ u9 ⟨rfl, e9⟩; have e9 := e9.symm; subst e9
  have hu := hu.trans (mJx4a65c_init_da8c8 hz1).1
  have hv := hv.trans (mJx4a65c_init_da8c8 hz1).2
  obtain ⟨hk2, hf⟩ := gd_some hf
  refine p_putRf (v := some _) X fl_X3_12 rfl (by decide) (fun q hq => by cases hq; exact ⟨rfl, rfl⟩) hnm (nar_rf _ (by decide)) (fit_rf _ (by decide)) (dcg dc_X3_init 6 rfl) hk2 ?_
  obtain ⟨h3, rfl, hf⟩ := lt_some hf
  refine p_aload_n X (dcg dc_X3_init 7 rfl) rfl rfl ?_
  refine p_bipush (v := 101) X (dcg dc_X3_init 8 rfl) (by decide) ?_
  obtain ⟨hg4, hf⟩ := gd_some hf
  have hm1 : lez _ (hX r) (hV r) := mX3_init_b20 hf
  have hm2 := lez_new hm1
  refine p_newa20 X tw_168 (dcg dc_X3_init 9 rfl) hg4.1 hg4.2 (show uc + 1 ≤ MC from (by have o0 := hm2.1; have o1 := hM; have o2 := hu; (try simp only [hX_sI, hX_sR, hX_sL, hX_sD, hX_sIa, hX_sRa, hV_sI, hV_sR, hV_sL, hV_sD, hV_sIa, hV_sRa, hX_new, hV_new] at o0 o1 o2 ⊢); omega)) (show us + (Int32.toNatClampNeg (101 : Int32)) ≤ MS from (by have o0 := hm2.2; have o1 := hN; have o2 := hv; (try simp only [hX_sI, hX_sR, hX_sL, hX_sD, hX_sIa, hX_sRa, hV_sI, hV_sR, hV_sL, hV_sD, hV_sIa, hV_sRa, hX_new, hV_new] at o0 o1 o2 ⊢); omega)) ?_
  refine p_pick [] ?_
  exact wX3_init_b20 X hG hnm hM hN (by have o0 := hu; (try simp only [hX_sI, hX_sR, hX_sL, hX_sD, hX_sIa, hX_sRa, hV_sI, hV_sR, hV_sL, hV_sD, hV_sIa, hV_sRa, hX_new, hV_new] at o0 ⊢); omega) (by have o0 := hv; (try simp only [hX_sI, hX_sR, hX_sL, hX_sD, hX_sIa, hX_sRa, hV_sI, hV_sR, hV_sL, hV_sD, hV_sIa, hV_sRa, hX_new, hV_new] at o0 ⊢); omega) hf 
noncomputable def fX3_init_b0 (v0 : Nat) (h : PH) : Option PH :=
  fX3_init_b8 v0 v0 (hX h) (hnew h 14 3)
set_option maxRecDepth 100000 in
theorem mX3_init_b0 {v0 : Nat} {h : PH} {r : PH} (hf : fX3_init_b0 v0 h = some r) : lez h (hX r) (hV r) := by
  unfold fX3_init_b0 at hf
  have hle := lez_rf h
  have hle := lez_nw (c := 14) (n := 3) hle
  exact lez_rt (mX3_init_b8 hf) hle
set_option maxRecDepth 100000 in
theorem wX3_init_b0 {E : PE} {p : Program} {l : Launch} {e : Env} {s : State} {m : MethodId} {args : Array Value} {below : List Frame} {meth : Method} {c : Code} {X0 V0 MC MS uc us : Nat} (X : Cx E p l e (rmv 4 MC MS) s m args below meth c RX3 cX3_init 1 (none)) (hG : Gs E l) (hnm : meth.name = yX3_init.name) {v0 : Nat} {h : PH} {r : PH} (hM : MC + X0 = (hX r)) (hN : MS + V0 = (hV r)) (hu : uc + X0 = hX h) (hv : us + V0 = hV h) (hf : fX3_init_b0 v0 h = some r)  : PW E p l e (rmv 4 MC MS) s m args below meth c 1 uc us (MQ below (QG E (fun v u => v = none ∧ u = r)) args s MC MS (pA E)) h 0 [(0, some (.ref v0))] [] := by
  have hm1 : lez h (hX r) (hV r) := mX3_init_b0 hf
  have hcm : uc ≤ MC := (by have o0 := hm1.1; have o1 := hM; have o2 := hu; (try simp only [hX_sI, hX_sR, hX_sL, hX_sD, hX_sIa, hX_sRa, hV_sI, hV_sR, hV_sL, hV_sD, hV_sIa, hV_sRa, hX_new, hV_new] at o0 o1 o2 ⊢); omega)
  have hsm : us ≤ MS := (by have o0 := hm1.2; have o1 := hN; have o2 := hv; (try simp only [hX_sI, hX_sR, hX_sL, hX_sD, hX_sIa, hX_sRa, hV_sI, hV_sR, hV_sL, hV_sD, hV_sIa, hV_sRa, hX_new, hV_new] at o0 o1 o2 ⊢); omega)
  clear hm1
  unfold fX3_init_b0 at hf
  refine p_aload_n X (dcg dc_X3_init 0 rfl) rfl rfl ?_
  refine p_objinit X tw_207 tw_146 tw_147 (dcg dc_X3_init 1 rfl) (Nat.le_of_ble_eq_true rfl) (Nat.le_trans (Nat.add_le_add_right (room4 (Nat.le_of_ble_eq_true rfl)) 12) (Nat.le_of_ble_eq_true rfl)) (fun ls hl => hl.1.trans X.2.2.1.symm) ?_
  refine p_aload_n X (dcg dc_X3_init 2 rfl) rfl rfl ?_
  have hm1 : lez _ (hX r) (hV r) := mX3_init_b8 hf
  have hm2 := lez_new hm1
  refine p_newN (ci := 14) (q := (RJx4a65c, TJx4a65c, 3)) (n := 3) X rfl rfl (by decide) tw_208 tw_209 tw_106 (dcg dc_X3_init 3 rfl) (show uc + 1 ≤ MC from (by have o0 := hm2.1; have o1 := hM; have o2 := hu; (try simp only [hX_sI, hX_sR, hX_sL, hX_sD, hX_sIa, hX_sRa, hV_sI, hV_sR, hV_sL, hV_sD, hV_sIa, hV_sRa, hX_new, hV_new] at o0 o1 o2 ⊢); omega)) (show us + 3 ≤ MS from (by have o0 := hm2.2; have o1 := hN; have o2 := hv; (try simp only [hX_sI, hX_sR, hX_sL, hX_sD, hX_sIa, hX_sRa, hV_sI, hV_sR, hV_sL, hV_sD, hV_sIa, hV_sRa, hX_new, hV_new] at o0 o1 o2 ⊢); omega)) ?_
  refine p_pick [0] ?_
  exact wX3_init_b8 X hG hnm hM hN (by have o0 := hu; (try simp only [hX_sI, hX_sR, hX_sL, hX_sD, hX_sIa, hX_sRa, hV_sI, hV_sR, hV_sL, hV_sD, hV_sIa, hV_sRa, hX_new, hV_new] at o0 ⊢); omega) (by have o0 := hv; (try simp only [hX_sI, hX_sR, hX_sL, hX_sD, hX_sIa, hX_sRa, hV_sI, hV_sR, hV_sL, hV_sD, hV_sIa, hV_sRa, hX_new, hV_new] at o0 ⊢); omega) hf 
noncomputable def fX3_init (v0 : Nat) (h : PH) : Option PH :=
  fX3_init_b0 v0 h
set_option maxRecDepth 100000 in
theorem mX3_init {v0 : Nat} {h : PH} {r : PH} (hf : fX3_init v0 h = some r) : lez h (hX r) (hV r) := by
  unfold fX3_init at hf
  have hle := lez_rf h
  exact lez_rt (mX3_init_b0 hf) hle
set_option maxRecDepth 100000 in
theorem wX3_init {E : PE} {l : Launch} (hG : Gs E l) {v0 : Nat} {h : PH} {r : PH} (hf : fX3_init v0 h = some r) : Ct E l 4 ((hX r) - hX h) ((hV r) - hV h) yX3_init cX3_init 1 (none) [.ref v0] h (fun v u => v = none ∧ u = r) := by
  have hmm := mX3_init hf
  refine ct_of hG (by decide) (Nat.le_of_ble_eq_true rfl) ?_
  intro p e s m args below meth c X hnm
  show PW E p l e _ s m args below meth c _ 0 0 _ h 0 [(0, some (.ref v0))] []
  unfold fX3_init at hf
  have hM := Nat.sub_add_cancel hmm.1
  have hN := Nat.sub_add_cancel hmm.2
  refine p_pick [0] ?_
  exact wX3_init_b0 X hG hnm hM hN (Nat.zero_add _) (Nat.zero_add _) hf
theorem dc_X3_size : decs cX3_size [(0, .aload_n 0, 1), (1, .getfield 12, 3), (4, .invokevirtual 22, 3), (7, .ireturn, 1)] = true := by decide +kernel
noncomputable def fX3_size (v0 : Nat) (h : PH) : Option Int32 :=
  gd (hK h v0 = 3) (gs (hR h 3 v0 0) (fun a2 =>
  gd (hK h a2 = 14) (bd (fJx4a65c_size_8abf5 a2 h) (fun z5 =>
  some (z5)))))
set_option maxRecDepth 100000 in
theorem wX3_size {E : PE} {l : Launch} (hG : Gs E l) {v0 : Nat} {h : PH} {r : Int32} (hf : fX3_size v0 h = some r) : Ct E l 1 0 0 yX3_size cX3_size 1 (some .int) [.ref v0] h (fun v u => v = some (.int r) ∧ u = h) := by
  refine ct_of hG (by decide) (Nat.le_of_ble_eq_true rfl) ?_
  intro p e s m args below meth c X hnm
  show PW E p l e _ s m args below meth c _ 0 0 _ h 0 [(0, some (.ref v0))] []
  unfold fX3_size at hf
  refine p_aload_n X (dcg dc_X3_size 0 rfl) rfl rfl ?_
  obtain ⟨hk1, hf⟩ := gd_some hf
  refine p_getR X fl_X3_12 rfl (by decide) (dcg dc_X3_size 1 rfl) hk1 ?_
  obtain ⟨a2, e3, hf⟩ := gs_some hf
  first | subst e3 | (try rw [e3])
  obtain ⟨hk4, hf⟩ := gd_some hf
  obtain ⟨z5, hz5, hf⟩ := bd_some hf
  refine p_callV (As := []) X ml_X3_22 (dcg dc_X3_size 2 rfl) rfl rfl hk4 (wJx4a65c_size_8abf5 hG hz5) (by decide) (room4 (Nat.le_of_ble_eq_true rfl)) (Nat.le_refl _) (Nat.le_refl _) ?_
  rintro _ u9 ⟨rfl, e9⟩; have e9 := e9.symm; subst e9
  have er := Option.some.inj hf
  subst er
  exact p_iret X rfl (dcg dc_X3_size 3 rfl) ⟨rfl, rfl⟩ (Nat.le_refl _) (Nat.le_refl _)
theorem dc_X3_numberAt : decs cX3_numberAt [(0, .iload_n 1, 1), (1, .ifCond .lt 14, 3), (4, .iload_n 1, 1), (5, .aload_n 0, 1), (6, .getfield 12, 3), (9, .invokevirtual 22, 3), (12, .if_icmp .lt 7, 3), (15, .iconst (-1), 1), (16, .goto 17, 3), (19, .aload_n 0, 1), (20, .getfield 12, 3), (23, .iload_n 1, 1), (24, .invokevirtual 26, 3), (27, .checkcast 30, 3), (30, .getfield 32, 3), (33, .ireturn, 1)] = true := by decide +kernel
noncomputable def fX3_numberAt_b33 (t0 : Int32) (h : PH) : Option Int32 :=
  some (t0)
set_option maxRecDepth 100000 in
theorem wX3_numberAt_b33 {E : PE} {p : Program} {l : Launch} {e : Env} {s : State} {m : MethodId} {args : Array Value} {below : List Frame} {meth : Method} {c : Code} (X : Cx E p l e (rmv 3 0 0) s m args below meth c RX3 cX3_numberAt 2 (some .int)) (hG : Gs E l) (hnm : meth.name = yX3_numberAt.name) {t0 : Int32} {h : PH} {r : Int32} (hf : fX3_numberAt_b33 t0 h = some r)  : PW E p l e (rmv 3 0 0) s m args below meth c 2 0 0 (MQ below (QG E (fun v u => v = some (.int r) ∧ u = h)) args s 0 0 (pA E)) h 33 [] [.int t0] := by
  unfold fX3_numberAt_b33 at hf
  have er := Option.some.inj hf
  subst er
  exact p_iret X rfl (dcg dc_X3_numberAt 15 rfl) ⟨rfl, rfl⟩ (Nat.le_refl _) (Nat.le_refl _)
noncomputable def fX3_numberAt_b15  (h : PH) : Option Int32 :=
  fX3_numberAt_b33 (-1 : Int32) h
set_option maxRecDepth 100000 in
theorem wX3_numberAt_b15 {E : PE} {p : Program} {l : Launch} {e : Env} {s : State} {m : MethodId} {args : Array Value} {below : List Frame} {meth : Method} {c : Code} (X : Cx E p l e (rmv 3 0 0) s m args below meth c RX3 cX3_numberAt 2 (some .int)) (hG : Gs E l) (hnm : meth.name = yX3_numberAt.name)  {h : PH} {r : Int32} (hf : fX3_numberAt_b15  h = some r)  : PW E p l e (rmv 3 0 0) s m args below meth c 2 0 0 (MQ below (QG E (fun v u => v = some (.int r) ∧ u = h)) args s 0 0 (pA E)) h 15 [] [] := by
  unfold fX3_numberAt_b15 at hf
  refine p_iconst (v := -1) X (dcg dc_X3_numberAt 7 rfl) (by decide) ?_
  refine p_goto (tgt := 33) X (dcg dc_X3_numberAt 8 rfl) (by decide) ?_
  refine p_pick [] ?_
  exact wX3_numberAt_b33 X hG hnm hf 
noncomputable def fX3_numberAt (v0 : Nat) (v1 : Int32) (h : PH) : Option Int32 :=
  if (v1 < 0) then (fX3_numberAt_b15  h) else
  gd (hK h v0 = 3) (gs (hR h 3 v0 0) (fun a2 =>
  gd (hK h a2 = 14) (bd (fJx4a65c_size_8abf5 a2 h) (fun z5 =>
  if (v1 < z5) then (gs (hR h 3 v0 0) (fun a6 =>
  gd (hK h a6 = 14) (bd (fJx4a65c_get_915e3 a6 v1 h) (fun z9 =>
  gs z9 (fun a10 =>
  gd (hK h a10 = 10) (fX3_numberAt_b33 (hI h 10 a10 0) h)))))) else
  fX3_numberAt_b15  h))))
set_option maxRecDepth 100000 in
theorem wX3_numberAt {E : PE} {l : Launch} (hG : Gs E l) {v0 : Nat} {v1 : Int32} {h : PH} {r : Int32} (hf : fX3_numberAt v0 v1 h = some r) : Ct E l 3 0 0 yX3_numberAt cX3_numberAt 2 (some .int) [.ref v0, .int v1] h (fun v u => v = some (.int r) ∧ u = h) := by
  refine ct_of hG (by decide) (Nat.le_of_ble_eq_true rfl) ?_
  intro p e s m args below meth c X hnm
  show PW E p l e _ s m args below meth c _ 0 0 _ h 0 [(0, some (.ref v0)), (1, some (.int v1))] []
  unfold fX3_numberAt at hf
  refine p_iload_n X (dcg dc_X3_numberAt 0 rfl) rfl rfl ?_
  refine p_if_lt (tgt := 15) X (dcg dc_X3_numberAt 1 rfl) (by decide) (fun q => ?_) (fun q => ?_)
  · have hf := if_t q hf
    refine p_pick [] ?_
    exact wX3_numberAt_b15 X hG hnm hf 
  · have hf := if_f q hf
    refine p_iload_n X (dcg dc_X3_numberAt 2 rfl) rfl rfl ?_
    refine p_aload_n X (dcg dc_X3_numberAt 3 rfl) rfl rfl ?_
    obtain ⟨hk1, hf⟩ := gd_some hf
    refine p_getR X fl_X3_12 rfl (by decide) (dcg dc_X3_numberAt 4 rfl) hk1 ?_
    obtain ⟨a2, e3, hf⟩ := gs_some hf
    first | subst e3 | (try rw [e3])
    obtain ⟨hk4, hf⟩ := gd_some hf
    obtain ⟨z5, hz5, hf⟩ := bd_some hf
    refine p_callV (As := []) X ml_X3_22 (dcg dc_X3_numberAt 5 rfl) rfl rfl hk4 (wJx4a65c_size_8abf5 hG hz5) (by decide) (room4 (Nat.le_of_ble_eq_true rfl)) (Nat.le_refl _) (Nat.le_refl _) ?_
    rintro _ u9 ⟨rfl, e9⟩; have e9 := e9.symm; subst e9
    refine p_icmp_lt (tgt := 19) X (dcg dc_X3_numberAt 6 rfl) (by decide) (fun q => ?_) (fun q => ?_)
    · have hf := if_t q hf
      refine p_aload_n X (dcg dc_X3_numberAt 9 rfl) rfl rfl ?_
      refine p_getR X fl_X3_12 rfl (by decide) (dcg dc_X3_numberAt 10 rfl) hk1 ?_
      refine p_iload_n X (dcg dc_X3_numberAt 11 rfl) rfl rfl ?_
      obtain ⟨a6, e7, hf⟩ := gs_some hf
      first | subst e7 | (try rw [e7])
      obtain ⟨hk8, hf⟩ := gd_some hf
      obtain ⟨z9, hz9, hf⟩ := bd_some hf
      refine p_callV (As := [_]) X ml_X3_26 (dcg dc_X3_numberAt 12 rfl) rfl rfl hk8 (wJx4a65c_get_915e3 hG hz9) (by decide) (room4 (Nat.le_of_ble_eq_true rfl)) (Nat.le_refl _) (Nat.le_refl _) ?_
      rintro _ u9 ⟨rfl, e9⟩; have e9 := e9.symm; subst e9
      obtain ⟨a10, e11, hf⟩ := gs_some hf
      first | subst e11 | (try rw [e11])
      obtain ⟨hk12, hf⟩ := gd_some hf
      refine p_cast (q := (RX10, TX10, 3)) X rfl tw_505 (dcg dc_X3_numberAt 13 rfl) hk12 ?_
      refine p_getIn X fl_X3_32 rfl (by decide) (dcg dc_X3_numberAt 14 rfl) hk12 ?_
      refine p_pick [] ?_
      exact wX3_numberAt_b33 X hG hnm hf 
    · have hf := if_f q hf
      refine p_pick [] ?_
      exact wX3_numberAt_b15 X hG hnm hf 
theorem dc_X3_countAhead : decs cX3_countAhead [(0, .iconst 0, 1), (1, .istore_n 2, 1), (2, .aload_n 0, 1), (3, .getfield 12, 3), (6, .invokevirtual 22, 3), (9, .istore_n 3, 1), (10, .iconst 0, 1), (11, .istore 4, 2), (13, .iload 4, 2), (15, .bipush 32, 2), (17, .if_icmp .ge 51, 3), (20, .iload_n 2, 1), (21, .iload_n 3, 1), (22, .if_icmp .ge 46, 3), (25, .iload_n 2, 1), (26, .iload_n 3, 1), (27, .iadd, 1), (28, .iconst 2, 1), (29, .idiv, 1), (30, .istore 5, 2), (32, .aload_n 0, 1), (33, .getfield 12, 3), (36, .iload 5, 2), (38, .invokevirtual 26, 3), (41, .checkcast 30, 3), (44, .getfield 36, 3), (47, .iload_n 1, 1), (48, .if_icmp .ge 11, 3), (51, .iload 5, 2), (53, .iconst 1, 1), (54, .iadd, 1), (55, .istore_n 2, 1), (56, .goto 6, 3), (59, .iload 5, 2), (61, .istore_n 3, 1), (62, .iinc 4 1, 3), (65, .goto (-52), 3), (68, .iload_n 2, 1), (69, .ireturn, 1)] = true := by decide +kernel
noncomputable def fX3_countAhead_b68 (v2 : Int32) (h : PH) : Option Int32 :=
  some (v2)
set_option maxRecDepth 100000 in
theorem wX3_countAhead_b68 {E : PE} {p : Program} {l : Launch} {e : Env} {s : State} {m : MethodId} {args : Array Value} {below : List Frame} {meth : Method} {c : Code} (X : Cx E p l e (rmv 3 0 0) s m args below meth c RX3 cX3_countAhead 6 (some .int)) (hG : Gs E l) (hnm : meth.name = yX3_countAhead.name) {v2 : Int32} {h : PH} {r : Int32} (hf : fX3_countAhead_b68 v2 h = some r)  : PW E p l e (rmv 3 0 0) s m args below meth c 6 0 0 (MQ below (QG E (fun v u => v = some (.int r) ∧ u = h)) args s 0 0 (pA E)) h 68 [(2, some (.int v2))] [] := by
  unfold fX3_countAhead_b68 at hf
  refine p_iload_n X (dcg dc_X3_countAhead 37 rfl) rfl rfl ?_
  have er := Option.some.inj hf
  subst er
  exact p_iret X rfl (dcg dc_X3_countAhead 38 rfl) ⟨rfl, rfl⟩ (Nat.le_refl _) (Nat.le_refl _)
noncomputable def fX3_countAhead_b62 (v0 : Nat) (v1 : Int32) (v2 : Int32) (v3 : Int32) (v4 : Int32) (h : PH) : Option ((Int32 × Int32 × Int32) ⊕ Int32) :=
  some (.inl (v2, v3, (v4 + 1)))
set_option maxRecDepth 100000 in
theorem wX3_countAhead_b62 {E : PE} {p : Program} {l : Launch} {e : Env} {s : State} {m : MethodId} {args : Array Value} {below : List Frame} {meth : Method} {c : Code} (X : Cx E p l e (rmv 3 0 0) s m args below meth c RX3 cX3_countAhead 6 (some .int)) (hG : Gs E l) (hnm : meth.name = yX3_countAhead.name) {v0 : Nat} {v1 : Int32} {v2 : Int32} {v3 : Int32} {v4 : Int32} {h : PH} {r : Int32} {x : ((Int32 × Int32 × Int32) ⊕ Int32)} (hf : fX3_countAhead_b62 v0 v1 v2 v3 v4 h = some x) (k0 : ∀ z : (Int32 × Int32 × Int32), x = .inl z → PW E p l e (rmv 3 0 0) s m args below meth c 6 0 0 (MQ below (QG E (fun v u => v = some (.int r) ∧ u = h)) args s 0 0 (pA E)) h 13 [(0, some (.ref v0)), (1, some (.int v1)), (2, some (.int (z.1))), (3, some (.int (z.2.1))), (4, some (.int (z.2.2)))] []) (kf : ∀ z : Int32, x = .inr z → z = r) : PW E p l e (rmv 3 0 0) s m args below meth c 6 0 0 (MQ below (QG E (fun v u => v = some (.int r) ∧ u = h)) args s 0 0 (pA E)) h 62 [(0, some (.ref v0)), (1, some (.int v1)), (2, some (.int v2)), (3, some (.int v3)), (4, some (.int v4))] [] := by
  unfold fX3_countAhead_b62 at hf
  refine p_iinc (v := 1) X (dcg dc_X3_countAhead 35 rfl) rfl (by decide) (by decide) rfl ?_
  refine p_goto (tgt := 13) X (dcg dc_X3_countAhead 36 rfl) (by decide) ?_
  refine p_pick [0, 1, 2, 3, 4] ?_
  exact k0 _ (Option.some.inj hf).symm
noncomputable def fX3_countAhead_c13 (v0 : Nat) (v1 : Int32) (v2 : Int32) (v3 : Int32) (v4 : Int32) (h : PH) : Option ((Int32 × Int32 × Int32) ⊕ Int32) :=
  if ((32 : Int32) ≤ v4) then (mr (fX3_countAhead_b68 v2 h)) else
  if (v3 ≤ v2) then (mr (fX3_countAhead_b68 v2 h)) else
  gd (hK h v0 = 3) (gs (hR h 3 v0 0) (fun a11 =>
  gd (hK h a11 = 14) (bd (fJx4a65c_get_915e3 a11 ((v2 + v3) / (2 : Int32)) h) (fun z14 =>
  gs z14 (fun a15 =>
  gd (hK h a15 = 10) (if (v1 ≤ (hI h 10 a15 1)) then (fX3_countAhead_b62 v0 v1 v2 ((v2 + v3) / (2 : Int32)) v4 h) else
  fX3_countAhead_b62 v0 v1 (((v2 + v3) / (2 : Int32)) + (1 : Int32)) v3 v4 h))))))
set_option maxRecDepth 100000 in
theorem wX3_countAhead_c13 {E : PE} {p : Program} {l : Launch} {e : Env} {s : State} {m : MethodId} {args : Array Value} {below : List Frame} {meth : Method} {c : Code} (X : Cx E p l e (rmv 3 0 0) s m args below meth c RX3 cX3_countAhead 6 (some .int)) (hG : Gs E l) (hnm : meth.name = yX3_countAhead.name) {v0 : Nat} {v1 : Int32} {v2 : Int32} {v3 : Int32} {v4 : Int32} {h : PH} {r : Int32} {x : ((Int32 × Int32 × Int32) ⊕ Int32)} (hf : fX3_countAhead_c13 v0 v1 v2 v3 v4 h = some x) (k0 : ∀ z : (Int32 × Int32 × Int32), x = .inl z → PW E p l e (rmv 3 0 0) s m args below meth c 6 0 0 (MQ below (QG E (fun v u => v = some (.int r) ∧ u = h)) args s 0 0 (pA E)) h 13 [(0, some (.ref v0)), (1, some (.int v1)), (2, some (.int (z.1))), (3, some (.int (z.2.1))), (4, some (.int (z.2.2)))] []) (kf : ∀ z : Int32, x = .inr z → z = r) : PW E p l e (rmv 3 0 0) s m args below meth c 6 0 0 (MQ below (QG E (fun v u => v = some (.int r) ∧ u = h)) args s 0 0 (pA E)) h 13 [(0, some (.ref v0)), (1, some (.int v1)), (2, some (.int v2)), (3, some (.int v3)), (4, some (.int v4))] [] := by
  unfold fX3_countAhead_c13 at hf
  refine p_iload X (dcg dc_X3_countAhead 8 rfl) rfl ?_
  refine p_bipush (v := 32) X (dcg dc_X3_countAhead 9 rfl) (by decide) ?_
  refine p_icmp_ge (tgt := 68) X (dcg dc_X3_countAhead 10 rfl) (by decide) (fun q => ?_) (fun q => ?_)
  · have hf := if_t q hf
    obtain ⟨y6, hf, hy7⟩ := mr_some hf
    have hy7f := kf y6 hy7
    subst hy7f
    refine p_pick [2] ?_
    exact wX3_countAhead_b68 X hG hnm hf 
  · have hf := if_f q hf
    refine p_iload_n X (dcg dc_X3_countAhead 11 rfl) rfl rfl ?_
    refine p_iload_n X (dcg dc_X3_countAhead 12 rfl) rfl rfl ?_
    refine p_icmp_ge (tgt := 68) X (dcg dc_X3_countAhead 13 rfl) (by decide) (fun q => ?_) (fun q => ?_)
    · have hf := if_t q hf
      obtain ⟨y8, hf, hy9⟩ := mr_some hf
      have hy9f := kf y8 hy9
      subst hy9f
      refine p_pick [2] ?_
      exact wX3_countAhead_b68 X hG hnm hf 
    · have hf := if_f q hf
      refine p_iload_n X (dcg dc_X3_countAhead 14 rfl) rfl rfl ?_
      refine p_iload_n X (dcg dc_X3_countAhead 15 rfl) rfl rfl ?_
      refine p_iadd X (dcg dc_X3_countAhead 16 rfl) ?_
      refine p_iconst (v := 2) X (dcg dc_X3_countAhead 17 rfl) (by decide) ?_
      refine p_idiv X (dcg dc_X3_countAhead 18 rfl) (by decide) ?_
      refine p_istore X (dcg dc_X3_countAhead 19 rfl) (by decide) rfl ?_
      refine p_aload_n X (dcg dc_X3_countAhead 20 rfl) rfl rfl ?_
      obtain ⟨hk10, hf⟩ := gd_some hf
      refine p_getR X fl_X3_12 rfl (by decide) (dcg dc_X3_countAhead 21 rfl) hk10 ?_
      refine p_iload X (dcg dc_X3_countAhead 22 rfl) rfl ?_
      obtain ⟨a11, e12, hf⟩ := gs_some hf
      first | subst e12 | (try rw [e12])
      obtain ⟨hk13, hf⟩ := gd_some hf
      obtain ⟨z14, hz14, hf⟩ := bd_some hf
      refine p_callV (As := [_]) X ml_X3_26 (dcg dc_X3_countAhead 23 rfl) rfl rfl hk13 (wJx4a65c_get_915e3 hG hz14) (by decide) (room4 (Nat.le_of_ble_eq_true rfl)) (Nat.le_refl _) (Nat.le_refl _) ?_
      rintro _ u9 ⟨rfl, e9⟩; have e9 := e9.symm; subst e9
      obtain ⟨a15, e16, hf⟩ := gs_some hf
      first | subst e16 | (try rw [e16])
      obtain ⟨hk17, hf⟩ := gd_some hf
      refine p_cast (q := (RX10, TX10, 3)) X rfl tw_505 (dcg dc_X3_countAhead 24 rfl) hk17 ?_
      refine p_getIn X fl_X3_36 rfl (by decide) (dcg dc_X3_countAhead 25 rfl) hk17 ?_
      refine p_iload_n X (dcg dc_X3_countAhead 26 rfl) rfl rfl ?_
      refine p_icmp_ge (tgt := 59) X (dcg dc_X3_countAhead 27 rfl) (by decide) (fun q => ?_) (fun q => ?_)
      · have hf := if_t q hf
        refine p_iload X (dcg dc_X3_countAhead 33 rfl) rfl ?_
        refine p_istore_n X (dcg dc_X3_countAhead 34 rfl) rfl (by decide) rfl ?_
        refine p_pick [0, 1, 2, 3, 4] ?_
        exact wX3_countAhead_b62 X hG hnm hf k0 kf
      · have hf := if_f q hf
        refine p_iload X (dcg dc_X3_countAhead 28 rfl) rfl ?_
        refine p_iconst (v := 1) X (dcg dc_X3_countAhead 29 rfl) (by decide) ?_
        refine p_iadd X (dcg dc_X3_countAhead 30 rfl) ?_
        refine p_istore_n X (dcg dc_X3_countAhead 31 rfl) rfl (by decide) rfl ?_
        refine p_goto (tgt := 62) X (dcg dc_X3_countAhead 32 rfl) (by decide) ?_
        refine p_pick [0, 1, 2, 3, 4] ?_
        exact wX3_countAhead_b62 X hG hnm hf k0 kf
noncomputable def fX3_countAhead_l13 (v0 : Nat) (v1 : Int32) (v2 : Int32) (v3 : Int32) (v4 : Int32) (h : PH) : Option Int32 := wh (fun z : (Int32 × Int32 × Int32) => fX3_countAhead_c13 v0 v1 (z.1) (z.2.1) (z.2.2) h) (v2, v3, v4)
set_option maxRecDepth 100000 in
theorem wX3_countAhead_l13 {E : PE} {p : Program} {l : Launch} {e : Env} {s : State} {m : MethodId} {args : Array Value} {below : List Frame} {meth : Method} {c : Code} (X : Cx E p l e (rmv 3 0 0) s m args below meth c RX3 cX3_countAhead 6 (some .int)) (hG : Gs E l) (hnm : meth.name = yX3_countAhead.name) {v0 : Nat} {v1 : Int32} {v2 : Int32} {v3 : Int32} {v4 : Int32} {h : PH} {r : Int32} (hf : fX3_countAhead_l13 v0 v1 v2 v3 v4 h = some r)  : PW E p l e (rmv 3 0 0) s m args below meth c 6 0 0 (MQ below (QG E (fun v u => v = some (.int r) ∧ u = h)) args s 0 0 (pA E)) h 13 [(0, some (.ref v0)), (1, some (.int v1)), (2, some (.int v2)), (3, some (.int v3)), (4, some (.int v4))] [] := by
  unfold fX3_countAhead_l13 at hf
  refine wh_ind (P := fun z => PW E p l e (rmv 3 0 0) s m args below meth c 6 0 0 (MQ below (QG E (fun v u => v = some (.int r) ∧ u = h)) args s 0 0 (pA E)) h 13 [(0, some (.ref v0)), (1, some (.int v1)), (2, some (.int (z.1))), (3, some (.int (z.2.1))), (4, some (.int (z.2.2)))] []) (fun z x0 hs i1 i2 => ?_) _ hf
  exact wX3_countAhead_c13 (r := r) (v0 := v0) (v1 := v1) (v2 := z.1) (v3 := z.2.1) (v4 := z.2.2) (h := h) X hG hnm hs i1  i2
noncomputable def fX3_countAhead (v0 : Nat) (v1 : Int32) (h : PH) : Option Int32 :=
  gd (hK h v0 = 3) (gs (hR h 3 v0 0) (fun a2 =>
  gd (hK h a2 = 14) (bd (fJx4a65c_size_8abf5 a2 h) (fun z5 =>
  fX3_countAhead_l13 v0 v1 (0 : Int32) z5 (0 : Int32) h))))
set_option maxRecDepth 100000 in
theorem wX3_countAhead {E : PE} {l : Launch} (hG : Gs E l) {v0 : Nat} {v1 : Int32} {h : PH} {r : Int32} (hf : fX3_countAhead v0 v1 h = some r) : Ct E l 3 0 0 yX3_countAhead cX3_countAhead 6 (some .int) [.ref v0, .int v1] h (fun v u => v = some (.int r) ∧ u = h) := by
  refine ct_of hG (by decide) (Nat.le_of_ble_eq_true rfl) ?_
  intro p e s m args below meth c X hnm
  show PW E p l e _ s m args below meth c _ 0 0 _ h 0 [(0, some (.ref v0)), (1, some (.int v1))] []
  unfold fX3_countAhead at hf
  refine p_iconst (v := 0) X (dcg dc_X3_countAhead 0 rfl) (by decide) ?_
  refine p_istore_n X (dcg dc_X3_countAhead 1 rfl) rfl (by decide) rfl ?_
  refine p_aload_n X (dcg dc_X3_countAhead 2 rfl) rfl rfl ?_
  obtain ⟨hk1, hf⟩ := gd_some hf
  refine p_getR X fl_X3_12 rfl (by decide) (dcg dc_X3_countAhead 3 rfl) hk1 ?_
  obtain ⟨a2, e3, hf⟩ := gs_some hf
  first | subst e3 | (try rw [e3])
  obtain ⟨hk4, hf⟩ := gd_some hf
  obtain ⟨z5, hz5, hf⟩ := bd_some hf
  refine p_callV (As := []) X ml_X3_22 (dcg dc_X3_countAhead 4 rfl) rfl rfl hk4 (wJx4a65c_size_8abf5 hG hz5) (by decide) (room4 (Nat.le_of_ble_eq_true rfl)) (Nat.le_refl _) (Nat.le_refl _) ?_
  rintro _ u9 ⟨rfl, e9⟩; have e9 := e9.symm; subst e9
  refine p_istore_n X (dcg dc_X3_countAhead 5 rfl) rfl (by decide) rfl ?_
  refine p_iconst (v := 0) X (dcg dc_X3_countAhead 6 rfl) (by decide) ?_
  refine p_istore X (dcg dc_X3_countAhead 7 rfl) (by decide) rfl ?_
  refine p_pick [0, 1, 2, 3, 4] ?_
  exact wX3_countAhead_l13 X hG hnm hf 
theorem dc_X3_find : decs cX3_find [(0, .aload_n 0, 1), (1, .iload_n 1, 1), (2, .invokestatic 39, 3), (5, .invokevirtual 43, 3), (8, .istore_n 2, 1), (9, .iload_n 2, 1), (10, .aload_n 0, 1), (11, .getfield 12, 3), (14, .invokevirtual 22, 3), (17, .if_icmp .ge 21, 3), (20, .aload_n 0, 1), (21, .getfield 12, 3), (24, .iload_n 2, 1), (25, .invokevirtual 26, 3), (28, .checkcast 30, 3), (31, .getfield 32, 3), (34, .iload_n 1, 1), (35, .if_icmp .eq 5, 3), (38, .aconst_null, 1), (39, .areturn, 1), (40, .aload_n 0, 1), (41, .getfield 12, 3), (44, .iload_n 2, 1), (45, .invokevirtual 26, 3), (48, .checkcast 30, 3), (51, .areturn, 1)] = true := by decide +kernel
noncomputable def fX3_find_b38  (h : PH) : Option (Option Nat) :=
  some (none)
set_option maxRecDepth 100000 in
theorem wX3_find_b38 {E : PE} {p : Program} {l : Launch} {e : Env} {s : State} {m : MethodId} {args : Array Value} {below : List Frame} {meth : Method} {c : Code} (X : Cx E p l e (rmv 4 0 0) s m args below meth c RX3 cX3_find 3 (some (.object "WordFinder$Word"))) (hG : Gs E l) (hnm : meth.name = yX3_find.name)  {h : PH} {r : (Option Nat)} (hf : fX3_find_b38  h = some r)  : PW E p l e (rmv 4 0 0) s m args below meth c 3 0 0 (MQ below (QG E (fun v u => v = some (va_rf r) ∧ u = h)) args s 0 0 (pA E)) h 38 [] [] := by
  unfold fX3_find_b38 at hf
  refine p_null X (dcg dc_X3_find 18 rfl) ?_
  have er := Option.some.inj hf
  subst er
  exact p_aret X rfl (Or.inl ⟨_, rfl⟩) (dcg dc_X3_find 19 rfl) ⟨rfl, rfl⟩ (Nat.le_refl _) (Nat.le_refl _)
noncomputable def fX3_find (v0 : Nat) (v1 : Int32) (h : PH) : Option (Option Nat) :=
  bd (fX10_orderOf v1) (fun z1 =>
  gd (hK h v0 = 3) (bd (fX3_countAhead v0 z1 h) (fun z3 =>
  gs (hR h 3 v0 0) (fun a4 =>
  gd (hK h a4 = 14) (bd (fJx4a65c_size_8abf5 a4 h) (fun z7 =>
  if (z7 ≤ z3) then (fX3_find_b38  h) else
  gs (hR h 3 v0 0) (fun a8 =>
  gd (hK h a8 = 14) (bd (fJx4a65c_get_915e3 a8 z3 h) (fun z11 =>
  gs z11 (fun a12 =>
  gd (hK h a12 = 10) (if ((hI h 10 a12 0) = v1) then (gs (hR h 3 v0 0) (fun a15 =>
  gd (hK h a15 = 14) (bd (fJx4a65c_get_915e3 a15 z3 h) (fun z18 =>
  gs z18 (fun a19 =>
  gd (hK h a19 = 10) (some ((some a19)))))))) else
  fX3_find_b38  h)))))))))))
set_option maxRecDepth 100000 in
theorem wX3_find {E : PE} {l : Launch} (hG : Gs E l) {v0 : Nat} {v1 : Int32} {h : PH} {r : (Option Nat)} (hf : fX3_find v0 v1 h = some r) : Ct E l 4 0 0 yX3_find cX3_find 3 (some (.object "WordFinder$Word")) [.ref v0, .int v1] h (fun v u => v = some (va_rf r) ∧ u = h) := by
  refine ct_of hG (by decide) (Nat.le_of_ble_eq_true rfl) ?_
  intro p e s m args below meth c X hnm
  show PW E p l e _ s m args below meth c _ 0 0 _ h 0 [(0, some (.ref v0)), (1, some (.int v1))] []
  unfold fX3_find at hf
  refine p_aload_n X (dcg dc_X3_find 0 rfl) rfl rfl ?_
  refine p_iload_n X (dcg dc_X3_find 1 rfl) rfl rfl ?_
  obtain ⟨z1, hz1, hf⟩ := bd_some hf
  refine p_callS (As := [_]) X ml_X3_39 (dcg dc_X3_find 2 rfl) rfl rfl  (wX10_orderOf hG hz1) (by decide) (room4 (Nat.le_of_ble_eq_true rfl)) (Nat.le_refl _) (Nat.le_refl _) ?_
  rintro _ u9 ⟨rfl, e9⟩; have e9 := e9.symm; subst e9
  obtain ⟨hk2, hf⟩ := gd_some hf
  obtain ⟨z3, hz3, hf⟩ := bd_some hf
  refine p_callV (As := [_]) X ml_X3_43 (dcg dc_X3_find 3 rfl) rfl rfl hk2 (wX3_countAhead hG hz3) (by decide) (room4 (Nat.le_of_ble_eq_true rfl)) (Nat.le_refl _) (Nat.le_refl _) ?_
  rintro _ u9 ⟨rfl, e9⟩; have e9 := e9.symm; subst e9
  refine p_istore_n X (dcg dc_X3_find 4 rfl) rfl (by decide) rfl ?_
  refine p_iload_n X (dcg dc_X3_find 5 rfl) rfl rfl ?_
  refine p_aload_n X (dcg dc_X3_find 6 rfl) rfl rfl ?_
  refine p_getR X fl_X3_12 rfl (by decide) (dcg dc_X3_find 7 rfl) hk2 ?_
  obtain ⟨a4, e5, hf⟩ := gs_some hf
  first | subst e5 | (try rw [e5])
  obtain ⟨hk6, hf⟩ := gd_some hf
  obtain ⟨z7, hz7, hf⟩ := bd_some hf
  refine p_callV (As := []) X ml_X3_22 (dcg dc_X3_find 8 rfl) rfl rfl hk6 (wJx4a65c_size_8abf5 hG hz7) (by decide) (room4 (Nat.le_of_ble_eq_true rfl)) (Nat.le_refl _) (Nat.le_refl _) ?_
  rintro _ u9 ⟨rfl, e9⟩; have e9 := e9.symm; subst e9
  refine p_icmp_ge (tgt := 38) X (dcg dc_X3_find 9 rfl) (by decide) (fun q => ?_) (fun q => ?_)
  · have hf := if_t q hf
    refine p_pick [] ?_
    exact wX3_find_b38 X hG hnm hf 
  · have hf := if_f q hf
    refine p_aload_n X (dcg dc_X3_find 10 rfl) rfl rfl ?_
    refine p_getR X fl_X3_12 rfl (by decide) (dcg dc_X3_find 11 rfl) hk2 ?_
    refine p_iload_n X (dcg dc_X3_find 12 rfl) rfl rfl ?_
    obtain ⟨a8, e9, hf⟩ := gs_some hf
    first | subst e9 | (try rw [e9])
    obtain ⟨hk10, hf⟩ := gd_some hf
    obtain ⟨z11, hz11, hf⟩ := bd_some hf
    refine p_callV (As := [_]) X ml_X3_26 (dcg dc_X3_find 13 rfl) rfl rfl hk10 (wJx4a65c_get_915e3 hG hz11) (by decide) (room4 (Nat.le_of_ble_eq_true rfl)) (Nat.le_refl _) (Nat.le_refl _) ?_
    rintro _ u9 ⟨rfl, e9⟩; have e9 := e9.symm; subst e9
    obtain ⟨a12, e13, hf⟩ := gs_some hf
    first | subst e13 | (try rw [e13])
    obtain ⟨hk14, hf⟩ := gd_some hf
    refine p_cast (q := (RX10, TX10, 3)) X rfl tw_505 (dcg dc_X3_find 14 rfl) hk14 ?_
    refine p_getIn X fl_X3_32 rfl (by decide) (dcg dc_X3_find 15 rfl) hk14 ?_
    refine p_iload_n X (dcg dc_X3_find 16 rfl) rfl rfl ?_
    refine p_icmp_eq (tgt := 40) X (dcg dc_X3_find 17 rfl) (by decide) (fun q => ?_) (fun q => ?_)
    · have hf := if_t q hf
      refine p_aload_n X (dcg dc_X3_find 20 rfl) rfl rfl ?_
      refine p_getR X fl_X3_12 rfl (by decide) (dcg dc_X3_find 21 rfl) hk2 ?_
      refine p_iload_n X (dcg dc_X3_find 22 rfl) rfl rfl ?_
      obtain ⟨a15, e16, hf⟩ := gs_some hf
      first | subst e16 | (try rw [e16])
      obtain ⟨hk17, hf⟩ := gd_some hf
      obtain ⟨z18, hz18, hf⟩ := bd_some hf
      refine p_callV (As := [_]) X ml_X3_26 (dcg dc_X3_find 23 rfl) rfl rfl hk17 (wJx4a65c_get_915e3 hG hz18) (by decide) (room4 (Nat.le_of_ble_eq_true rfl)) (Nat.le_refl _) (Nat.le_refl _) ?_
      rintro _ u9 ⟨rfl, e9⟩; have e9 := e9.symm; subst e9
      obtain ⟨a19, e20, hf⟩ := gs_some hf
      first | subst e20 | (try rw [e20])
      obtain ⟨hk21, hf⟩ := gd_some hf
      refine p_cast (q := (RX10, TX10, 3)) X rfl tw_505 (dcg dc_X3_find 24 rfl) hk21 ?_
      have er := Option.some.inj hf
      subst er
      exact p_aret (r := some _) X rfl (Or.inl ⟨_, rfl⟩) (dcg dc_X3_find 25 rfl) ⟨rfl, rfl⟩ (Nat.le_refl _) (Nat.le_refl _)
    · have hf := if_f q hf
      refine p_pick [] ?_
      exact wX3_find_b38 X hG hnm hf 
theorem dc_X9_init : decs cX9_init [(0, .aload_n 0, 1), (1, .invokespecial 3, 3), (4, .return_, 1)] = true := by decide +kernel
noncomputable def fX9_init (v0 : Nat) : Option Unit :=
  some (())
set_option maxRecDepth 100000 in
theorem wX9_init {E : PE} {l : Launch} (hG : Gs E l) {v0 : Nat} {h : PH} {r : Unit} (hf : fX9_init v0 = some r) : Ct E l 1 0 0 yX9_init cX9_init 1 (none) [.ref v0] h (fun v u => v = none ∧ u = h) := by
  refine ct_of hG (by decide) (Nat.le_of_ble_eq_true rfl) ?_
  intro p e s m args below meth c X hnm
  show PW E p l e _ s m args below meth c _ 0 0 _ h 0 [(0, some (.ref v0))] []
  unfold fX9_init at hf
  refine p_aload_n X (dcg dc_X9_init 0 rfl) rfl rfl ?_
  refine p_objinit X tw_270 tw_146 tw_147 (dcg dc_X9_init 1 rfl) (Nat.le_of_ble_eq_true rfl) (Nat.le_trans (Nat.add_le_add_right (room4 (Nat.le_of_ble_eq_true rfl)) 12) (Nat.le_of_ble_eq_true rfl)) (fun ls hl => hl.1.trans X.2.2.1.symm) ?_
  have er := Option.some.inj hf
  subst er
  exact p_vret X rfl (dcg dc_X9_init 2 rfl) ⟨rfl, rfl⟩ (Nat.le_refl _) (Nat.le_refl _)
theorem dc_X10_init : decs cX10_init [(0, .aload_n 0, 1), (1, .invokespecial 1, 3), (4, .aload_n 0, 1), (5, .iload_n 1, 1), (6, .putfield 7, 3), (9, .aload_n 0, 1), (10, .iload_n 2, 1), (11, .putfield 13, 3), (14, .aload_n 0, 1), (15, .new 16, 3), (18, .dup, 1), (19, .invokespecial 18, 3), (22, .putfield 19, 3), (25, .return_, 1)] = true := by decide +kernel
noncomputable def fX10_init_b18 (t0 : Nat) (t1 : Nat) (h : PH) : Option PH :=
  bd (fX9_init t1) (fun z4 =>
  gd (hK h t0 = 10) (lt (sR h 10 t0 2 (some t1)) (fun h6 =>
  some (h6))))
set_option maxRecDepth 100000 in
theorem mX10_init_b18 {t0 : Nat} {t1 : Nat} {h : PH} {r : PH} (hf : fX10_init_b18 t0 t1 h = some r) : lez h (hX r) (hV r) := by
  unfold fX10_init_b18 at hf
  have hle := lez_rf h
  obtain ⟨z4, hz4, hf⟩ := bd_some hf
  obtain ⟨hk5, hf⟩ := gd_some hf
  obtain ⟨h6, rfl, hf⟩ := lt_some hf
  have ee := Option.some.inj hf; subst ee; exact hle
set_option maxRecDepth 100000 in
theorem wX10_init_b18 {E : PE} {p : Program} {l : Launch} {e : Env} {s : State} {m : MethodId} {args : Array Value} {below : List Frame} {meth : Method} {c : Code} {X0 V0 MC MS uc us : Nat} (X : Cx E p l e (rmv 2 MC MS) s m args below meth c RX10 cX10_init 3 (none)) (hG : Gs E l) (hnm : meth.name = yX10_init.name) {t0 : Nat} {t1 : Nat} {h : PH} {r : PH} (hM : MC + X0 = (hX r)) (hN : MS + V0 = (hV r)) (hu : uc + X0 = hX h) (hv : us + V0 = hV h) (hf : fX10_init_b18 t0 t1 h = some r)  : PW E p l e (rmv 2 MC MS) s m args below meth c 3 uc us (MQ below (QG E (fun v u => v = none ∧ u = r)) args s MC MS (pA E)) h 18 [] [.ref t1, .ref t0] := by
  have hm1 : lez h (hX r) (hV r) := mX10_init_b18 hf
  have hcm : uc ≤ MC := (by have o0 := hm1.1; have o1 := hM; have o2 := hu; (try simp only [hX_sI, hX_sR, hX_sL, hX_sD, hX_sIa, hX_sRa, hV_sI, hV_sR, hV_sL, hV_sD, hV_sIa, hV_sRa, hX_new, hV_new] at o0 o1 o2 ⊢); omega)
  have hsm : us ≤ MS := (by have o0 := hm1.2; have o1 := hN; have o2 := hv; (try simp only [hX_sI, hX_sR, hX_sL, hX_sD, hX_sIa, hX_sRa, hV_sI, hV_sR, hV_sL, hV_sD, hV_sIa, hV_sRa, hX_new, hV_new] at o0 o1 o2 ⊢); omega)
  clear hm1
  unfold fX10_init_b18 at hf
  refine p_dup X (dcg dc_X10_init 10 rfl) rfl ?_
  obtain ⟨z4, hz4, hf⟩ := bd_some hf
  refine p_callIn (As := []) (ret1 := none) X ml_X10_18 (dcg dc_X10_init 11 rfl) rfl rfl  (wX9_init hG hz4) (by decide) (room4 (Nat.le_of_ble_eq_true rfl)) hcm hsm ?_
  rintro _ u9 ⟨rfl, e9⟩; have e9 := e9.symm; subst e9
  obtain ⟨hk5, hf⟩ := gd_some hf
  refine p_putRf (v := some _) X fl_X10_19 rfl (by decide) (fun q hq => by cases hq; exact ⟨rfl, rfl⟩) hnm (nar_rf _ (by decide)) (fit_rf _ (by decide)) (dcg dc_X10_init 12 rfl) hk5 ?_
  obtain ⟨h6, rfl, hf⟩ := lt_some hf
  have er := Option.some.inj hf
  subst er
  exact p_vret X rfl (dcg dc_X10_init 13 rfl) ⟨rfl, rfl⟩ hcm hsm
noncomputable def fX10_init_b0 (v0 : Nat) (v1 : Int32) (v2 : Int32) (h : PH) : Option PH :=
  gd (hK h v0 = 10) (lt (sI h 10 v0 0 v1) (fun h2 =>
  lt (sI h2 10 v0 1 v2) (fun h3 =>
  fX10_init_b18 v0 (hX h3) (hnew h3 9 2))))
set_option maxRecDepth 100000 in
theorem mX10_init_b0 {v0 : Nat} {v1 : Int32} {v2 : Int32} {h : PH} {r : PH} (hf : fX10_init_b0 v0 v1 v2 h = some r) : lez h (hX r) (hV r) := by
  unfold fX10_init_b0 at hf
  have hle := lez_rf h
  obtain ⟨hk1, hf⟩ := gd_some hf
  obtain ⟨h2, rfl, hf⟩ := lt_some hf
  obtain ⟨h3, rfl, hf⟩ := lt_some hf
  have hle := lez_nw (c := 9) (n := 2) hle
  exact lez_rt (mX10_init_b18 hf) hle
set_option maxRecDepth 100000 in
theorem wX10_init_b0 {E : PE} {p : Program} {l : Launch} {e : Env} {s : State} {m : MethodId} {args : Array Value} {below : List Frame} {meth : Method} {c : Code} {X0 V0 MC MS uc us : Nat} (X : Cx E p l e (rmv 2 MC MS) s m args below meth c RX10 cX10_init 3 (none)) (hG : Gs E l) (hnm : meth.name = yX10_init.name) {v0 : Nat} {v1 : Int32} {v2 : Int32} {h : PH} {r : PH} (hM : MC + X0 = (hX r)) (hN : MS + V0 = (hV r)) (hu : uc + X0 = hX h) (hv : us + V0 = hV h) (hf : fX10_init_b0 v0 v1 v2 h = some r)  : PW E p l e (rmv 2 MC MS) s m args below meth c 3 uc us (MQ below (QG E (fun v u => v = none ∧ u = r)) args s MC MS (pA E)) h 0 [(0, some (.ref v0)), (1, some (.int v1)), (2, some (.int v2))] [] := by
  have hm1 : lez h (hX r) (hV r) := mX10_init_b0 hf
  have hcm : uc ≤ MC := (by have o0 := hm1.1; have o1 := hM; have o2 := hu; (try simp only [hX_sI, hX_sR, hX_sL, hX_sD, hX_sIa, hX_sRa, hV_sI, hV_sR, hV_sL, hV_sD, hV_sIa, hV_sRa, hX_new, hV_new] at o0 o1 o2 ⊢); omega)
  have hsm : us ≤ MS := (by have o0 := hm1.2; have o1 := hN; have o2 := hv; (try simp only [hX_sI, hX_sR, hX_sL, hX_sD, hX_sIa, hX_sRa, hV_sI, hV_sR, hV_sL, hV_sD, hV_sIa, hV_sRa, hX_new, hV_new] at o0 o1 o2 ⊢); omega)
  clear hm1
  unfold fX10_init_b0 at hf
  refine p_aload_n X (dcg dc_X10_init 0 rfl) rfl rfl ?_
  refine p_objinit X tw_510 tw_146 tw_147 (dcg dc_X10_init 1 rfl) (Nat.le_of_ble_eq_true rfl) (Nat.le_trans (Nat.add_le_add_right (room4 (Nat.le_of_ble_eq_true rfl)) 12) (Nat.le_of_ble_eq_true rfl)) (fun ls hl => hl.1.trans X.2.2.1.symm) ?_
  refine p_aload_n X (dcg dc_X10_init 2 rfl) rfl rfl ?_
  refine p_iload_n X (dcg dc_X10_init 3 rfl) rfl rfl ?_
  obtain ⟨hk1, hf⟩ := gd_some hf
  refine p_putIf X fl_X10_7 rfl (by decide) (fun q hq => by cases hq; exact ⟨rfl, rfl⟩) hnm rfl rfl (dcg dc_X10_init 4 rfl) hk1 ?_
  obtain ⟨h2, rfl, hf⟩ := lt_some hf
  refine p_aload_n X (dcg dc_X10_init 5 rfl) rfl rfl ?_
  refine p_iload_n X (dcg dc_X10_init 6 rfl) rfl rfl ?_
  refine p_putIf X fl_X10_13 rfl (by decide) (fun q hq => by cases hq; exact ⟨rfl, rfl⟩) hnm rfl rfl (dcg dc_X10_init 7 rfl) hk1 ?_
  obtain ⟨h3, rfl, hf⟩ := lt_some hf
  refine p_aload_n X (dcg dc_X10_init 8 rfl) rfl rfl ?_
  have hm1 : lez _ (hX r) (hV r) := mX10_init_b18 hf
  have hm2 := lez_new hm1
  refine p_newN (ci := 9) (q := (RX9, TX9, 2)) (n := 2) X rfl rfl (by decide) tw_511 tw_266 tw_108 (dcg dc_X10_init 9 rfl) (show uc + 1 ≤ MC from (by have o0 := hm2.1; have o1 := hM; have o2 := hu; (try simp only [hX_sI, hX_sR, hX_sL, hX_sD, hX_sIa, hX_sRa, hV_sI, hV_sR, hV_sL, hV_sD, hV_sIa, hV_sRa, hX_new, hV_new] at o0 o1 o2 ⊢); omega)) (show us + 2 ≤ MS from (by have o0 := hm2.2; have o1 := hN; have o2 := hv; (try simp only [hX_sI, hX_sR, hX_sL, hX_sD, hX_sIa, hX_sRa, hV_sI, hV_sR, hV_sL, hV_sD, hV_sIa, hV_sRa, hX_new, hV_new] at o0 o1 o2 ⊢); omega)) ?_
  refine p_pick [] ?_
  exact wX10_init_b18 X hG hnm hM hN (by have o0 := hu; (try simp only [hX_sI, hX_sR, hX_sL, hX_sD, hX_sIa, hX_sRa, hV_sI, hV_sR, hV_sL, hV_sD, hV_sIa, hV_sRa, hX_new, hV_new] at o0 ⊢); omega) (by have o0 := hv; (try simp only [hX_sI, hX_sR, hX_sL, hX_sD, hX_sIa, hX_sRa, hV_sI, hV_sR, hV_sL, hV_sD, hV_sIa, hV_sRa, hX_new, hV_new] at o0 ⊢); omega) hf 
noncomputable def fX10_init (v0 : Nat) (v1 : Int32) (v2 : Int32) (h : PH) : Option PH :=
  fX10_init_b0 v0 v1 v2 h
set_option maxRecDepth 100000 in
theorem mX10_init {v0 : Nat} {v1 : Int32} {v2 : Int32} {h : PH} {r : PH} (hf : fX10_init v0 v1 v2 h = some r) : lez h (hX r) (hV r) := by
  unfold fX10_init at hf
  have hle := lez_rf h
  exact lez_rt (mX10_init_b0 hf) hle
set_option maxRecDepth 100000 in
theorem wX10_init {E : PE} {l : Launch} (hG : Gs E l) {v0 : Nat} {v1 : Int32} {v2 : Int32} {h : PH} {r : PH} (hf : fX10_init v0 v1 v2 h = some r) : Ct E l 2 ((hX r) - hX h) ((hV r) - hV h) yX10_init cX10_init 3 (none) [.ref v0, .int v1, .int v2] h (fun v u => v = none ∧ u = r) := by
  have hmm := mX10_init hf
  refine ct_of hG (by decide) (Nat.le_of_ble_eq_true rfl) ?_
  intro p e s m args below meth c X hnm
  show PW E p l e _ s m args below meth c _ 0 0 _ h 0 [(0, some (.ref v0)), (1, some (.int v1)), (2, some (.int v2))] []
  unfold fX10_init at hf
  have hM := Nat.sub_add_cancel hmm.1
  have hN := Nat.sub_add_cancel hmm.2
  refine p_pick [0, 1, 2] ?_
  exact wX10_init_b0 X hG hnm hM hN (Nat.zero_add _) (Nat.zero_add _) hf
theorem dc_Jx4a65c_rangeCheckForAdd_d00df : decs cJx4a65c_rangeCheckForAdd_d00df [(0, .iload_n 1, 1), (1, .aload_n 0, 1), (2, .getfield 48, 3), (5, .if_icmp .gt 7, 3), (8, .iload_n 1, 1), (9, .ifCond .ge 16, 3), (12, .new 187, 3), (15, .dup, 1), (16, .aload_n 0, 1), (17, .iload_n 1, 1), (18, .invokevirtual 198, 3), (21, .invokespecial 193, 3), (24, .athrow, 1), (25, .return_, 1)] = true := by decide +kernel
noncomputable def fJx4a65c_rangeCheckForAdd_d00df_b12  (h : PH) : Option Unit :=
  none
set_option maxRecDepth 100000 in
theorem wJx4a65c_rangeCheckForAdd_d00df_b12 {E : PE} {p : Program} {l : Launch} {e : Env} {s : State} {m : MethodId} {args : Array Value} {below : List Frame} {meth : Method} {c : Code} (X : Cx E p l e (rmv 0 0 0) s m args below meth c RJx4a65c cJx4a65c_rangeCheckForAdd_d00df 2 (none)) (hG : Gs E l) (hnm : meth.name = yJx4a65c_rangeCheckForAdd_d00df.name)  {h : PH} {r : Unit} (hf : fJx4a65c_rangeCheckForAdd_d00df_b12  h = some r)  : PW E p l e (rmv 0 0 0) s m args below meth c 2 0 0 (MQ below (QG E (fun v u => v = none ∧ u = h)) args s 0 0 (pA E)) h 12 [] [] := by
  unfold fJx4a65c_rangeCheckForAdd_d00df_b12 at hf
  cases hf
noncomputable def fJx4a65c_rangeCheckForAdd_d00df (v0 : Nat) (v1 : Int32) (h : PH) : Option Unit :=
  gd (hK h v0 = 14) (if ((hI h 14 v0 2) < v1) then (fJx4a65c_rangeCheckForAdd_d00df_b12  h) else
  if (0 ≤ v1) then (some (())) else
  fJx4a65c_rangeCheckForAdd_d00df_b12  h)
set_option maxRecDepth 100000 in
theorem wJx4a65c_rangeCheckForAdd_d00df {E : PE} {l : Launch} (hG : Gs E l) {v0 : Nat} {v1 : Int32} {h : PH} {r : Unit} (hf : fJx4a65c_rangeCheckForAdd_d00df v0 v1 h = some r) : Ct E l 0 0 0 yJx4a65c_rangeCheckForAdd_d00df cJx4a65c_rangeCheckForAdd_d00df 2 (none) [.ref v0, .int v1] h (fun v u => v = none ∧ u = h) := by
  refine ct_of hG (by decide) (Nat.le_of_ble_eq_true rfl) ?_
  intro p e s m args below meth c X hnm
  show PW E p l e _ s m args below meth c _ 0 0 _ h 0 [(0, some (.ref v0)), (1, some (.int v1))] []
  unfold fJx4a65c_rangeCheckForAdd_d00df at hf
  refine p_iload_n X (dcg dc_Jx4a65c_rangeCheckForAdd_d00df 0 rfl) rfl rfl ?_
  refine p_aload_n X (dcg dc_Jx4a65c_rangeCheckForAdd_d00df 1 rfl) rfl rfl ?_
  obtain ⟨hk1, hf⟩ := gd_some hf
  refine p_getI X fl_Jx4a65c_48 rfl (by decide) (dcg dc_Jx4a65c_rangeCheckForAdd_d00df 2 rfl) hk1 ?_
  refine p_icmp_gt (tgt := 12) X (dcg dc_Jx4a65c_rangeCheckForAdd_d00df 3 rfl) (by decide) (fun q => ?_) (fun q => ?_)
  · have hf := if_t q hf
    refine p_pick [] ?_
    exact wJx4a65c_rangeCheckForAdd_d00df_b12 X hG hnm hf 
  · have hf := if_f q hf
    refine p_iload_n X (dcg dc_Jx4a65c_rangeCheckForAdd_d00df 4 rfl) rfl rfl ?_
    refine p_if_ge (tgt := 25) X (dcg dc_Jx4a65c_rangeCheckForAdd_d00df 5 rfl) (by decide) (fun q => ?_) (fun q => ?_)
    · have hf := if_t q hf
      have er := Option.some.inj hf
      subst er
      exact p_vret X rfl (dcg dc_Jx4a65c_rangeCheckForAdd_d00df 13 rfl) ⟨rfl, rfl⟩ (Nat.le_refl _) (Nat.le_refl _)
    · have hf := if_f q hf
      refine p_pick [] ?_
      exact wJx4a65c_rangeCheckForAdd_d00df_b12 X hG hnm hf 
theorem dc_J8_hugeLength_7cf53 : decs cJ8_hugeLength_7cf53 [(0, .iload_n 0, 1), (1, .iload_n 1, 1), (2, .iadd, 1), (3, .istore_n 2, 1), (4, .iload_n 2, 1), (5, .ifCond .ge 44, 3), (8, .new 204, 3), (11, .dup, 1), (12, .new 89, 3), (15, .dup, 1), (16, .invokespecial 91, 3), (19, .ldc 206, 2), (21, .invokevirtual 94, 3), (24, .iload_n 0, 1), (25, .invokevirtual 98, 3), (28, .ldc 208, 2), (30, .invokevirtual 94, 3), (33, .iload_n 1, 1), (34, .invokevirtual 98, 3), (37, .ldc 210, 2), (39, .invokevirtual 94, 3), (42, .invokevirtual 101, 3), (45, .invokespecial 212, 3), (48, .athrow, 1), (49, .iload_n 2, 1), (50, .ldc 200, 2), (52, .if_icmp .gt 6, 3), (55, .ldc 200, 2), (57, .ireturn, 1), (58, .iload_n 2, 1), (59, .ireturn, 1)] = true := by decide +kernel
noncomputable def fJ8_hugeLength_7cf53 (v0 : Int32) (v1 : Int32) : Option Int32 :=
  if (0 ≤ (v0 + v1)) then (if ((2147483639 : Int32) < (v0 + v1)) then (some ((v0 + v1))) else
  some ((2147483639 : Int32))) else
  none
set_option maxRecDepth 100000 in
theorem wJ8_hugeLength_7cf53 {E : PE} {l : Launch} (hG : Gs E l) {v0 : Int32} {v1 : Int32} {h : PH} {r : Int32} (hf : fJ8_hugeLength_7cf53 v0 v1 = some r) : Ct E l 0 0 0 yJ8_hugeLength_7cf53 cJ8_hugeLength_7cf53 3 (some .int) [.int v0, .int v1] h (fun v u => v = some (.int r) ∧ u = h) := by
  refine ct_of hG (by decide) (Nat.le_of_ble_eq_true rfl) ?_
  intro p e s m args below meth c X hnm
  show PW E p l e _ s m args below meth c _ 0 0 _ h 0 [(0, some (.int v0)), (1, some (.int v1))] []
  unfold fJ8_hugeLength_7cf53 at hf
  refine p_iload_n X (dcg dc_J8_hugeLength_7cf53 0 rfl) rfl rfl ?_
  refine p_iload_n X (dcg dc_J8_hugeLength_7cf53 1 rfl) rfl rfl ?_
  refine p_iadd X (dcg dc_J8_hugeLength_7cf53 2 rfl) ?_
  refine p_istore_n X (dcg dc_J8_hugeLength_7cf53 3 rfl) rfl (by decide) rfl ?_
  refine p_iload_n X (dcg dc_J8_hugeLength_7cf53 4 rfl) rfl rfl ?_
  refine p_if_ge (tgt := 49) X (dcg dc_J8_hugeLength_7cf53 5 rfl) (by decide) (fun q => ?_) (fun q => ?_)
  · have hf := if_t q hf
    refine p_iload_n X (dcg dc_J8_hugeLength_7cf53 24 rfl) rfl rfl ?_
    refine p_ldc X tw_609 (dcg dc_J8_hugeLength_7cf53 25 rfl) ?_
    refine p_icmp_gt (tgt := 58) X (dcg dc_J8_hugeLength_7cf53 26 rfl) (by decide) (fun q => ?_) (fun q => ?_)
    · have hf := if_t q hf
      refine p_iload_n X (dcg dc_J8_hugeLength_7cf53 29 rfl) rfl rfl ?_
      have er := Option.some.inj hf
      subst er
      exact p_iret X rfl (dcg dc_J8_hugeLength_7cf53 30 rfl) ⟨rfl, rfl⟩ (Nat.le_refl _) (Nat.le_refl _)
    · have hf := if_f q hf
      refine p_ldc X tw_609 (dcg dc_J8_hugeLength_7cf53 27 rfl) ?_
      have er := Option.some.inj hf
      subst er
      exact p_iret X rfl (dcg dc_J8_hugeLength_7cf53 28 rfl) ⟨rfl, rfl⟩ (Nat.le_refl _) (Nat.le_refl _)
  · have hf := if_f q hf
    cases hf
theorem dc_J8_newLength_cabcc : decs cJ8_newLength_cabcc [(0, .iload_n 0, 1), (1, .iload_n 1, 1), (2, .iload_n 2, 1), (3, .invokestatic 194, 3), (6, .iadd, 1), (7, .istore_n 3, 1), (8, .iconst 0, 1), (9, .iload_n 3, 1), (10, .if_icmp .ge 11, 3), (13, .iload_n 3, 1), (14, .ldc 200, 2), (16, .if_icmp .gt 5, 3), (19, .iload_n 3, 1), (20, .ireturn, 1), (21, .iload_n 0, 1), (22, .iload_n 1, 1), (23, .invokestatic 201, 3), (26, .ireturn, 1)] = true := by decide +kernel
noncomputable def fJ8_newLength_cabcc_b21 (v0 : Int32) (v1 : Int32) : Option Int32 :=
  bd (fJ8_hugeLength_7cf53 v0 v1) (fun z1 =>
  some (z1))
set_option maxRecDepth 100000 in
theorem wJ8_newLength_cabcc_b21 {E : PE} {p : Program} {l : Launch} {e : Env} {s : State} {m : MethodId} {args : Array Value} {below : List Frame} {meth : Method} {c : Code} (X : Cx E p l e (rmv 1 0 0) s m args below meth c RJ8 cJ8_newLength_cabcc 4 (some .int)) (hG : Gs E l) (hnm : meth.name = yJ8_newLength_cabcc.name) {v0 : Int32} {v1 : Int32} {h : PH} {r : Int32} (hf : fJ8_newLength_cabcc_b21 v0 v1 = some r)  : PW E p l e (rmv 1 0 0) s m args below meth c 4 0 0 (MQ below (QG E (fun v u => v = some (.int r) ∧ u = h)) args s 0 0 (pA E)) h 21 [(0, some (.int v0)), (1, some (.int v1))] [] := by
  unfold fJ8_newLength_cabcc_b21 at hf
  refine p_iload_n X (dcg dc_J8_newLength_cabcc 14 rfl) rfl rfl ?_
  refine p_iload_n X (dcg dc_J8_newLength_cabcc 15 rfl) rfl rfl ?_
  obtain ⟨z1, hz1, hf⟩ := bd_some hf
  refine p_callS (As := [_, _]) X ml_J8_201 (dcg dc_J8_newLength_cabcc 16 rfl) rfl rfl  (wJ8_hugeLength_7cf53 hG hz1) (by decide) (room4 (Nat.le_of_ble_eq_true rfl)) (Nat.le_refl _) (Nat.le_refl _) ?_
  rintro _ u9 ⟨rfl, e9⟩; have e9 := e9.symm; subst e9
  have er := Option.some.inj hf
  subst er
  exact p_iret X rfl (dcg dc_J8_newLength_cabcc 17 rfl) ⟨rfl, rfl⟩ (Nat.le_refl _) (Nat.le_refl _)
noncomputable def fJ8_newLength_cabcc (v0 : Int32) (v1 : Int32) (v2 : Int32) : Option Int32 :=
  if ((v0 + (if v1 < v2 then v2 else v1)) ≤ (0 : Int32)) then (fJ8_newLength_cabcc_b21 v0 v1) else
  if ((2147483639 : Int32) < (v0 + (if v1 < v2 then v2 else v1))) then (fJ8_newLength_cabcc_b21 v0 v1) else
  some ((v0 + (if v1 < v2 then v2 else v1)))
set_option maxRecDepth 100000 in
theorem wJ8_newLength_cabcc {E : PE} {l : Launch} (hG : Gs E l) {v0 : Int32} {v1 : Int32} {v2 : Int32} {h : PH} {r : Int32} (hf : fJ8_newLength_cabcc v0 v1 v2 = some r) : Ct E l 1 0 0 yJ8_newLength_cabcc cJ8_newLength_cabcc 4 (some .int) [.int v0, .int v1, .int v2] h (fun v u => v = some (.int r) ∧ u = h) := by
  refine ct_of hG (by decide) (Nat.le_of_ble_eq_true rfl) ?_
  intro p e s m args below meth c X hnm
  show PW E p l e _ s m args below meth c _ 0 0 _ h 0 [(0, some (.int v0)), (1, some (.int v1)), (2, some (.int v2))] []
  unfold fJ8_newLength_cabcc at hf
  refine p_iload_n X (dcg dc_J8_newLength_cabcc 0 rfl) rfl rfl ?_
  refine p_iload_n X (dcg dc_J8_newLength_cabcc 1 rfl) rfl rfl ?_
  refine p_iload_n X (dcg dc_J8_newLength_cabcc 2 rfl) rfl rfl ?_
  refine p_mmax X tw_608 tw_445 tw_123 tw_446 (dcg dc_J8_newLength_cabcc 3 rfl) (Nat.le_of_ble_eq_true rfl) (Nat.le_trans (Nat.add_le_add_right (room4 (Nat.le_of_ble_eq_true rfl)) 13) (Nat.le_of_ble_eq_true rfl)) (Nat.le_refl _) (Nat.le_refl _) (fun ls hl => X.2.2.1.trans hl.1.symm) ?_
  refine p_iadd X (dcg dc_J8_newLength_cabcc 4 rfl) ?_
  refine p_istore_n X (dcg dc_J8_newLength_cabcc 5 rfl) rfl (by decide) rfl ?_
  refine p_iconst (v := 0) X (dcg dc_J8_newLength_cabcc 6 rfl) (by decide) ?_
  refine p_iload_n X (dcg dc_J8_newLength_cabcc 7 rfl) rfl rfl ?_
  refine p_icmp_ge (tgt := 21) X (dcg dc_J8_newLength_cabcc 8 rfl) (by decide) (fun q => ?_) (fun q => ?_)
  · have hf := if_t q hf
    refine p_pick [0, 1] ?_
    exact wJ8_newLength_cabcc_b21 X hG hnm hf 
  · have hf := if_f q hf
    refine p_iload_n X (dcg dc_J8_newLength_cabcc 9 rfl) rfl rfl ?_
    refine p_ldc X tw_609 (dcg dc_J8_newLength_cabcc 10 rfl) ?_
    refine p_icmp_gt (tgt := 21) X (dcg dc_J8_newLength_cabcc 11 rfl) (by decide) (fun q => ?_) (fun q => ?_)
    · have hf := if_t q hf
      refine p_pick [0, 1] ?_
      exact wJ8_newLength_cabcc_b21 X hG hnm hf 
    · have hf := if_f q hf
      refine p_iload_n X (dcg dc_J8_newLength_cabcc 12 rfl) rfl rfl ?_
      have er := Option.some.inj hf
      subst er
      exact p_iret X rfl (dcg dc_J8_newLength_cabcc 13 rfl) ⟨rfl, rfl⟩ (Nat.le_refl _) (Nat.le_refl _)
theorem dc_J7_copyOf_6403c : decs cJ7_copyOf_6403c [(0, .aload_n 2, 1), (1, .ldc 110, 2), (3, .if_acmp .ne 10, 3), (6, .iload_n 1, 1), (7, .anewarray 2, 3), (10, .goto 14, 3), (13, .aload_n 2, 1), (14, .invokevirtual 90, 3), (17, .iload_n 1, 1), (18, .invokestatic 95, 3), (21, .checkcast 110, 3), (24, .astore_n 3, 1), (25, .aload_n 0, 1), (26, .iconst 0, 1), (27, .aload_n 3, 1), (28, .iconst 0, 1), (29, .aload_n 0, 1), (30, .arraylength, 1), (31, .iload_n 1, 1), (32, .invokestatic 304, 3), (35, .invokestatic 150, 3), (38, .aload_n 3, 1), (39, .areturn, 1)] = true := by decide +kernel
noncomputable def fJ7_copyOf_6403c_b10 (v0 : Option Nat) (v1 : Int32) (t0 : Nat) (h : PH) : Option (Option Nat × PH) :=
  gs v0 (fun a3 =>
  gd (hK h a3 = 28) (gd ((cpyok h 28 a3 t0 (0 : Int32) (0 : Int32) (if v1 < (nI (hN h a3)) then v1 else (nI (hN h a3))) ∧ hN h t0 ≠ 0 ∧ hN h a3 ≠ 0) ∧ okrs h a3 (0 : Int32) (if v1 < (nI (hN h a3)) then v1 else (nI (hN h a3))) = true) (lt (cpyR h 28 a3 t0 (0 : Int32) (0 : Int32) (if v1 < (nI (hN h a3)) then v1 else (nI (hN h a3)))) (fun h7 =>
  some (((some t0), h7))))))
set_option maxRecDepth 100000 in
theorem mJ7_copyOf_6403c_b10 {v0 : Option Nat} {v1 : Int32} {t0 : Nat} {h : PH} {r : (Option Nat × PH)} (hf : fJ7_copyOf_6403c_b10 v0 v1 t0 h = some r) : lez h (hX r.2) (hV r.2) := by
  unfold fJ7_copyOf_6403c_b10 at hf
  have hle := lez_rf h
  obtain ⟨a3, e4, hf⟩ := gs_some hf
  obtain ⟨hk5, hf⟩ := gd_some hf
  obtain ⟨hg6, hf⟩ := gd_some hf
  obtain ⟨h7, rfl, hf⟩ := lt_some hf
  have ee := Option.some.inj hf; subst ee; exact hle
set_option maxRecDepth 100000 in
theorem wJ7_copyOf_6403c_b10 {E : PE} {p : Program} {l : Launch} {e : Env} {s : State} {m : MethodId} {args : Array Value} {below : List Frame} {meth : Method} {c : Code} {X0 V0 MC MS uc us : Nat} (X : Cx E p l e (rmv 1 MC MS) s m args below meth c RJ7 cJ7_copyOf_6403c 4 (some (.array (.object "java/lang/Object")))) (hG : Gs E l) (hnm : meth.name = yJ7_copyOf_6403c.name) {v0 : Option Nat} {v1 : Int32} {t0 : Nat} {h : PH} {r : (Option Nat × PH)} (hM : MC + X0 = (hX r.2)) (hN : MS + V0 = (hV r.2)) (hu : uc + X0 = hX h) (hv : us + V0 = hV h) (hf : fJ7_copyOf_6403c_b10 v0 v1 t0 h = some r)  : PW E p l e (rmv 1 MC MS) s m args below meth c 4 uc us (MQ below (QG E (fun v u => v = some (va_rf r.1) ∧ u = r.2)) args s MC MS (pA E)) h 10 [(0, some (va_rf v0)), (1, some (.int v1))] [.ref t0] := by
  have hm1 : lez h (hX r.2) (hV r.2) := mJ7_copyOf_6403c_b10 hf
  have hcm : uc ≤ MC := (by have o0 := hm1.1; have o1 := hM; have o2 := hu; (try simp only [hX_sI, hX_sR, hX_sL, hX_sD, hX_sIa, hX_sRa, hV_sI, hV_sR, hV_sL, hV_sD, hV_sIa, hV_sRa, hX_new, hV_new] at o0 o1 o2 ⊢); omega)
  have hsm : us ≤ MS := (by have o0 := hm1.2; have o1 := hN; have o2 := hv; (try simp only [hX_sI, hX_sR, hX_sL, hX_sD, hX_sIa, hX_sRa, hV_sI, hV_sR, hV_sL, hV_sD, hV_sIa, hV_sRa, hX_new, hV_new] at o0 o1 o2 ⊢); omega)
  clear hm1
  unfold fJ7_copyOf_6403c_b10 at hf
  refine p_goto (tgt := 24) X (dcg dc_J7_copyOf_6403c 5 rfl) (by decide) ?_
  refine p_astore_n X (dcg dc_J7_copyOf_6403c 11 rfl) rfl (by decide) rfl ?_
  refine p_aloadq_n X (dcg dc_J7_copyOf_6403c 12 rfl) rfl rfl ?_
  refine p_iconst (v := 0) X (dcg dc_J7_copyOf_6403c 13 rfl) (by decide) ?_
  refine p_aload_n X (dcg dc_J7_copyOf_6403c 14 rfl) rfl rfl ?_
  refine p_iconst (v := 0) X (dcg dc_J7_copyOf_6403c 15 rfl) (by decide) ?_
  refine p_aloadq_n X (dcg dc_J7_copyOf_6403c 16 rfl) rfl rfl ?_
  obtain ⟨a3, e4, hf⟩ := gs_some hf
  first | subst e4 | (try rw [e4])
  obtain ⟨hk5, hf⟩ := gd_some hf
  refine p_alen28 X (dcg dc_J7_copyOf_6403c 17 rfl) hk5 ?_
  refine p_iload_n X (dcg dc_J7_copyOf_6403c 18 rfl) rfl rfl ?_
  refine p_mmin X tw_624 tw_625 tw_123 tw_626 (dcg dc_J7_copyOf_6403c 19 rfl) (Nat.le_of_ble_eq_true rfl) (Nat.le_trans (Nat.add_le_add_right (room4 (Nat.le_of_ble_eq_true rfl)) 13) (Nat.le_of_ble_eq_true rfl)) hcm hsm (fun ls hl => X.2.2.1.trans hl.1.symm) ?_
  obtain ⟨hg6, hf⟩ := gd_some hf
  refine p_copyR X tw_627 tw_629 tw_628 tw_130 hg6.1 hg6.2 (dcg dc_J7_copyOf_6403c 20 rfl) (Nat.le_of_ble_eq_true rfl) (room4 (Nat.le_of_ble_eq_true rfl)) (Nat.le_of_ble_eq_true rfl) ?_
  obtain ⟨h7, rfl, hf⟩ := lt_some hf
  refine p_aload_n X (dcg dc_J7_copyOf_6403c 21 rfl) rfl rfl ?_
  have er := Option.some.inj hf
  subst er
  exact p_aret (r := some _) X rfl (Or.inr ⟨_, rfl⟩) (dcg dc_J7_copyOf_6403c 22 rfl) ⟨rfl, rfl⟩ hcm hsm
noncomputable def fJ7_copyOf_6403c_b0 (v0 : Option Nat) (v1 : Int32) (v2 : Option Nat) (h : PH) : Option (Option Nat × PH) :=
  gd (acg v2 (some 7) = true) (if (¬ (v2 = (some 7))) then (none) else
  gd (¬ v1 < 0 ∧ (Int32.toNatClampNeg v1) ≤ 1000000) (fJ7_copyOf_6403c_b10 v0 v1 (hX h) (hnew h 28 (Int32.toNatClampNeg v1))))
set_option maxRecDepth 100000 in
theorem mJ7_copyOf_6403c_b0 {v0 : Option Nat} {v1 : Int32} {v2 : Option Nat} {h : PH} {r : (Option Nat × PH)} (hf : fJ7_copyOf_6403c_b0 v0 v1 v2 h = some r) : lez h (hX r.2) (hV r.2) := by
  unfold fJ7_copyOf_6403c_b0 at hf
  have hle := lez_rf h
  obtain ⟨hg1, hf⟩ := gd_some hf
  rcases ite_or hf with ⟨q, hf⟩ | ⟨q, hf⟩
  · have hf := if_t q hf
    cases hf
  · have hf := if_f q hf
    obtain ⟨hg2, hf⟩ := gd_some hf
    have hle := lez_nw (c := 28) (n := (Int32.toNatClampNeg v1)) hle
    exact lez_rt (mJ7_copyOf_6403c_b10 hf) hle
set_option maxRecDepth 100000 in
theorem wJ7_copyOf_6403c_b0 {E : PE} {p : Program} {l : Launch} {e : Env} {s : State} {m : MethodId} {args : Array Value} {below : List Frame} {meth : Method} {c : Code} {X0 V0 MC MS uc us : Nat} (X : Cx E p l e (rmv 1 MC MS) s m args below meth c RJ7 cJ7_copyOf_6403c 4 (some (.array (.object "java/lang/Object")))) (hG : Gs E l) (hnm : meth.name = yJ7_copyOf_6403c.name) {v0 : Option Nat} {v1 : Int32} {v2 : Option Nat} {h : PH} {r : (Option Nat × PH)} (hM : MC + X0 = (hX r.2)) (hN : MS + V0 = (hV r.2)) (hu : uc + X0 = hX h) (hv : us + V0 = hV h) (hf : fJ7_copyOf_6403c_b0 v0 v1 v2 h = some r)  : PW E p l e (rmv 1 MC MS) s m args below meth c 4 uc us (MQ below (QG E (fun v u => v = some (va_rf r.1) ∧ u = r.2)) args s MC MS (pA E)) h 0 [(0, some (va_rf v0)), (1, some (.int v1)), (2, some (va_rf v2))] [] := by
  have hm1 : lez h (hX r.2) (hV r.2) := mJ7_copyOf_6403c_b0 hf
  have hcm : uc ≤ MC := (by have o0 := hm1.1; have o1 := hM; have o2 := hu; (try simp only [hX_sI, hX_sR, hX_sL, hX_sD, hX_sIa, hX_sRa, hV_sI, hV_sR, hV_sL, hV_sD, hV_sIa, hV_sRa, hX_new, hV_new] at o0 o1 o2 ⊢); omega)
  have hsm : us ≤ MS := (by have o0 := hm1.2; have o1 := hN; have o2 := hv; (try simp only [hX_sI, hX_sR, hX_sL, hX_sD, hX_sIa, hX_sRa, hV_sI, hV_sR, hV_sL, hV_sD, hV_sIa, hV_sRa, hX_new, hV_new] at o0 o1 o2 ⊢); omega)
  clear hm1
  unfold fJ7_copyOf_6403c_b0 at hf
  refine p_aloadq_n X (dcg dc_J7_copyOf_6403c 0 rfl) rfl rfl ?_
  refine p_ldcM X tw_878 (dcg dc_J7_copyOf_6403c 1 rfl) ?_
  obtain ⟨hg1, hf⟩ := gd_some hf
  refine p_acmp_ne (rx := _) (ry := some _) (tgt := 13) X hg1 (dcg dc_J7_copyOf_6403c 2 rfl) (by decide) (fun q => ?_) (fun q => ?_)
  · have hf := if_t q hf
    refine p_aloadq_n X (dcg dc_J7_copyOf_6403c 6 rfl) rfl rfl ?_
    cases hf
  · have hf := if_f q hf
    refine p_iload_n X (dcg dc_J7_copyOf_6403c 3 rfl) rfl rfl ?_
    obtain ⟨hg2, hf⟩ := gd_some hf
    have hm1 : lez _ (hX r.2) (hV r.2) := mJ7_copyOf_6403c_b10 hf
    have hm2 := lez_new hm1
    refine p_newq28 X tw_880 tl_879 (dcg dc_J7_copyOf_6403c 4 rfl) hg2.1 hg2.2 (show uc + 1 ≤ MC from (by have o0 := hm2.1; have o1 := hM; have o2 := hu; (try simp only [hX_sI, hX_sR, hX_sL, hX_sD, hX_sIa, hX_sRa, hV_sI, hV_sR, hV_sL, hV_sD, hV_sIa, hV_sRa, hX_new, hV_new] at o0 o1 o2 ⊢); omega)) (show us + (Int32.toNatClampNeg v1) ≤ MS from (by have o0 := hm2.2; have o1 := hN; have o2 := hv; (try simp only [hX_sI, hX_sR, hX_sL, hX_sD, hX_sIa, hX_sRa, hV_sI, hV_sR, hV_sL, hV_sD, hV_sIa, hV_sRa, hX_new, hV_new] at o0 o1 o2 ⊢); omega)) ?_
    refine p_pick [0, 1] ?_
    exact wJ7_copyOf_6403c_b10 X hG hnm hM hN (by have o0 := hu; (try simp only [hX_sI, hX_sR, hX_sL, hX_sD, hX_sIa, hX_sRa, hV_sI, hV_sR, hV_sL, hV_sD, hV_sIa, hV_sRa, hX_new, hV_new] at o0 ⊢); omega) (by have o0 := hv; (try simp only [hX_sI, hX_sR, hX_sL, hX_sD, hX_sIa, hX_sRa, hV_sI, hV_sR, hV_sL, hV_sD, hV_sIa, hV_sRa, hX_new, hV_new] at o0 ⊢); omega) hf 
noncomputable def fJ7_copyOf_6403c (v0 : Option Nat) (v1 : Int32) (v2 : Option Nat) (h : PH) : Option (Option Nat × PH) :=
  fJ7_copyOf_6403c_b0 v0 v1 v2 h
set_option maxRecDepth 100000 in
theorem mJ7_copyOf_6403c {v0 : Option Nat} {v1 : Int32} {v2 : Option Nat} {h : PH} {r : (Option Nat × PH)} (hf : fJ7_copyOf_6403c v0 v1 v2 h = some r) : lez h (hX r.2) (hV r.2) := by
  unfold fJ7_copyOf_6403c at hf
  have hle := lez_rf h
  exact lez_rt (mJ7_copyOf_6403c_b0 hf) hle
set_option maxRecDepth 100000 in
theorem wJ7_copyOf_6403c {E : PE} {l : Launch} (hG : Gs E l) {v0 : Option Nat} {v1 : Int32} {v2 : Option Nat} {h : PH} {r : (Option Nat × PH)} (hf : fJ7_copyOf_6403c v0 v1 v2 h = some r) : Ct E l 1 ((hX r.2) - hX h) ((hV r.2) - hV h) yJ7_copyOf_6403c cJ7_copyOf_6403c 4 (some (.array (.object "java/lang/Object"))) [va_rf v0, .int v1, va_rf v2] h (fun v u => v = some (va_rf r.1) ∧ u = r.2) := by
  have hmm := mJ7_copyOf_6403c hf
  refine ct_of hG (by decide) (by simp [lg_sl, cat_rf, cat_r, cat_i, cat_l, cat_d, cat_f]) ?_
  intro p e s m args below meth c X hnm
  rw [show pargs 0 [va_rf v0, .int v1, va_rf v2] = [(0, some (va_rf v0)), (1, some (.int v1)), (2, some (va_rf v2))] from by simp [pargs, cat_rf, cat_r, cat_i, cat_l, cat_d, cat_f]]
  unfold fJ7_copyOf_6403c at hf
  have hM := Nat.sub_add_cancel hmm.1
  have hN := Nat.sub_add_cancel hmm.2
  refine p_pick [0, 1, 2] ?_
  exact wJ7_copyOf_6403c_b0 X hG hnm hM hN (Nat.zero_add _) (Nat.zero_add _) hf
theorem dc_J7_copyOf_1904c : decs cJ7_copyOf_1904c [(0, .aload_n 0, 1), (1, .iload_n 1, 1), (2, .aload_n 0, 1), (3, .invokevirtual 86, 3), (6, .invokestatic 300, 3), (9, .areturn, 1)] = true := by decide +kernel
noncomputable def fJ7_copyOf_1904c_b9 (t0 : Option Nat) (h : PH) : Option (Option Nat × PH) :=
  some ((t0, h))
set_option maxRecDepth 100000 in
theorem mJ7_copyOf_1904c_b9 {t0 : Option Nat} {h : PH} {r : (Option Nat × PH)} (hf : fJ7_copyOf_1904c_b9 t0 h = some r) : lez h (hX r.2) (hV r.2) := by
  unfold fJ7_copyOf_1904c_b9 at hf
  have hle := lez_rf h
  have ee := Option.some.inj hf; subst ee; exact hle
set_option maxRecDepth 100000 in
theorem wJ7_copyOf_1904c_b9 {E : PE} {p : Program} {l : Launch} {e : Env} {s : State} {m : MethodId} {args : Array Value} {below : List Frame} {meth : Method} {c : Code} {X0 V0 MC MS uc us : Nat} (X : Cx E p l e (rmv 2 MC MS) s m args below meth c RJ7 cJ7_copyOf_1904c 2 (some (.array (.object "java/lang/Object")))) (hG : Gs E l) (hnm : meth.name = yJ7_copyOf_1904c.name) {t0 : Option Nat} {h : PH} {r : (Option Nat × PH)} (hM : MC + X0 = (hX r.2)) (hN : MS + V0 = (hV r.2)) (hu : uc + X0 = hX h) (hv : us + V0 = hV h) (hf : fJ7_copyOf_1904c_b9 t0 h = some r)  : PW E p l e (rmv 2 MC MS) s m args below meth c 2 uc us (MQ below (QG E (fun v u => v = some (va_rf r.1) ∧ u = r.2)) args s MC MS (pA E)) h 9 [] [va_rf t0] := by
  have hm1 : lez h (hX r.2) (hV r.2) := mJ7_copyOf_1904c_b9 hf
  have hcm : uc ≤ MC := (by have o0 := hm1.1; have o1 := hM; have o2 := hu; (try simp only [hX_sI, hX_sR, hX_sL, hX_sD, hX_sIa, hX_sRa, hV_sI, hV_sR, hV_sL, hV_sD, hV_sIa, hV_sRa, hX_new, hV_new] at o0 o1 o2 ⊢); omega)
  have hsm : us ≤ MS := (by have o0 := hm1.2; have o1 := hN; have o2 := hv; (try simp only [hX_sI, hX_sR, hX_sL, hX_sD, hX_sIa, hX_sRa, hV_sI, hV_sR, hV_sL, hV_sD, hV_sIa, hV_sRa, hX_new, hV_new] at o0 o1 o2 ⊢); omega)
  clear hm1
  unfold fJ7_copyOf_1904c_b9 at hf
  have er := Option.some.inj hf
  subst er
  exact p_aret X rfl (Or.inr ⟨_, rfl⟩) (dcg dc_J7_copyOf_1904c 5 rfl) ⟨rfl, rfl⟩ hcm hsm
noncomputable def fJ7_copyOf_1904c_b0 (v0 : Option Nat) (v1 : Int32) (h : PH) : Option (Option Nat × PH) :=
  gs v0 (fun a1 =>
  gd (hK h a1 = 28 ∧ hN h a1 ≠ 0) (bd (fJ7_copyOf_6403c (some a1) v1 (some 7) h) (fun z4 =>
  fJ7_copyOf_1904c_b9 z4.1 z4.2)))
set_option maxRecDepth 100000 in
theorem mJ7_copyOf_1904c_b0 {v0 : Option Nat} {v1 : Int32} {h : PH} {r : (Option Nat × PH)} (hf : fJ7_copyOf_1904c_b0 v0 v1 h = some r) : lez h (hX r.2) (hV r.2) := by
  unfold fJ7_copyOf_1904c_b0 at hf
  have hle := lez_rf h
  obtain ⟨a1, e2, hf⟩ := gs_some hf
  obtain ⟨hg3, hf⟩ := gd_some hf
  obtain ⟨z4, hz4, hf⟩ := bd_some hf
  have hle := lez_rt (mJ7_copyOf_6403c hz4) hle
  exact lez_rt (mJ7_copyOf_1904c_b9 hf) hle
set_option maxRecDepth 100000 in
theorem wJ7_copyOf_1904c_b0 {E : PE} {p : Program} {l : Launch} {e : Env} {s : State} {m : MethodId} {args : Array Value} {below : List Frame} {meth : Method} {c : Code} {X0 V0 MC MS uc us : Nat} (X : Cx E p l e (rmv 2 MC MS) s m args below meth c RJ7 cJ7_copyOf_1904c 2 (some (.array (.object "java/lang/Object")))) (hG : Gs E l) (hnm : meth.name = yJ7_copyOf_1904c.name) {v0 : Option Nat} {v1 : Int32} {h : PH} {r : (Option Nat × PH)} (hM : MC + X0 = (hX r.2)) (hN : MS + V0 = (hV r.2)) (hu : uc + X0 = hX h) (hv : us + V0 = hV h) (hf : fJ7_copyOf_1904c_b0 v0 v1 h = some r)  : PW E p l e (rmv 2 MC MS) s m args below meth c 2 uc us (MQ below (QG E (fun v u => v = some (va_rf r.1) ∧ u = r.2)) args s MC MS (pA E)) h 0 [(0, some (va_rf v0)), (1, some (.int v1))] [] := by
  have hm1 : lez h (hX r.2) (hV r.2) := mJ7_copyOf_1904c_b0 hf
  have hcm : uc ≤ MC := (by have o0 := hm1.1; have o1 := hM; have o2 := hu; (try simp only [hX_sI, hX_sR, hX_sL, hX_sD, hX_sIa, hX_sRa, hV_sI, hV_sR, hV_sL, hV_sD, hV_sIa, hV_sRa, hX_new, hV_new] at o0 o1 o2 ⊢); omega)
  have hsm : us ≤ MS := (by have o0 := hm1.2; have o1 := hN; have o2 := hv; (try simp only [hX_sI, hX_sR, hX_sL, hX_sD, hX_sIa, hX_sRa, hV_sI, hV_sR, hV_sL, hV_sD, hV_sIa, hV_sRa, hX_new, hV_new] at o0 o1 o2 ⊢); omega)
  clear hm1
  unfold fJ7_copyOf_1904c_b0 at hf
  refine p_aloadq_n X (dcg dc_J7_copyOf_1904c 0 rfl) rfl rfl ?_
  refine p_iload_n X (dcg dc_J7_copyOf_1904c 1 rfl) rfl rfl ?_
  refine p_aloadq_n X (dcg dc_J7_copyOf_1904c 2 rfl) rfl rfl ?_
  obtain ⟨a1, e2, hf⟩ := gs_some hf
  first | subst e2 | (try rw [e2])
  obtain ⟨hg3, hf⟩ := gd_some hf
  refine p_getC X tw_848 tw_2602 tw_849 tw_874 tl_2603 hg3 (dcg dc_J7_copyOf_1904c 3 rfl) (Nat.le_of_ble_eq_true rfl) (room4 (Nat.le_of_ble_eq_true rfl)) (Nat.le_of_ble_eq_true rfl) ?_
  obtain ⟨z4, hz4, hf⟩ := bd_some hf
  have hc1 := mJ7_copyOf_6403c hz4
  have hm1 : lez _ (hX r.2) (hV r.2) := mJ7_copyOf_1904c_b9 hf
  refine p_callS (As := [va_rf (some _), _, va_rf (some _)]) X ml_J7_300 (dcg dc_J7_copyOf_1904c 4 rfl) rfl rfl  (wJ7_copyOf_6403c hG hz4) (by decide) (room4 (Nat.le_of_ble_eq_true rfl)) (by have o0 := hm1.1; have o1 := hc1.1; have o2 := hM; have o3 := hu; (try simp only [hX_sI, hX_sR, hX_sL, hX_sD, hX_sIa, hX_sRa, hV_sI, hV_sR, hV_sL, hV_sD, hV_sIa, hV_sRa, hX_new, hV_new] at o0 o1 o2 o3 ⊢); omega) (by have o0 := hm1.2; have o1 := hc1.2; have o2 := hN; have o3 := hv; (try simp only [hX_sI, hX_sR, hX_sL, hX_sD, hX_sIa, hX_sRa, hV_sI, hV_sR, hV_sL, hV_sD, hV_sIa, hV_sRa, hX_new, hV_new] at o0 o1 o2 o3 ⊢); omega) ?_
  rintro _ u9 ⟨rfl, e9⟩; have e9 := e9.symm; subst e9
  refine p_pick [] ?_
  exact wJ7_copyOf_1904c_b9 X hG hnm hM hN (by have o0 := hc1.1; have o1 := hu; (try simp only [hX_sI, hX_sR, hX_sL, hX_sD, hX_sIa, hX_sRa, hV_sI, hV_sR, hV_sL, hV_sD, hV_sIa, hV_sRa, hX_new, hV_new] at o0 o1 ⊢); omega) (by have o0 := hc1.2; have o1 := hv; (try simp only [hX_sI, hX_sR, hX_sL, hX_sD, hX_sIa, hX_sRa, hV_sI, hV_sR, hV_sL, hV_sD, hV_sIa, hV_sRa, hX_new, hV_new] at o0 o1 ⊢); omega) hf 
noncomputable def fJ7_copyOf_1904c (v0 : Option Nat) (v1 : Int32) (h : PH) : Option (Option Nat × PH) :=
  fJ7_copyOf_1904c_b0 v0 v1 h
set_option maxRecDepth 100000 in
theorem mJ7_copyOf_1904c {v0 : Option Nat} {v1 : Int32} {h : PH} {r : (Option Nat × PH)} (hf : fJ7_copyOf_1904c v0 v1 h = some r) : lez h (hX r.2) (hV r.2) := by
  unfold fJ7_copyOf_1904c at hf
  have hle := lez_rf h
  exact lez_rt (mJ7_copyOf_1904c_b0 hf) hle
set_option maxRecDepth 100000 in
theorem wJ7_copyOf_1904c {E : PE} {l : Launch} (hG : Gs E l) {v0 : Option Nat} {v1 : Int32} {h : PH} {r : (Option Nat × PH)} (hf : fJ7_copyOf_1904c v0 v1 h = some r) : Ct E l 2 ((hX r.2) - hX h) ((hV r.2) - hV h) yJ7_copyOf_1904c cJ7_copyOf_1904c 2 (some (.array (.object "java/lang/Object"))) [va_rf v0, .int v1] h (fun v u => v = some (va_rf r.1) ∧ u = r.2) := by
  have hmm := mJ7_copyOf_1904c hf
  refine ct_of hG (by decide) (by simp [lg_sl, cat_rf, cat_r, cat_i, cat_l, cat_d, cat_f]) ?_
  intro p e s m args below meth c X hnm
  rw [show pargs 0 [va_rf v0, .int v1] = [(0, some (va_rf v0)), (1, some (.int v1))] from by simp [pargs, cat_rf, cat_r, cat_i, cat_l, cat_d, cat_f]]
  unfold fJ7_copyOf_1904c at hf
  have hM := Nat.sub_add_cancel hmm.1
  have hN := Nat.sub_add_cancel hmm.2
  refine p_pick [0, 1] ?_
  exact wJ7_copyOf_1904c_b0 X hG hnm hM hN (Nat.zero_add _) (Nat.zero_add _) hf
theorem dc_Jx4a65c_grow_92f84 : decs cJx4a65c_grow_92f84 [(0, .aload_n 0, 1), (1, .getfield 9, 3), (4, .arraylength, 1), (5, .istore_n 2, 1), (6, .iload_n 2, 1), (7, .ifCond .gt 13, 3), (10, .aload_n 0, 1), (11, .getfield 9, 3), (14, .getstatic 39, 3), (17, .if_acmp .eq 28, 3), (20, .iload_n 2, 1), (21, .iload_n 1, 1), (22, .iload_n 2, 1), (23, .isub, 1), (24, .iload_n 2, 1), (25, .iconst 1, 1), (26, .ishr, 1), (27, .invokestatic 73, 3), (30, .istore_n 3, 1), (31, .aload_n 0, 1), (32, .aload_n 0, 1), (33, .getfield 9, 3), (36, .iload_n 3, 1), (37, .invokestatic 66, 3), (40, .dup_x1, 1), (41, .putfield 9, 3), (44, .areturn, 1), (45, .aload_n 0, 1), (46, .bipush 10, 2), (48, .iload_n 1, 1), (49, .invokestatic 79, 3), (52, .anewarray 7, 3), (55, .dup_x1, 1), (56, .putfield 9, 3), (59, .areturn, 1)] = true := by decide +kernel
noncomputable def fJx4a65c_grow_92f84_b40 (t0 : Nat) (t1 : Option Nat) (h : PH) : Option (Option Nat × PH) :=
  gd (hK h t0 = 14) (lt (sR h 14 t0 1 t1) (fun h9 =>
  some ((t1, h9))))
set_option maxRecDepth 100000 in
theorem mJx4a65c_grow_92f84_b40 {t0 : Nat} {t1 : Option Nat} {h : PH} {r : (Option Nat × PH)} (hf : fJx4a65c_grow_92f84_b40 t0 t1 h = some r) : lez h (hX r.2) (hV r.2) := by
  unfold fJx4a65c_grow_92f84_b40 at hf
  have hle := lez_rf h
  obtain ⟨hk8, hf⟩ := gd_some hf
  obtain ⟨h9, rfl, hf⟩ := lt_some hf
  have ee := Option.some.inj hf; subst ee; exact hle
set_option maxRecDepth 100000 in
theorem wJx4a65c_grow_92f84_b40 {E : PE} {p : Program} {l : Launch} {e : Env} {s : State} {m : MethodId} {args : Array Value} {below : List Frame} {meth : Method} {c : Code} {X0 V0 MC MS uc us : Nat} (X : Cx E p l e (rmv 3 MC MS) s m args below meth c RJx4a65c cJx4a65c_grow_92f84 4 (some (.array (.object "java/lang/Object")))) (hG : Gs E l) (hnm : meth.name = yJx4a65c_grow_92f84.name) {t0 : Nat} {t1 : Option Nat} {h : PH} {r : (Option Nat × PH)} (hM : MC + X0 = (hX r.2)) (hN : MS + V0 = (hV r.2)) (hu : uc + X0 = hX h) (hv : us + V0 = hV h) (hf : fJx4a65c_grow_92f84_b40 t0 t1 h = some r)  : PW E p l e (rmv 3 MC MS) s m args below meth c 4 uc us (MQ below (QG E (fun v u => v = some (va_rf r.1) ∧ u = r.2)) args s MC MS (pA E)) h 40 [] [va_rf t1, .ref t0] := by
  have hm1 : lez h (hX r.2) (hV r.2) := mJx4a65c_grow_92f84_b40 hf
  have hcm : uc ≤ MC := (by have o0 := hm1.1; have o1 := hM; have o2 := hu; (try simp only [hX_sI, hX_sR, hX_sL, hX_sD, hX_sIa, hX_sRa, hV_sI, hV_sR, hV_sL, hV_sD, hV_sIa, hV_sRa, hX_new, hV_new] at o0 o1 o2 ⊢); omega)
  have hsm : us ≤ MS := (by have o0 := hm1.2; have o1 := hN; have o2 := hv; (try simp only [hX_sI, hX_sR, hX_sL, hX_sD, hX_sIa, hX_sRa, hV_sI, hV_sR, hV_sL, hV_sD, hV_sIa, hV_sRa, hX_new, hV_new] at o0 o1 o2 ⊢); omega)
  clear hm1
  unfold fJx4a65c_grow_92f84_b40 at hf
  refine p_dup_x1 X (dcg dc_Jx4a65c_grow_92f84 24 rfl) (cat_rf _) rfl ?_
  obtain ⟨hk8, hf⟩ := gd_some hf
  refine p_putR X fl_Jx4a65c_9 rfl (by decide) (fun q hq => by cases hq; rfl) (nar_rf _ (by decide)) (fit_rf _ (by decide)) (dcg dc_Jx4a65c_grow_92f84 25 rfl) hk8 ?_
  obtain ⟨h9, rfl, hf⟩ := lt_some hf
  have er := Option.some.inj hf
  subst er
  exact p_aret X rfl (Or.inr ⟨_, rfl⟩) (dcg dc_Jx4a65c_grow_92f84 26 rfl) ⟨rfl, rfl⟩ hcm hsm
noncomputable def fJx4a65c_grow_92f84_b20 (v0 : Nat) (v1 : Int32) (v2 : Int32) (h : PH) : Option (Option Nat × PH) :=
  bd (fJ8_newLength_cabcc v2 (v1 - v2) (v2 >>> ((1 : Int32) &&& 31))) (fun z5 =>
  gd (hK h v0 = 14) (bd (fJ7_copyOf_1904c (hR h 14 v0 1) z5 h) (fun z7 =>
  fJx4a65c_grow_92f84_b40 v0 z7.1 z7.2)))
set_option maxRecDepth 100000 in
theorem mJx4a65c_grow_92f84_b20 {v0 : Nat} {v1 : Int32} {v2 : Int32} {h : PH} {r : (Option Nat × PH)} (hf : fJx4a65c_grow_92f84_b20 v0 v1 v2 h = some r) : lez h (hX r.2) (hV r.2) := by
  unfold fJx4a65c_grow_92f84_b20 at hf
  have hle := lez_rf h
  obtain ⟨z5, hz5, hf⟩ := bd_some hf
  obtain ⟨hk6, hf⟩ := gd_some hf
  obtain ⟨z7, hz7, hf⟩ := bd_some hf
  have hle := lez_rt (mJ7_copyOf_1904c hz7) hle
  exact lez_rt (mJx4a65c_grow_92f84_b40 hf) hle
set_option maxRecDepth 100000 in
theorem wJx4a65c_grow_92f84_b20 {E : PE} {p : Program} {l : Launch} {e : Env} {s : State} {m : MethodId} {args : Array Value} {below : List Frame} {meth : Method} {c : Code} {X0 V0 MC MS uc us : Nat} (X : Cx E p l e (rmv 3 MC MS) s m args below meth c RJx4a65c cJx4a65c_grow_92f84 4 (some (.array (.object "java/lang/Object")))) (hG : Gs E l) (hnm : meth.name = yJx4a65c_grow_92f84.name) {v0 : Nat} {v1 : Int32} {v2 : Int32} {h : PH} {r : (Option Nat × PH)} (hM : MC + X0 = (hX r.2)) (hN : MS + V0 = (hV r.2)) (hu : uc + X0 = hX h) (hv : us + V0 = hV h) (hf : fJx4a65c_grow_92f84_b20 v0 v1 v2 h = some r)  : PW E p l e (rmv 3 MC MS) s m args below meth c 4 uc us (MQ below (QG E (fun v u => v = some (va_rf r.1) ∧ u = r.2)) args s MC MS (pA E)) h 20 [(0, some (.ref v0)), (1, some (.int v1)), (2, some (.int v2))] [] := by
  have hm1 : lez h (hX r.2) (hV r.2) := mJx4a65c_grow_92f84_b20 hf
  have hcm : uc ≤ MC := (by have o0 := hm1.1; have o1 := hM; have o2 := hu; (try simp only [hX_sI, hX_sR, hX_sL, hX_sD, hX_sIa, hX_sRa, hV_sI, hV_sR, hV_sL, hV_sD, hV_sIa, hV_sRa, hX_new, hV_new] at o0 o1 o2 ⊢); omega)
  have hsm : us ≤ MS := (by have o0 := hm1.2; have o1 := hN; have o2 := hv; (try simp only [hX_sI, hX_sR, hX_sL, hX_sD, hX_sIa, hX_sRa, hV_sI, hV_sR, hV_sL, hV_sD, hV_sIa, hV_sRa, hX_new, hV_new] at o0 o1 o2 ⊢); omega)
  clear hm1
  unfold fJx4a65c_grow_92f84_b20 at hf
  refine p_iload_n X (dcg dc_Jx4a65c_grow_92f84 10 rfl) rfl rfl ?_
  refine p_iload_n X (dcg dc_Jx4a65c_grow_92f84 11 rfl) rfl rfl ?_
  refine p_iload_n X (dcg dc_Jx4a65c_grow_92f84 12 rfl) rfl rfl ?_
  refine p_isub X (dcg dc_Jx4a65c_grow_92f84 13 rfl) ?_
  refine p_iload_n X (dcg dc_Jx4a65c_grow_92f84 14 rfl) rfl rfl ?_
  refine p_iconst (v := 1) X (dcg dc_Jx4a65c_grow_92f84 15 rfl) (by decide) ?_
  refine p_ishr X (dcg dc_Jx4a65c_grow_92f84 16 rfl) ?_
  obtain ⟨z5, hz5, hf⟩ := bd_some hf
  refine p_callS (As := [_, _, _]) X ml_Jx4a65c_73 (dcg dc_Jx4a65c_grow_92f84 17 rfl) rfl rfl  (wJ8_newLength_cabcc hG hz5) (by decide) (room4 (Nat.le_of_ble_eq_true rfl)) hcm hsm ?_
  rintro _ u9 ⟨rfl, e9⟩; have e9 := e9.symm; subst e9
  refine p_istore_n X (dcg dc_Jx4a65c_grow_92f84 18 rfl) rfl (by decide) rfl ?_
  refine p_aload_n X (dcg dc_Jx4a65c_grow_92f84 19 rfl) rfl rfl ?_
  refine p_aload_n X (dcg dc_Jx4a65c_grow_92f84 20 rfl) rfl rfl ?_
  obtain ⟨hk6, hf⟩ := gd_some hf
  refine p_getR X fl_Jx4a65c_9 rfl (by decide) (dcg dc_Jx4a65c_grow_92f84 21 rfl) hk6 ?_
  refine p_iload_n X (dcg dc_Jx4a65c_grow_92f84 22 rfl) rfl rfl ?_
  obtain ⟨z7, hz7, hf⟩ := bd_some hf
  have hc1 := mJ7_copyOf_1904c hz7
  have hm1 : lez _ (hX r.2) (hV r.2) := mJx4a65c_grow_92f84_b40 hf
  refine p_callS (As := [va_rf _, _]) X ml_Jx4a65c_66 (dcg dc_Jx4a65c_grow_92f84 23 rfl) rfl rfl  (wJ7_copyOf_1904c hG hz7) (by decide) (room4 (Nat.le_of_ble_eq_true rfl)) (by have o0 := hm1.1; have o1 := hc1.1; have o2 := hM; have o3 := hu; (try simp only [hX_sI, hX_sR, hX_sL, hX_sD, hX_sIa, hX_sRa, hV_sI, hV_sR, hV_sL, hV_sD, hV_sIa, hV_sRa, hX_new, hV_new] at o0 o1 o2 o3 ⊢); omega) (by have o0 := hm1.2; have o1 := hc1.2; have o2 := hN; have o3 := hv; (try simp only [hX_sI, hX_sR, hX_sL, hX_sD, hX_sIa, hX_sRa, hV_sI, hV_sR, hV_sL, hV_sD, hV_sIa, hV_sRa, hX_new, hV_new] at o0 o1 o2 o3 ⊢); omega) ?_
  rintro _ u9 ⟨rfl, e9⟩; have e9 := e9.symm; subst e9
  refine p_pick [] ?_
  exact wJx4a65c_grow_92f84_b40 X hG hnm hM hN (by have o0 := hc1.1; have o1 := hu; (try simp only [hX_sI, hX_sR, hX_sL, hX_sD, hX_sIa, hX_sRa, hV_sI, hV_sR, hV_sL, hV_sD, hV_sIa, hV_sRa, hX_new, hV_new] at o0 o1 ⊢); omega) (by have o0 := hc1.2; have o1 := hv; (try simp only [hX_sI, hX_sR, hX_sL, hX_sD, hX_sIa, hX_sRa, hV_sI, hV_sR, hV_sL, hV_sD, hV_sIa, hV_sRa, hX_new, hV_new] at o0 o1 ⊢); omega) hf 
noncomputable def fJx4a65c_grow_92f84_b55 (t0 : Nat) (t1 : Nat) (h : PH) : Option (Option Nat × PH) :=
  gd (hK h t0 = 14) (lt (sR h 14 t0 1 (some t1)) (fun h13 =>
  some (((some t1), h13))))
set_option maxRecDepth 100000 in
theorem mJx4a65c_grow_92f84_b55 {t0 : Nat} {t1 : Nat} {h : PH} {r : (Option Nat × PH)} (hf : fJx4a65c_grow_92f84_b55 t0 t1 h = some r) : lez h (hX r.2) (hV r.2) := by
  unfold fJx4a65c_grow_92f84_b55 at hf
  have hle := lez_rf h
  obtain ⟨hk12, hf⟩ := gd_some hf
  obtain ⟨h13, rfl, hf⟩ := lt_some hf
  have ee := Option.some.inj hf; subst ee; exact hle
set_option maxRecDepth 100000 in
theorem wJx4a65c_grow_92f84_b55 {E : PE} {p : Program} {l : Launch} {e : Env} {s : State} {m : MethodId} {args : Array Value} {below : List Frame} {meth : Method} {c : Code} {X0 V0 MC MS uc us : Nat} (X : Cx E p l e (rmv 3 MC MS) s m args below meth c RJx4a65c cJx4a65c_grow_92f84 4 (some (.array (.object "java/lang/Object")))) (hG : Gs E l) (hnm : meth.name = yJx4a65c_grow_92f84.name) {t0 : Nat} {t1 : Nat} {h : PH} {r : (Option Nat × PH)} (hM : MC + X0 = (hX r.2)) (hN : MS + V0 = (hV r.2)) (hu : uc + X0 = hX h) (hv : us + V0 = hV h) (hf : fJx4a65c_grow_92f84_b55 t0 t1 h = some r)  : PW E p l e (rmv 3 MC MS) s m args below meth c 4 uc us (MQ below (QG E (fun v u => v = some (va_rf r.1) ∧ u = r.2)) args s MC MS (pA E)) h 55 [] [.ref t1, .ref t0] := by
  have hm1 : lez h (hX r.2) (hV r.2) := mJx4a65c_grow_92f84_b55 hf
  have hcm : uc ≤ MC := (by have o0 := hm1.1; have o1 := hM; have o2 := hu; (try simp only [hX_sI, hX_sR, hX_sL, hX_sD, hX_sIa, hX_sRa, hV_sI, hV_sR, hV_sL, hV_sD, hV_sIa, hV_sRa, hX_new, hV_new] at o0 o1 o2 ⊢); omega)
  have hsm : us ≤ MS := (by have o0 := hm1.2; have o1 := hN; have o2 := hv; (try simp only [hX_sI, hX_sR, hX_sL, hX_sD, hX_sIa, hX_sRa, hV_sI, hV_sR, hV_sL, hV_sD, hV_sIa, hV_sRa, hX_new, hV_new] at o0 o1 o2 ⊢); omega)
  clear hm1
  unfold fJx4a65c_grow_92f84_b55 at hf
  refine p_dup_x1 X (dcg dc_Jx4a65c_grow_92f84 32 rfl) rfl rfl ?_
  obtain ⟨hk12, hf⟩ := gd_some hf
  refine p_putR (v := some _) X fl_Jx4a65c_9 rfl (by decide) (fun q hq => by cases hq; rfl) (nar_rf _ (by decide)) (fit_rf _ (by decide)) (dcg dc_Jx4a65c_grow_92f84 33 rfl) hk12 ?_
  obtain ⟨h13, rfl, hf⟩ := lt_some hf
  have er := Option.some.inj hf
  subst er
  exact p_aret (r := some _) X rfl (Or.inr ⟨_, rfl⟩) (dcg dc_Jx4a65c_grow_92f84 34 rfl) ⟨rfl, rfl⟩ hcm hsm
noncomputable def fJx4a65c_grow_92f84_b0 (v0 : Nat) (v1 : Int32) (h : PH) : Option (Option Nat × PH) :=
  gd (hK h v0 = 14) (gs (hR h 14 v0 1) (fun a2 =>
  gd (hK h a2 = 28) (if (0 < (nI (hN h a2))) then (fJx4a65c_grow_92f84_b20 v0 v1 (nI (hN h a2)) h) else
  gd (acg (hR h 14 v0 1) (some 3) = true) (if ((hR h 14 v0 1) = (some 3)) then (gd (¬ (if (10 : Int32) < v1 then v1 else (10 : Int32)) < 0 ∧ (Int32.toNatClampNeg (if (10 : Int32) < v1 then v1 else (10 : Int32))) ≤ 1000000) (fJx4a65c_grow_92f84_b55 v0 (hX h) (hnew h 28 (Int32.toNatClampNeg (if (10 : Int32) < v1 then v1 else (10 : Int32)))))) else
  fJx4a65c_grow_92f84_b20 v0 v1 (nI (hN h a2)) h))))
set_option maxRecDepth 100000 in
theorem mJx4a65c_grow_92f84_b0 {v0 : Nat} {v1 : Int32} {h : PH} {r : (Option Nat × PH)} (hf : fJx4a65c_grow_92f84_b0 v0 v1 h = some r) : lez h (hX r.2) (hV r.2) := by
  unfold fJx4a65c_grow_92f84_b0 at hf
  have hle := lez_rf h
  obtain ⟨hk1, hf⟩ := gd_some hf
  obtain ⟨a2, e3, hf⟩ := gs_some hf
  obtain ⟨hk4, hf⟩ := gd_some hf
  rcases ite_or hf with ⟨q, hf⟩ | ⟨q, hf⟩
  · have hf := if_t q hf
    exact lez_rt (mJx4a65c_grow_92f84_b20 hf) hle
  · have hf := if_f q hf
    obtain ⟨hg10, hf⟩ := gd_some hf
    rcases ite_or hf with ⟨q, hf⟩ | ⟨q, hf⟩
    · have hf := if_t q hf
      obtain ⟨hg11, hf⟩ := gd_some hf
      have hle := lez_nw (c := 28) (n := (Int32.toNatClampNeg (if (10 : Int32) < v1 then v1 else (10 : Int32)))) hle
      exact lez_rt (mJx4a65c_grow_92f84_b55 hf) hle
    · have hf := if_f q hf
      exact lez_rt (mJx4a65c_grow_92f84_b20 hf) hle
set_option maxRecDepth 100000 in
theorem wJx4a65c_grow_92f84_b0 {E : PE} {p : Program} {l : Launch} {e : Env} {s : State} {m : MethodId} {args : Array Value} {below : List Frame} {meth : Method} {c : Code} {X0 V0 MC MS uc us : Nat} (X : Cx E p l e (rmv 3 MC MS) s m args below meth c RJx4a65c cJx4a65c_grow_92f84 4 (some (.array (.object "java/lang/Object")))) (hG : Gs E l) (hnm : meth.name = yJx4a65c_grow_92f84.name) {v0 : Nat} {v1 : Int32} {h : PH} {r : (Option Nat × PH)} (hM : MC + X0 = (hX r.2)) (hN : MS + V0 = (hV r.2)) (hu : uc + X0 = hX h) (hv : us + V0 = hV h) (hf : fJx4a65c_grow_92f84_b0 v0 v1 h = some r)  : PW E p l e (rmv 3 MC MS) s m args below meth c 4 uc us (MQ below (QG E (fun v u => v = some (va_rf r.1) ∧ u = r.2)) args s MC MS (pA E)) h 0 [(0, some (.ref v0)), (1, some (.int v1))] [] := by
  have hm1 : lez h (hX r.2) (hV r.2) := mJx4a65c_grow_92f84_b0 hf
  have hcm : uc ≤ MC := (by have o0 := hm1.1; have o1 := hM; have o2 := hu; (try simp only [hX_sI, hX_sR, hX_sL, hX_sD, hX_sIa, hX_sRa, hV_sI, hV_sR, hV_sL, hV_sD, hV_sIa, hV_sRa, hX_new, hV_new] at o0 o1 o2 ⊢); omega)
  have hsm : us ≤ MS := (by have o0 := hm1.2; have o1 := hN; have o2 := hv; (try simp only [hX_sI, hX_sR, hX_sL, hX_sD, hX_sIa, hX_sRa, hV_sI, hV_sR, hV_sL, hV_sD, hV_sIa, hV_sRa, hX_new, hV_new] at o0 o1 o2 ⊢); omega)
  clear hm1
  unfold fJx4a65c_grow_92f84_b0 at hf
  refine p_aload_n X (dcg dc_Jx4a65c_grow_92f84 0 rfl) rfl rfl ?_
  obtain ⟨hk1, hf⟩ := gd_some hf
  refine p_getR X fl_Jx4a65c_9 rfl (by decide) (dcg dc_Jx4a65c_grow_92f84 1 rfl) hk1 ?_
  obtain ⟨a2, e3, hf⟩ := gs_some hf
  first | subst e3 | (try rw [e3])
  obtain ⟨hk4, hf⟩ := gd_some hf
  refine p_alen28 X (dcg dc_Jx4a65c_grow_92f84 2 rfl) hk4 ?_
  refine p_istore_n X (dcg dc_Jx4a65c_grow_92f84 3 rfl) rfl (by decide) rfl ?_
  refine p_iload_n X (dcg dc_Jx4a65c_grow_92f84 4 rfl) rfl rfl ?_
  refine p_if_gt (tgt := 20) X (dcg dc_Jx4a65c_grow_92f84 5 rfl) (by decide) (fun q => ?_) (fun q => ?_)
  · have hf := if_t q hf
    refine p_pick [0, 1, 2] ?_
    exact wJx4a65c_grow_92f84_b20 X hG hnm hM hN hu hv hf 
  · have hf := if_f q hf
    refine p_aload_n X (dcg dc_Jx4a65c_grow_92f84 6 rfl) rfl rfl ?_
    refine p_getR X fl_Jx4a65c_9 rfl (by decide) (dcg dc_Jx4a65c_grow_92f84 7 rfl) hk1 ?_
    refine p_gets (v := .ref 3) X (gz_emp hG) tw_220 (dcg dc_Jx4a65c_grow_92f84 8 rfl) ?_
    obtain ⟨hg10, hf⟩ := gd_some hf
    refine p_acmp_eq (rx := _) (ry := some _) (tgt := 45) X hg10 (dcg dc_Jx4a65c_grow_92f84 9 rfl) (by decide) (fun q => ?_) (fun q => ?_)
    · have hf := if_t q hf
      refine p_aload_n X (dcg dc_Jx4a65c_grow_92f84 27 rfl) rfl rfl ?_
      refine p_bipush (v := 10) X (dcg dc_Jx4a65c_grow_92f84 28 rfl) (by decide) ?_
      refine p_iload_n X (dcg dc_Jx4a65c_grow_92f84 29 rfl) rfl rfl ?_
      refine p_mmax X tw_881 tw_445 tw_123 tw_446 (dcg dc_Jx4a65c_grow_92f84 30 rfl) (Nat.le_of_ble_eq_true rfl) (Nat.le_trans (Nat.add_le_add_right (room4 (Nat.le_of_ble_eq_true rfl)) 13) (Nat.le_of_ble_eq_true rfl)) hcm hsm (fun ls hl => X.2.2.1.trans hl.1.symm) ?_
      obtain ⟨hg11, hf⟩ := gd_some hf
      have hm1 : lez _ (hX r.2) (hV r.2) := mJx4a65c_grow_92f84_b55 hf
      have hm2 := lez_new hm1
      refine p_newq28 X tw_882 tl_879 (dcg dc_Jx4a65c_grow_92f84 31 rfl) hg11.1 hg11.2 (show uc + 1 ≤ MC from (by have o0 := hm2.1; have o1 := hM; have o2 := hu; (try simp only [hX_sI, hX_sR, hX_sL, hX_sD, hX_sIa, hX_sRa, hV_sI, hV_sR, hV_sL, hV_sD, hV_sIa, hV_sRa, hX_new, hV_new] at o0 o1 o2 ⊢); omega)) (show us + (Int32.toNatClampNeg (if (10 : Int32) < v1 then v1 else (10 : Int32))) ≤ MS from (by have o0 := hm2.2; have o1 := hN; have o2 := hv; (try simp only [hX_sI, hX_sR, hX_sL, hX_sD, hX_sIa, hX_sRa, hV_sI, hV_sR, hV_sL, hV_sD, hV_sIa, hV_sRa, hX_new, hV_new] at o0 o1 o2 ⊢); omega)) ?_
      refine p_pick [] ?_
      exact wJx4a65c_grow_92f84_b55 X hG hnm hM hN (by have o0 := hu; (try simp only [hX_sI, hX_sR, hX_sL, hX_sD, hX_sIa, hX_sRa, hV_sI, hV_sR, hV_sL, hV_sD, hV_sIa, hV_sRa, hX_new, hV_new] at o0 ⊢); omega) (by have o0 := hv; (try simp only [hX_sI, hX_sR, hX_sL, hX_sD, hX_sIa, hX_sRa, hV_sI, hV_sR, hV_sL, hV_sD, hV_sIa, hV_sRa, hX_new, hV_new] at o0 ⊢); omega) hf 
    · have hf := if_f q hf
      refine p_pick [0, 1, 2] ?_
      exact wJx4a65c_grow_92f84_b20 X hG hnm hM hN hu hv hf 
noncomputable def fJx4a65c_grow_92f84 (v0 : Nat) (v1 : Int32) (h : PH) : Option (Option Nat × PH) :=
  fJx4a65c_grow_92f84_b0 v0 v1 h
set_option maxRecDepth 100000 in
theorem mJx4a65c_grow_92f84 {v0 : Nat} {v1 : Int32} {h : PH} {r : (Option Nat × PH)} (hf : fJx4a65c_grow_92f84 v0 v1 h = some r) : lez h (hX r.2) (hV r.2) := by
  unfold fJx4a65c_grow_92f84 at hf
  have hle := lez_rf h
  exact lez_rt (mJx4a65c_grow_92f84_b0 hf) hle
set_option maxRecDepth 100000 in
theorem wJx4a65c_grow_92f84 {E : PE} {l : Launch} (hG : Gs E l) {v0 : Nat} {v1 : Int32} {h : PH} {r : (Option Nat × PH)} (hf : fJx4a65c_grow_92f84 v0 v1 h = some r) : Ct E l 3 ((hX r.2) - hX h) ((hV r.2) - hV h) yJx4a65c_grow_92f84 cJx4a65c_grow_92f84 4 (some (.array (.object "java/lang/Object"))) [.ref v0, .int v1] h (fun v u => v = some (va_rf r.1) ∧ u = r.2) := by
  have hmm := mJx4a65c_grow_92f84 hf
  refine ct_of hG (by decide) (Nat.le_of_ble_eq_true rfl) ?_
  intro p e s m args below meth c X hnm
  show PW E p l e _ s m args below meth c _ 0 0 _ h 0 [(0, some (.ref v0)), (1, some (.int v1))] []
  unfold fJx4a65c_grow_92f84 at hf
  have hM := Nat.sub_add_cancel hmm.1
  have hN := Nat.sub_add_cancel hmm.2
  refine p_pick [0, 1] ?_
  exact wJx4a65c_grow_92f84_b0 X hG hnm hM hN (Nat.zero_add _) (Nat.zero_add _) hf
theorem dc_Jx4a65c_grow_d5877 : decs cJx4a65c_grow_d5877 [(0, .aload_n 0, 1), (1, .aload_n 0, 1), (2, .getfield 48, 3), (5, .iconst 1, 1), (6, .iadd, 1), (7, .invokevirtual 69, 3), (10, .areturn, 1)] = true := by decide +kernel
noncomputable def fJx4a65c_grow_d5877_b10 (t0 : Option Nat) (h : PH) : Option (Option Nat × PH) :=
  some ((t0, h))
set_option maxRecDepth 100000 in
theorem mJx4a65c_grow_d5877_b10 {t0 : Option Nat} {h : PH} {r : (Option Nat × PH)} (hf : fJx4a65c_grow_d5877_b10 t0 h = some r) : lez h (hX r.2) (hV r.2) := by
  unfold fJx4a65c_grow_d5877_b10 at hf
  have hle := lez_rf h
  have ee := Option.some.inj hf; subst ee; exact hle
set_option maxRecDepth 100000 in
theorem wJx4a65c_grow_d5877_b10 {E : PE} {p : Program} {l : Launch} {e : Env} {s : State} {m : MethodId} {args : Array Value} {below : List Frame} {meth : Method} {c : Code} {X0 V0 MC MS uc us : Nat} (X : Cx E p l e (rmv 4 MC MS) s m args below meth c RJx4a65c cJx4a65c_grow_d5877 1 (some (.array (.object "java/lang/Object")))) (hG : Gs E l) (hnm : meth.name = yJx4a65c_grow_d5877.name) {t0 : Option Nat} {h : PH} {r : (Option Nat × PH)} (hM : MC + X0 = (hX r.2)) (hN : MS + V0 = (hV r.2)) (hu : uc + X0 = hX h) (hv : us + V0 = hV h) (hf : fJx4a65c_grow_d5877_b10 t0 h = some r)  : PW E p l e (rmv 4 MC MS) s m args below meth c 1 uc us (MQ below (QG E (fun v u => v = some (va_rf r.1) ∧ u = r.2)) args s MC MS (pA E)) h 10 [] [va_rf t0] := by
  have hm1 : lez h (hX r.2) (hV r.2) := mJx4a65c_grow_d5877_b10 hf
  have hcm : uc ≤ MC := (by have o0 := hm1.1; have o1 := hM; have o2 := hu; (try simp only [hX_sI, hX_sR, hX_sL, hX_sD, hX_sIa, hX_sRa, hV_sI, hV_sR, hV_sL, hV_sD, hV_sIa, hV_sRa, hX_new, hV_new] at o0 o1 o2 ⊢); omega)
  have hsm : us ≤ MS := (by have o0 := hm1.2; have o1 := hN; have o2 := hv; (try simp only [hX_sI, hX_sR, hX_sL, hX_sD, hX_sIa, hX_sRa, hV_sI, hV_sR, hV_sL, hV_sD, hV_sIa, hV_sRa, hX_new, hV_new] at o0 o1 o2 ⊢); omega)
  clear hm1
  unfold fJx4a65c_grow_d5877_b10 at hf
  have er := Option.some.inj hf
  subst er
  exact p_aret X rfl (Or.inr ⟨_, rfl⟩) (dcg dc_Jx4a65c_grow_d5877 6 rfl) ⟨rfl, rfl⟩ hcm hsm
noncomputable def fJx4a65c_grow_d5877_b0 (v0 : Nat) (h : PH) : Option (Option Nat × PH) :=
  gd (hK h v0 = 14) (bd (fJx4a65c_grow_92f84 v0 ((hI h 14 v0 2) + (1 : Int32)) h) (fun z2 =>
  fJx4a65c_grow_d5877_b10 z2.1 z2.2))
set_option maxRecDepth 100000 in
theorem mJx4a65c_grow_d5877_b0 {v0 : Nat} {h : PH} {r : (Option Nat × PH)} (hf : fJx4a65c_grow_d5877_b0 v0 h = some r) : lez h (hX r.2) (hV r.2) := by
  unfold fJx4a65c_grow_d5877_b0 at hf
  have hle := lez_rf h
  obtain ⟨hk1, hf⟩ := gd_some hf
  obtain ⟨z2, hz2, hf⟩ := bd_some hf
  have hle := lez_rt (mJx4a65c_grow_92f84 hz2) hle
  exact lez_rt (mJx4a65c_grow_d5877_b10 hf) hle
set_option maxRecDepth 100000 in
theorem wJx4a65c_grow_d5877_b0 {E : PE} {p : Program} {l : Launch} {e : Env} {s : State} {m : MethodId} {args : Array Value} {below : List Frame} {meth : Method} {c : Code} {X0 V0 MC MS uc us : Nat} (X : Cx E p l e (rmv 4 MC MS) s m args below meth c RJx4a65c cJx4a65c_grow_d5877 1 (some (.array (.object "java/lang/Object")))) (hG : Gs E l) (hnm : meth.name = yJx4a65c_grow_d5877.name) {v0 : Nat} {h : PH} {r : (Option Nat × PH)} (hM : MC + X0 = (hX r.2)) (hN : MS + V0 = (hV r.2)) (hu : uc + X0 = hX h) (hv : us + V0 = hV h) (hf : fJx4a65c_grow_d5877_b0 v0 h = some r)  : PW E p l e (rmv 4 MC MS) s m args below meth c 1 uc us (MQ below (QG E (fun v u => v = some (va_rf r.1) ∧ u = r.2)) args s MC MS (pA E)) h 0 [(0, some (.ref v0))] [] := by
  have hm1 : lez h (hX r.2) (hV r.2) := mJx4a65c_grow_d5877_b0 hf
  have hcm : uc ≤ MC := (by have o0 := hm1.1; have o1 := hM; have o2 := hu; (try simp only [hX_sI, hX_sR, hX_sL, hX_sD, hX_sIa, hX_sRa, hV_sI, hV_sR, hV_sL, hV_sD, hV_sIa, hV_sRa, hX_new, hV_new] at o0 o1 o2 ⊢); omega)
  have hsm : us ≤ MS := (by have o0 := hm1.2; have o1 := hN; have o2 := hv; (try simp only [hX_sI, hX_sR, hX_sL, hX_sD, hX_sIa, hX_sRa, hV_sI, hV_sR, hV_sL, hV_sD, hV_sIa, hV_sRa, hX_new, hV_new] at o0 o1 o2 ⊢); omega)
  clear hm1
  unfold fJx4a65c_grow_d5877_b0 at hf
  refine p_aload_n X (dcg dc_Jx4a65c_grow_d5877 0 rfl) rfl rfl ?_
  refine p_aload_n X (dcg dc_Jx4a65c_grow_d5877 1 rfl) rfl rfl ?_
  obtain ⟨hk1, hf⟩ := gd_some hf
  refine p_getI X fl_Jx4a65c_48 rfl (by decide) (dcg dc_Jx4a65c_grow_d5877 2 rfl) hk1 ?_
  refine p_iconst (v := 1) X (dcg dc_Jx4a65c_grow_d5877 3 rfl) (by decide) ?_
  refine p_iadd X (dcg dc_Jx4a65c_grow_d5877 4 rfl) ?_
  obtain ⟨z2, hz2, hf⟩ := bd_some hf
  have hc1 := mJx4a65c_grow_92f84 hz2
  have hm1 : lez _ (hX r.2) (hV r.2) := mJx4a65c_grow_d5877_b10 hf
  refine p_callV (As := [_]) X ml_Jx4a65c_69 (dcg dc_Jx4a65c_grow_d5877 5 rfl) rfl rfl hk1 (wJx4a65c_grow_92f84 hG hz2) (by decide) (room4 (Nat.le_of_ble_eq_true rfl)) (by have o0 := hm1.1; have o1 := hc1.1; have o2 := hM; have o3 := hu; (try simp only [hX_sI, hX_sR, hX_sL, hX_sD, hX_sIa, hX_sRa, hV_sI, hV_sR, hV_sL, hV_sD, hV_sIa, hV_sRa, hX_new, hV_new] at o0 o1 o2 o3 ⊢); omega) (by have o0 := hm1.2; have o1 := hc1.2; have o2 := hN; have o3 := hv; (try simp only [hX_sI, hX_sR, hX_sL, hX_sD, hX_sIa, hX_sRa, hV_sI, hV_sR, hV_sL, hV_sD, hV_sIa, hV_sRa, hX_new, hV_new] at o0 o1 o2 o3 ⊢); omega) ?_
  rintro _ u9 ⟨rfl, e9⟩; have e9 := e9.symm; subst e9
  refine p_pick [] ?_
  exact wJx4a65c_grow_d5877_b10 X hG hnm hM hN (by have o0 := hc1.1; have o1 := hu; (try simp only [hX_sI, hX_sR, hX_sL, hX_sD, hX_sIa, hX_sRa, hV_sI, hV_sR, hV_sL, hV_sD, hV_sIa, hV_sRa, hX_new, hV_new] at o0 o1 ⊢); omega) (by have o0 := hc1.2; have o1 := hv; (try simp only [hX_sI, hX_sR, hX_sL, hX_sD, hX_sIa, hX_sRa, hV_sI, hV_sR, hV_sL, hV_sD, hV_sIa, hV_sRa, hX_new, hV_new] at o0 o1 ⊢); omega) hf 
noncomputable def fJx4a65c_grow_d5877 (v0 : Nat) (h : PH) : Option (Option Nat × PH) :=
  fJx4a65c_grow_d5877_b0 v0 h
set_option maxRecDepth 100000 in
theorem mJx4a65c_grow_d5877 {v0 : Nat} {h : PH} {r : (Option Nat × PH)} (hf : fJx4a65c_grow_d5877 v0 h = some r) : lez h (hX r.2) (hV r.2) := by
  unfold fJx4a65c_grow_d5877 at hf
  have hle := lez_rf h
  exact lez_rt (mJx4a65c_grow_d5877_b0 hf) hle
set_option maxRecDepth 100000 in
theorem wJx4a65c_grow_d5877 {E : PE} {l : Launch} (hG : Gs E l) {v0 : Nat} {h : PH} {r : (Option Nat × PH)} (hf : fJx4a65c_grow_d5877 v0 h = some r) : Ct E l 4 ((hX r.2) - hX h) ((hV r.2) - hV h) yJx4a65c_grow_d5877 cJx4a65c_grow_d5877 1 (some (.array (.object "java/lang/Object"))) [.ref v0] h (fun v u => v = some (va_rf r.1) ∧ u = r.2) := by
  have hmm := mJx4a65c_grow_d5877 hf
  refine ct_of hG (by decide) (Nat.le_of_ble_eq_true rfl) ?_
  intro p e s m args below meth c X hnm
  show PW E p l e _ s m args below meth c _ 0 0 _ h 0 [(0, some (.ref v0))] []
  unfold fJx4a65c_grow_d5877 at hf
  have hM := Nat.sub_add_cancel hmm.1
  have hN := Nat.sub_add_cancel hmm.2
  refine p_pick [0] ?_
  exact wJx4a65c_grow_d5877_b0 X hG hnm hM hN (Nat.zero_add _) (Nat.zero_add _) hf
theorem dc_Jx4a65c_add_7a177 : decs cJx4a65c_add_7a177 [(0, .aload_n 0, 1), (1, .iload_n 1, 1), (2, .invokevirtual 135, 3), (5, .aload_n 0, 1), (6, .dup, 1), (7, .getfield 63, 3), (10, .iconst 1, 1), (11, .iadd, 1), (12, .putfield 63, 3), (15, .aload_n 0, 1), (16, .getfield 48, 3), (19, .dup, 1), (20, .istore_n 3, 1), (21, .aload_n 0, 1), (22, .getfield 9, 3), (25, .dup, 1), (26, .astore 4, 2), (28, .arraylength, 1), (29, .if_icmp .ne 9, 3), (32, .aload_n 0, 1), (33, .invokevirtual 129, 3), (36, .astore 4, 2), (38, .aload 4, 2), (40, .iload_n 1, 1), (41, .aload 4, 2), (43, .iload_n 1, 1), (44, .iconst 1, 1), (45, .iadd, 1), (46, .iload_n 3, 1), (47, .iload_n 1, 1), (48, .isub, 1), (49, .invokestatic 112, 3), (52, .aload 4, 2), (54, .iload_n 1, 1), (55, .aload_n 2, 1), (56, .aastore, 1), (57, .aload_n 0, 1), (58, .iload_n 3, 1), (59, .iconst 1, 1), (60, .iadd, 1), (61, .putfield 48, 3), (64, .return_, 1)] = true := by decide +kernel
noncomputable def fJx4a65c_add_7a177_b38 (v0 : Nat) (v1 : Int32) (v2 : Option Nat) (v3 : Int32) (v4 : Option Nat) (h : PH) : Option PH :=
  gs v4 (fun a7 =>
  gd ((cpyok h 28 a7 a7 v1 (v1 + (1 : Int32)) (v3 - v1) ∧ hN h a7 ≠ 0 ∧ hN h a7 ≠ 0) ∧ okrs h a7 v1 (v3 - v1) = true) (lt (cpyR h 28 a7 a7 v1 (v1 + (1 : Int32)) (v3 - v1)) (fun h10 =>
  gd (hK h10 a7 = 28 ∧ inb v1 (hN h10 a7)) (gd (okr h10 v2 = true) (lt (sR h10 28 a7 (Int32.toNatClampNeg v1) v2) (fun h13 =>
  gd (hK h13 v0 = 14) (lt (sI h13 14 v0 2 (v3 + (1 : Int32))) (fun h16 =>
  some (h16)))))))))
set_option maxRecDepth 100000 in
theorem mJx4a65c_add_7a177_b38 {v0 : Nat} {v1 : Int32} {v2 : Option Nat} {v3 : Int32} {v4 : Option Nat} {h : PH} {r : PH} (hf : fJx4a65c_add_7a177_b38 v0 v1 v2 v3 v4 h = some r) : lez h (hX r) (hV r) := by
  unfold fJx4a65c_add_7a177_b38 at hf
  have hle := lez_rf h
  obtain ⟨a7, e8, hf⟩ := gs_some hf
  obtain ⟨hg9, hf⟩ := gd_some hf
  obtain ⟨h10, rfl, hf⟩ := lt_some hf
  obtain ⟨⟨hk12, hb11⟩, hf⟩ := gd_some hf
  obtain ⟨hg14, hf⟩ := gd_some hf
  obtain ⟨h13, rfl, hf⟩ := lt_some hf
  obtain ⟨hk15, hf⟩ := gd_some hf
  obtain ⟨h16, rfl, hf⟩ := lt_some hf
  have ee := Option.some.inj hf; subst ee; exact hle
set_option maxRecDepth 100000 in
theorem wJx4a65c_add_7a177_b38 {E : PE} {p : Program} {l : Launch} {e : Env} {s : State} {m : MethodId} {args : Array Value} {below : List Frame} {meth : Method} {c : Code} {X0 V0 MC MS uc us : Nat} (X : Cx E p l e (rmv 5 MC MS) s m args below meth c RJx4a65c cJx4a65c_add_7a177 5 (none)) (hG : Gs E l) (hnm : meth.name = yJx4a65c_add_7a177.name) {v0 : Nat} {v1 : Int32} {v2 : Option Nat} {v3 : Int32} {v4 : Option Nat} {h : PH} {r : PH} (hM : MC + X0 = (hX r)) (hN : MS + V0 = (hV r)) (hu : uc + X0 = hX h) (hv : us + V0 = hV h) (hf : fJx4a65c_add_7a177_b38 v0 v1 v2 v3 v4 h = some r)  : PW E p l e (rmv 5 MC MS) s m args below meth c 5 uc us (MQ below (QG E (fun v u => v = none ∧ u = r)) args s MC MS (pA E)) h 38 [(0, some (.ref v0)), (1, some (.int v1)), (2, some (va_rf v2)), (3, some (.int v3)), (4, some (va_rf v4))] [] := by
  have hm1 : lez h (hX r) (hV r) := mJx4a65c_add_7a177_b38 hf
  have hcm : uc ≤ MC := (by have o0 := hm1.1; have o1 := hM; have o2 := hu; (try simp only [hX_sI, hX_sR, hX_sL, hX_sD, hX_sIa, hX_sRa, hV_sI, hV_sR, hV_sL, hV_sD, hV_sIa, hV_sRa, hX_new, hV_new] at o0 o1 o2 ⊢); omega)
  have hsm : us ≤ MS := (by have o0 := hm1.2; have o1 := hN; have o2 := hv; (try simp only [hX_sI, hX_sR, hX_sL, hX_sD, hX_sIa, hX_sRa, hV_sI, hV_sR, hV_sL, hV_sD, hV_sIa, hV_sRa, hX_new, hV_new] at o0 o1 o2 ⊢); omega)
  clear hm1
  unfold fJx4a65c_add_7a177_b38 at hf
  refine p_aloadq X (dcg dc_Jx4a65c_add_7a177 22 rfl) rfl ?_
  refine p_iload_n X (dcg dc_Jx4a65c_add_7a177 23 rfl) rfl rfl ?_
  refine p_aloadq X (dcg dc_Jx4a65c_add_7a177 24 rfl) rfl ?_
  refine p_iload_n X (dcg dc_Jx4a65c_add_7a177 25 rfl) rfl rfl ?_
  refine p_iconst (v := 1) X (dcg dc_Jx4a65c_add_7a177 26 rfl) (by decide) ?_
  refine p_iadd X (dcg dc_Jx4a65c_add_7a177 27 rfl) ?_
  refine p_iload_n X (dcg dc_Jx4a65c_add_7a177 28 rfl) rfl rfl ?_
  refine p_iload_n X (dcg dc_Jx4a65c_add_7a177 29 rfl) rfl rfl ?_
  refine p_isub X (dcg dc_Jx4a65c_add_7a177 30 rfl) ?_
  obtain ⟨a7, e8, hf⟩ := gs_some hf
  first | subst e8 | (try rw [e8])
  obtain ⟨hg9, hf⟩ := gd_some hf
  refine p_copyR X tw_883 tw_629 tw_628 tw_130 hg9.1 hg9.2 (dcg dc_Jx4a65c_add_7a177 31 rfl) (Nat.le_of_ble_eq_true rfl) (room4 (Nat.le_of_ble_eq_true rfl)) (Nat.le_of_ble_eq_true rfl) ?_
  obtain ⟨h10, rfl, hf⟩ := lt_some hf
  refine p_aload X (dcg dc_Jx4a65c_add_7a177 32 rfl) rfl ?_
  refine p_iload_n X (dcg dc_Jx4a65c_add_7a177 33 rfl) rfl rfl ?_
  refine p_aloadq_n X (dcg dc_Jx4a65c_add_7a177 34 rfl) rfl rfl ?_
  obtain ⟨⟨hk12, hb11⟩, hf⟩ := gd_some hf
  obtain ⟨hg14, hf⟩ := gd_some hf
  refine p_aast28 X (dcg dc_Jx4a65c_add_7a177 35 rfl) hk12 (vp_of_inb hb11) hg14 ?_
  obtain ⟨h13, rfl, hf⟩ := lt_some hf
  refine p_aload_n X (dcg dc_Jx4a65c_add_7a177 36 rfl) rfl rfl ?_
  refine p_iload_n X (dcg dc_Jx4a65c_add_7a177 37 rfl) rfl rfl ?_
  refine p_iconst (v := 1) X (dcg dc_Jx4a65c_add_7a177 38 rfl) (by decide) ?_
  refine p_iadd X (dcg dc_Jx4a65c_add_7a177 39 rfl) ?_
  obtain ⟨hk15, hf⟩ := gd_some hf
  refine p_putI X fl_Jx4a65c_48 rfl (by decide) (fun q hq => by cases hq; rfl) rfl rfl (dcg dc_Jx4a65c_add_7a177 40 rfl) hk15 ?_
  obtain ⟨h16, rfl, hf⟩ := lt_some hf
  have er := Option.some.inj hf
  subst er
  exact p_vret X rfl (dcg dc_Jx4a65c_add_7a177 41 rfl) ⟨rfl, rfl⟩ hcm hsm
noncomputable def fJx4a65c_add_7a177_b36 (v0 : Nat) (v1 : Int32) (v2 : Option Nat) (v3 : Int32) (t0 : Option Nat) (h : PH) : Option PH :=
  fJx4a65c_add_7a177_b38 v0 v1 v2 v3 t0 h
set_option maxRecDepth 100000 in
theorem mJx4a65c_add_7a177_b36 {v0 : Nat} {v1 : Int32} {v2 : Option Nat} {v3 : Int32} {t0 : Option Nat} {h : PH} {r : PH} (hf : fJx4a65c_add_7a177_b36 v0 v1 v2 v3 t0 h = some r) : lez h (hX r) (hV r) := by
  unfold fJx4a65c_add_7a177_b36 at hf
  have hle := lez_rf h
  exact lez_rt (mJx4a65c_add_7a177_b38 hf) hle
set_option maxRecDepth 100000 in
theorem wJx4a65c_add_7a177_b36 {E : PE} {p : Program} {l : Launch} {e : Env} {s : State} {m : MethodId} {args : Array Value} {below : List Frame} {meth : Method} {c : Code} {X0 V0 MC MS uc us : Nat} (X : Cx E p l e (rmv 5 MC MS) s m args below meth c RJx4a65c cJx4a65c_add_7a177 5 (none)) (hG : Gs E l) (hnm : meth.name = yJx4a65c_add_7a177.name) {v0 : Nat} {v1 : Int32} {v2 : Option Nat} {v3 : Int32} {t0 : Option Nat} {h : PH} {r : PH} (hM : MC + X0 = (hX r)) (hN : MS + V0 = (hV r)) (hu : uc + X0 = hX h) (hv : us + V0 = hV h) (hf : fJx4a65c_add_7a177_b36 v0 v1 v2 v3 t0 h = some r)  : PW E p l e (rmv 5 MC MS) s m args below meth c 5 uc us (MQ below (QG E (fun v u => v = none ∧ u = r)) args s MC MS (pA E)) h 36 [(0, some (.ref v0)), (1, some (.int v1)), (2, some (va_rf v2)), (3, some (.int v3))] [va_rf t0] := by
  have hm1 : lez h (hX r) (hV r) := mJx4a65c_add_7a177_b36 hf
  have hcm : uc ≤ MC := (by have o0 := hm1.1; have o1 := hM; have o2 := hu; (try simp only [hX_sI, hX_sR, hX_sL, hX_sD, hX_sIa, hX_sRa, hV_sI, hV_sR, hV_sL, hV_sD, hV_sIa, hV_sRa, hX_new, hV_new] at o0 o1 o2 ⊢); omega)
  have hsm : us ≤ MS := (by have o0 := hm1.2; have o1 := hN; have o2 := hv; (try simp only [hX_sI, hX_sR, hX_sL, hX_sD, hX_sIa, hX_sRa, hV_sI, hV_sR, hV_sL, hV_sD, hV_sIa, hV_sRa, hX_new, hV_new] at o0 o1 o2 ⊢); omega)
  clear hm1
  unfold fJx4a65c_add_7a177_b36 at hf
  refine p_astoreq X (dcg dc_Jx4a65c_add_7a177 21 rfl) (by decide) rfl ?_
  refine p_pick [0, 1, 2, 3, 4] ?_
  exact wJx4a65c_add_7a177_b38 X hG hnm hM hN hu hv hf 
noncomputable def fJx4a65c_add_7a177_b0 (v0 : Nat) (v1 : Int32) (v2 : Option Nat) (h : PH) : Option PH :=
  gd (hK h v0 = 14) (bd (fJx4a65c_rangeCheckForAdd_d00df v0 v1 h) (fun z2 =>
  lt (sI h 14 v0 0 ((hI h 14 v0 0) + (1 : Int32))) (fun h3 =>
  gs (hR h3 14 v0 1) (fun a4 =>
  gd (hK h3 a4 = 28) (if (¬ (hI h3 14 v0 2) = (nI (hN h3 a4))) then (fJx4a65c_add_7a177_b38 v0 v1 v2 (hI h3 14 v0 2) (some a4) h3) else
  bd (fJx4a65c_grow_d5877 v0 h3) (fun z17 =>
  fJx4a65c_add_7a177_b36 v0 v1 v2 (hI h3 14 v0 2) z17.1 z17.2))))))
set_option maxRecDepth 100000 in
theorem mJx4a65c_add_7a177_b0 {v0 : Nat} {v1 : Int32} {v2 : Option Nat} {h : PH} {r : PH} (hf : fJx4a65c_add_7a177_b0 v0 v1 v2 h = some r) : lez h (hX r) (hV r) := by
  unfold fJx4a65c_add_7a177_b0 at hf
  have hle := lez_rf h
  obtain ⟨hk1, hf⟩ := gd_some hf
  obtain ⟨z2, hz2, hf⟩ := bd_some hf
  obtain ⟨h3, rfl, hf⟩ := lt_some hf
  obtain ⟨a4, e5, hf⟩ := gs_some hf
  obtain ⟨hk6, hf⟩ := gd_some hf
  rcases ite_or hf with ⟨q, hf⟩ | ⟨q, hf⟩
  · have hf := if_t q hf
    exact lez_rt (mJx4a65c_add_7a177_b38 hf) hle
  · have hf := if_f q hf
    obtain ⟨z17, hz17, hf⟩ := bd_some hf
    have hle := lez_rt (mJx4a65c_grow_d5877 hz17) hle
    exact lez_rt (mJx4a65c_add_7a177_b36 hf) hle
set_option maxRecDepth 100000 in
theorem wJx4a65c_add_7a177_b0 {E : PE} {p : Program} {l : Launch} {e : Env} {s : State} {m : MethodId} {args : Array Value} {below : List Frame} {meth : Method} {c : Code} {X0 V0 MC MS uc us : Nat} (X : Cx E p l e (rmv 5 MC MS) s m args below meth c RJx4a65c cJx4a65c_add_7a177 5 (none)) (hG : Gs E l) (hnm : meth.name = yJx4a65c_add_7a177.name) {v0 : Nat} {v1 : Int32} {v2 : Option Nat} {h : PH} {r : PH} (hM : MC + X0 = (hX r)) (hN : MS + V0 = (hV r)) (hu : uc + X0 = hX h) (hv : us + V0 = hV h) (hf : fJx4a65c_add_7a177_b0 v0 v1 v2 h = some r)  : PW E p l e (rmv 5 MC MS) s m args below meth c 5 uc us (MQ below (QG E (fun v u => v = none ∧ u = r)) args s MC MS (pA E)) h 0 [(0, some (.ref v0)), (1, some (.int v1)), (2, some (va_rf v2))] [] := by
  have hm1 : lez h (hX r) (hV r) := mJx4a65c_add_7a177_b0 hf
  have hcm : uc ≤ MC := (by have o0 := hm1.1; have o1 := hM; have o2 := hu; (try simp only [hX_sI, hX_sR, hX_sL, hX_sD, hX_sIa, hX_sRa, hV_sI, hV_sR, hV_sL, hV_sD, hV_sIa, hV_sRa, hX_new, hV_new] at o0 o1 o2 ⊢); omega)
  have hsm : us ≤ MS := (by have o0 := hm1.2; have o1 := hN; have o2 := hv; (try simp only [hX_sI, hX_sR, hX_sL, hX_sD, hX_sIa, hX_sRa, hV_sI, hV_sR, hV_sL, hV_sD, hV_sIa, hV_sRa, hX_new, hV_new] at o0 o1 o2 ⊢); omega)
  clear hm1
  unfold fJx4a65c_add_7a177_b0 at hf
  refine p_aload_n X (dcg dc_Jx4a65c_add_7a177 0 rfl) rfl rfl ?_
  refine p_iload_n X (dcg dc_Jx4a65c_add_7a177 1 rfl) rfl rfl ?_
  obtain ⟨hk1, hf⟩ := gd_some hf
  obtain ⟨z2, hz2, hf⟩ := bd_some hf
  refine p_callV (As := [_]) X ml_Jx4a65c_135 (dcg dc_Jx4a65c_add_7a177 2 rfl) rfl rfl hk1 (wJx4a65c_rangeCheckForAdd_d00df hG hz2) (by decide) (room4 (Nat.le_of_ble_eq_true rfl)) hcm hsm ?_
  rintro _ u9 ⟨rfl, e9⟩; have e9 := e9.symm; subst e9
  refine p_aload_n X (dcg dc_Jx4a65c_add_7a177 3 rfl) rfl rfl ?_
  refine p_dup X (dcg dc_Jx4a65c_add_7a177 4 rfl) rfl ?_
  refine p_getI X fl_Jx4a65c_63 rfl (by decide) (dcg dc_Jx4a65c_add_7a177 5 rfl) hk1 ?_
  refine p_iconst (v := 1) X (dcg dc_Jx4a65c_add_7a177 6 rfl) (by decide) ?_
  refine p_iadd X (dcg dc_Jx4a65c_add_7a177 7 rfl) ?_
  refine p_putI X fl_Jx4a65c_63 rfl (by decide) (fun q hq => by cases hq; rfl) rfl rfl (dcg dc_Jx4a65c_add_7a177 8 rfl) hk1 ?_
  obtain ⟨h3, rfl, hf⟩ := lt_some hf
  refine p_aload_n X (dcg dc_Jx4a65c_add_7a177 9 rfl) rfl rfl ?_
  refine p_getI X fl_Jx4a65c_48 rfl (by decide) (dcg dc_Jx4a65c_add_7a177 10 rfl) hk1 ?_
  refine p_dup X (dcg dc_Jx4a65c_add_7a177 11 rfl) rfl ?_
  refine p_istore_n X (dcg dc_Jx4a65c_add_7a177 12 rfl) rfl (by decide) (nwq (k := 2) rfl) ?_
  refine p_aload_n X (dcg dc_Jx4a65c_add_7a177 13 rfl) rfl rfl ?_
  refine p_getR X fl_Jx4a65c_9 rfl (by decide) (dcg dc_Jx4a65c_add_7a177 14 rfl) hk1 ?_
  refine p_dup X (dcg dc_Jx4a65c_add_7a177 15 rfl) (cat_rf _) ?_
  refine p_astoreq X (dcg dc_Jx4a65c_add_7a177 16 rfl) (by decide) rfl ?_
  obtain ⟨a4, e5, hf⟩ := gs_some hf
  first | subst e5 | (try rw [e5])
  obtain ⟨hk6, hf⟩ := gd_some hf
  refine p_alen28 X (dcg dc_Jx4a65c_add_7a177 17 rfl) hk6 ?_
  refine p_icmp_ne (tgt := 38) X (dcg dc_Jx4a65c_add_7a177 18 rfl) (by decide) (fun q => ?_) (fun q => ?_)
  · have hf := if_t q hf
    refine p_pick [0, 1, 2, 3, 4] ?_
    exact wJx4a65c_add_7a177_b38 X hG hnm hM hN hu hv hf 
  · have hf := if_f q hf
    refine p_aload_n X (dcg dc_Jx4a65c_add_7a177 19 rfl) rfl rfl ?_
    obtain ⟨z17, hz17, hf⟩ := bd_some hf
    have hc1 := mJx4a65c_grow_d5877 hz17
    have hm1 : lez _ (hX r) (hV r) := mJx4a65c_add_7a177_b36 hf
    refine p_callV (As := []) X ml_Jx4a65c_129 (dcg dc_Jx4a65c_add_7a177 20 rfl) rfl rfl hk1 (wJx4a65c_grow_d5877 hG hz17) (by decide) (room4 (Nat.le_of_ble_eq_true rfl)) (by have o0 := hm1.1; have o1 := hc1.1; have o2 := hM; have o3 := hu; (try simp only [hX_sI, hX_sR, hX_sL, hX_sD, hX_sIa, hX_sRa, hV_sI, hV_sR, hV_sL, hV_sD, hV_sIa, hV_sRa, hX_new, hV_new] at o0 o1 o2 o3 ⊢); omega) (by have o0 := hm1.2; have o1 := hc1.2; have o2 := hN; have o3 := hv; (try simp only [hX_sI, hX_sR, hX_sL, hX_sD, hX_sIa, hX_sRa, hV_sI, hV_sR, hV_sL, hV_sD, hV_sIa, hV_sRa, hX_new, hV_new] at o0 o1 o2 o3 ⊢); omega) ?_
    rintro _ u9 ⟨rfl, e9⟩; have e9 := e9.symm; subst e9
    refine p_pick [0, 1, 2, 3] ?_
    exact wJx4a65c_add_7a177_b36 X hG hnm hM hN (by have o0 := hc1.1; have o1 := hu; (try simp only [hX_sI, hX_sR, hX_sL, hX_sD, hX_sIa, hX_sRa, hV_sI, hV_sR, hV_sL, hV_sD, hV_sIa, hV_sRa, hX_new, hV_new] at o0 o1 ⊢); omega) (by have o0 := hc1.2; have o1 := hv; (try simp only [hX_sI, hX_sR, hX_sL, hX_sD, hX_sIa, hX_sRa, hV_sI, hV_sR, hV_sL, hV_sD, hV_sIa, hV_sRa, hX_new, hV_new] at o0 o1 ⊢); omega) hf 
noncomputable def fJx4a65c_add_7a177 (v0 : Nat) (v1 : Int32) (v2 : Option Nat) (h : PH) : Option PH :=
  fJx4a65c_add_7a177_b0 v0 v1 v2 h
set_option maxRecDepth 100000 in
theorem mJx4a65c_add_7a177 {v0 : Nat} {v1 : Int32} {v2 : Option Nat} {h : PH} {r : PH} (hf : fJx4a65c_add_7a177 v0 v1 v2 h = some r) : lez h (hX r) (hV r) := by
  unfold fJx4a65c_add_7a177 at hf
  have hle := lez_rf h
  exact lez_rt (mJx4a65c_add_7a177_b0 hf) hle
set_option maxRecDepth 100000 in
theorem wJx4a65c_add_7a177 {E : PE} {l : Launch} (hG : Gs E l) {v0 : Nat} {v1 : Int32} {v2 : Option Nat} {h : PH} {r : PH} (hf : fJx4a65c_add_7a177 v0 v1 v2 h = some r) : Ct E l 5 ((hX r) - hX h) ((hV r) - hV h) yJx4a65c_add_7a177 cJx4a65c_add_7a177 5 (none) [.ref v0, .int v1, va_rf v2] h (fun v u => v = none ∧ u = r) := by
  have hmm := mJx4a65c_add_7a177 hf
  refine ct_of hG (by decide) (by simp [lg_sl, cat_rf, cat_r, cat_i, cat_l, cat_d, cat_f]) ?_
  intro p e s m args below meth c X hnm
  rw [show pargs 0 [.ref v0, .int v1, va_rf v2] = [(0, some (.ref v0)), (1, some (.int v1)), (2, some (va_rf v2))] from by simp [pargs, cat_rf, cat_r, cat_i, cat_l, cat_d, cat_f]]
  unfold fJx4a65c_add_7a177 at hf
  have hM := Nat.sub_add_cancel hmm.1
  have hN := Nat.sub_add_cancel hmm.2
  refine p_pick [0, 1, 2] ?_
  exact wJx4a65c_add_7a177_b0 X hG hnm hM hN (Nat.zero_add _) (Nat.zero_add _) hf
theorem dc_X9_put : decs cX9_put [(0, .iload_n 1, 1), (1, .bipush 64, 2), (3, .if_icmp .ge 18, 3), (6, .aload_n 0, 1), (7, .dup, 1), (8, .getfield 11, 3), (11, .lconst 1, 1), (12, .iload_n 1, 1), (13, .lshl, 1), (14, .lor, 1), (15, .putfield 11, 3), (18, .goto 18, 3), (21, .aload_n 0, 1), (22, .dup, 1), (23, .getfield 15, 3), (26, .lconst 1, 1), (27, .iload_n 1, 1), (28, .bipush 64, 2), (30, .isub, 1), (31, .lshl, 1), (32, .lor, 1), (33, .putfield 15, 3), (36, .return_, 1)] = true := by decide +kernel
noncomputable def fX9_put_b36  (h : PH) : Option PH :=
  some (h)
set_option maxRecDepth 100000 in
theorem mX9_put_b36  {h : PH} {r : PH} (hf : fX9_put_b36  h = some r) : eqz h (hX r) (hV r) := by
  unfold fX9_put_b36 at hf
  have hle := eqz_rf h
  have ee := Option.some.inj hf; subst ee; exact hle
set_option maxRecDepth 100000 in
theorem wX9_put_b36 {E : PE} {p : Program} {l : Launch} {e : Env} {s : State} {m : MethodId} {args : Array Value} {below : List Frame} {meth : Method} {c : Code} (X : Cx E p l e (rmv 0 0 0) s m args below meth c RX9 cX9_put 2 (none)) (hG : Gs E l) (hnm : meth.name = yX9_put.name)  {h : PH} {r : PH} (hf : fX9_put_b36  h = some r)  : PW E p l e (rmv 0 0 0) s m args below meth c 2 0 0 (MQ below (QG E (fun v u => v = none ∧ u = r)) args s 0 0 (pA E)) h 36 [] [] := by
  unfold fX9_put_b36 at hf
  have er := Option.some.inj hf
  subst er
  exact p_vret X rfl (dcg dc_X9_put 22 rfl) ⟨rfl, rfl⟩ (Nat.le_refl _) (Nat.le_refl _)
noncomputable def fX9_put (v0 : Nat) (v1 : Int32) (h : PH) : Option PH :=
  if ((64 : Int32) ≤ v1) then (gd (hK h v0 = 9) (lt (sL h 9 v0 1 ((hL h 9 v0 1) ||| ((1 : Int64) <<< (Int32.toInt64 (v1 - (64 : Int32)) &&& 63)))) (fun h2 =>
  fX9_put_b36  h2))) else
  gd (hK h v0 = 9) (lt (sL h 9 v0 0 ((hL h 9 v0 0) ||| ((1 : Int64) <<< (Int32.toInt64 v1 &&& 63)))) (fun h4 =>
  fX9_put_b36  h4))
set_option maxRecDepth 100000 in
theorem mX9_put {v0 : Nat} {v1 : Int32} {h : PH} {r : PH} (hf : fX9_put v0 v1 h = some r) : eqz h (hX r) (hV r) := by
  unfold fX9_put at hf
  have hle := eqz_rf h
  rcases ite_or hf with ⟨q, hf⟩ | ⟨q, hf⟩
  · have hf := if_t q hf
    obtain ⟨hk1, hf⟩ := gd_some hf
    obtain ⟨h2, rfl, hf⟩ := lt_some hf
    exact eqz_rt (mX9_put_b36 hf) hle
  · have hf := if_f q hf
    obtain ⟨hk3, hf⟩ := gd_some hf
    obtain ⟨h4, rfl, hf⟩ := lt_some hf
    exact eqz_rt (mX9_put_b36 hf) hle
set_option maxRecDepth 100000 in
theorem wX9_put {E : PE} {l : Launch} (hG : Gs E l) {v0 : Nat} {v1 : Int32} {h : PH} {r : PH} (hf : fX9_put v0 v1 h = some r) : Ct E l 0 0 0 yX9_put cX9_put 2 (none) [.ref v0, .int v1] h (fun v u => v = none ∧ u = r) := by
  refine ct_of hG (by decide) (Nat.le_of_ble_eq_true rfl) ?_
  intro p e s m args below meth c X hnm
  show PW E p l e _ s m args below meth c _ 0 0 _ h 0 [(0, some (.ref v0)), (1, some (.int v1))] []
  unfold fX9_put at hf
  refine p_iload_n X (dcg dc_X9_put 0 rfl) rfl rfl ?_
  refine p_bipush (v := 64) X (dcg dc_X9_put 1 rfl) (by decide) ?_
  refine p_icmp_ge (tgt := 21) X (dcg dc_X9_put 2 rfl) (by decide) (fun q => ?_) (fun q => ?_)
  · have hf := if_t q hf
    refine p_aload_n X (dcg dc_X9_put 12 rfl) rfl rfl ?_
    refine p_dup X (dcg dc_X9_put 13 rfl) rfl ?_
    obtain ⟨hk1, hf⟩ := gd_some hf
    refine p_getL X fl_X9_15 rfl (by decide) (dcg dc_X9_put 14 rfl) hk1 ?_
    refine p_lconst (v := 1) X (dcg dc_X9_put 15 rfl) (by decide) ?_
    refine p_iload_n X (dcg dc_X9_put 16 rfl) rfl rfl ?_
    refine p_bipush (v := 64) X (dcg dc_X9_put 17 rfl) (by decide) ?_
    refine p_isub X (dcg dc_X9_put 18 rfl) ?_
    refine p_lshl X (dcg dc_X9_put 19 rfl) ?_
    refine p_lor X (dcg dc_X9_put 20 rfl) ?_
    refine p_putL X fl_X9_15 rfl (by decide) (fun q hq => by cases hq; rfl) rfl rfl (dcg dc_X9_put 21 rfl) hk1 ?_
    obtain ⟨h2, rfl, hf⟩ := lt_some hf
    refine p_pick [] ?_
    exact wX9_put_b36 X hG hnm hf 
  · have hf := if_f q hf
    refine p_aload_n X (dcg dc_X9_put 3 rfl) rfl rfl ?_
    refine p_dup X (dcg dc_X9_put 4 rfl) rfl ?_
    obtain ⟨hk3, hf⟩ := gd_some hf
    refine p_getL X fl_X9_11 rfl (by decide) (dcg dc_X9_put 5 rfl) hk3 ?_
    refine p_lconst (v := 1) X (dcg dc_X9_put 6 rfl) (by decide) ?_
    refine p_iload_n X (dcg dc_X9_put 7 rfl) rfl rfl ?_
    refine p_lshl X (dcg dc_X9_put 8 rfl) ?_
    refine p_lor X (dcg dc_X9_put 9 rfl) ?_
    refine p_putL X fl_X9_11 rfl (by decide) (fun q hq => by cases hq; rfl) rfl rfl (dcg dc_X9_put 10 rfl) hk3 ?_
    obtain ⟨h4, rfl, hf⟩ := lt_some hf
    refine p_goto (tgt := 36) X (dcg dc_X9_put 11 rfl) (by decide) ?_
    refine p_pick [] ?_
    exact wX9_put_b36 X hG hnm hf 
theorem dc_X3_enter : decs cX3_enter [(0, .iload_n 1, 1), (1, .invokestatic 39, 3), (4, .istore_n 3, 1), (5, .aload_n 0, 1), (6, .iload_n 3, 1), (7, .invokevirtual 43, 3), (10, .istore 4, 2), (12, .iload 4, 2), (14, .aload_n 0, 1), (15, .getfield 12, 3), (18, .invokevirtual 22, 3), (21, .if_icmp .ge 22, 3), (24, .aload_n 0, 1), (25, .getfield 12, 3), (28, .iload 4, 2), (30, .invokevirtual 26, 3), (33, .checkcast 30, 3), (36, .getfield 32, 3), (39, .iload_n 1, 1), (40, .if_icmp .eq 21, 3), (43, .aload_n 0, 1), (44, .getfield 12, 3), (47, .iload 4, 2), (49, .new 30, 3), (52, .dup, 1), (53, .iload_n 1, 1), (54, .iload_n 3, 1), (55, .invokespecial 63, 3), (58, .invokevirtual 65, 3), (61, .aload_n 0, 1), (62, .getfield 12, 3), (65, .iload 4, 2), (67, .invokevirtual 26, 3), (70, .checkcast 30, 3), (73, .getfield 69, 3), (76, .iload_n 2, 1), (77, .invokevirtual 73, 3), (80, .return_, 1)] = true := by decide +kernel
noncomputable def fX3_enter_b61 (v0 : Nat) (v2 : Int32) (v4 : Int32) (h : PH) : Option PH :=
  gd (hK h v0 = 3) (gs (hR h 3 v0 0) (fun a15 =>
  gd (hK h a15 = 14) (bd (fJx4a65c_get_915e3 a15 v4 h) (fun z18 =>
  gs z18 (fun a19 =>
  gd (hK h a19 = 10) (gs (hR h 10 a19 2) (fun a22 =>
  gd (hK h a22 = 9) (bd (fX9_put a22 v2 h) (fun z25 =>
  some (z25))))))))))
set_option maxRecDepth 100000 in
theorem mX3_enter_b61 {v0 : Nat} {v2 : Int32} {v4 : Int32} {h : PH} {r : PH} (hf : fX3_enter_b61 v0 v2 v4 h = some r) : lez h (hX r) (hV r) := by
  unfold fX3_enter_b61 at hf
  have hle := lez_rf h
  obtain ⟨hk14, hf⟩ := gd_some hf
  obtain ⟨a15, e16, hf⟩ := gs_some hf
  obtain ⟨hk17, hf⟩ := gd_some hf
  obtain ⟨z18, hz18, hf⟩ := bd_some hf
  obtain ⟨a19, e20, hf⟩ := gs_some hf
  obtain ⟨hk21, hf⟩ := gd_some hf
  obtain ⟨a22, e23, hf⟩ := gs_some hf
  obtain ⟨hk24, hf⟩ := gd_some hf
  obtain ⟨z25, hz25, hf⟩ := bd_some hf
  have hle := lez_rt (lez_eq (mX9_put hz25)) hle
  have ee := Option.some.inj hf; subst ee; exact hle
set_option maxRecDepth 100000 in
theorem wX3_enter_b61 {E : PE} {p : Program} {l : Launch} {e : Env} {s : State} {m : MethodId} {args : Array Value} {below : List Frame} {meth : Method} {c : Code} {X0 V0 MC MS uc us : Nat} (X : Cx E p l e (rmv 6 MC MS) s m args below meth c RX3 cX3_enter 5 (none)) (hG : Gs E l) (hnm : meth.name = yX3_enter.name) {v0 : Nat} {v2 : Int32} {v4 : Int32} {h : PH} {r : PH} (hM : MC + X0 = (hX r)) (hN : MS + V0 = (hV r)) (hu : uc + X0 = hX h) (hv : us + V0 = hV h) (hf : fX3_enter_b61 v0 v2 v4 h = some r)  : PW E p l e (rmv 6 MC MS) s m args below meth c 5 uc us (MQ below (QG E (fun v u => v = none ∧ u = r)) args s MC MS (pA E)) h 61 [(0, some (.ref v0)), (2, some (.int v2)), (4, some (.int v4))] [] := by
  have hm1 : lez h (hX r) (hV r) := mX3_enter_b61 hf
  have hcm : uc ≤ MC := (by have o0 := hm1.1; have o1 := hM; have o2 := hu; (try simp only [hX_sI, hX_sR, hX_sL, hX_sD, hX_sIa, hX_sRa, hV_sI, hV_sR, hV_sL, hV_sD, hV_sIa, hV_sRa, hX_new, hV_new] at o0 o1 o2 ⊢); omega)
  have hsm : us ≤ MS := (by have o0 := hm1.2; have o1 := hN; have o2 := hv; (try simp only [hX_sI, hX_sR, hX_sL, hX_sD, hX_sIa, hX_sRa, hV_sI, hV_sR, hV_sL, hV_sD, hV_sIa, hV_sRa, hX_new, hV_new] at o0 o1 o2 ⊢); omega)
  clear hm1
  unfold fX3_enter_b61 at hf
  refine p_aload_n X (dcg dc_X3_enter 29 rfl) rfl rfl ?_
  obtain ⟨hk14, hf⟩ := gd_some hf
  refine p_getR X fl_X3_12 rfl (by decide) (dcg dc_X3_enter 30 rfl) hk14 ?_
  refine p_iload X (dcg dc_X3_enter 31 rfl) rfl ?_
  obtain ⟨a15, e16, hf⟩ := gs_some hf
  first | subst e16 | (try rw [e16])
  obtain ⟨hk17, hf⟩ := gd_some hf
  obtain ⟨z18, hz18, hf⟩ := bd_some hf
  refine p_callV (As := [_]) X ml_X3_26 (dcg dc_X3_enter 32 rfl) rfl rfl hk17 (wJx4a65c_get_915e3 hG hz18) (by decide) (room4 (Nat.le_of_ble_eq_true rfl)) hcm hsm ?_
  rintro _ u9 ⟨rfl, e9⟩; have e9 := e9.symm; subst e9
  obtain ⟨a19, e20, hf⟩ := gs_some hf
  first | subst e20 | (try rw [e20])
  obtain ⟨hk21, hf⟩ := gd_some hf
  refine p_cast (q := (RX10, TX10, 3)) X rfl tw_505 (dcg dc_X3_enter 33 rfl) hk21 ?_
  refine p_getRn X fl_X3_69 rfl (by decide) (dcg dc_X3_enter 34 rfl) hk21 ?_
  refine p_iload_n X (dcg dc_X3_enter 35 rfl) rfl rfl ?_
  obtain ⟨a22, e23, hf⟩ := gs_some hf
  first | subst e23 | (try rw [e23])
  obtain ⟨hk24, hf⟩ := gd_some hf
  obtain ⟨z25, hz25, hf⟩ := bd_some hf
  refine p_callV (As := [_]) X ml_X3_73 (dcg dc_X3_enter 36 rfl) rfl rfl hk24 (wX9_put hG hz25) (by decide) (room4 (Nat.le_of_ble_eq_true rfl)) hcm hsm ?_
  rintro _ u9 ⟨rfl, e9⟩; have e9 := e9.symm; subst e9
  have hu := hu.trans (mX9_put hz25).1
  have hv := hv.trans (mX9_put hz25).2
  have er := Option.some.inj hf
  subst er
  exact p_vret X rfl (dcg dc_X3_enter 37 rfl) ⟨rfl, rfl⟩ hcm hsm
noncomputable def fX3_enter_b58 (v0 : Nat) (v2 : Int32) (v4 : Int32) (t0 : Option Nat) (t1 : Int32) (t2 : Nat) (h : PH) : Option PH :=
  gs t0 (fun a10 =>
  gd (hK h a10 = 14) (bd (fJx4a65c_add_7a177 a10 t1 (some t2) h) (fun z13 =>
  fX3_enter_b61 v0 v2 v4 z13)))
set_option maxRecDepth 100000 in
theorem mX3_enter_b58 {v0 : Nat} {v2 : Int32} {v4 : Int32} {t0 : Option Nat} {t1 : Int32} {t2 : Nat} {h : PH} {r : PH} (hf : fX3_enter_b58 v0 v2 v4 t0 t1 t2 h = some r) : lez h (hX r) (hV r) := by
  unfold fX3_enter_b58 at hf
  have hle := lez_rf h
  obtain ⟨a10, e11, hf⟩ := gs_some hf
  obtain ⟨hk12, hf⟩ := gd_some hf
  obtain ⟨z13, hz13, hf⟩ := bd_some hf
  have hle := lez_rt (mJx4a65c_add_7a177 hz13) hle
  exact lez_rt (mX3_enter_b61 hf) hle
set_option maxRecDepth 100000 in
theorem wX3_enter_b58 {E : PE} {p : Program} {l : Launch} {e : Env} {s : State} {m : MethodId} {args : Array Value} {below : List Frame} {meth : Method} {c : Code} {X0 V0 MC MS uc us : Nat} (X : Cx E p l e (rmv 6 MC MS) s m args below meth c RX3 cX3_enter 5 (none)) (hG : Gs E l) (hnm : meth.name = yX3_enter.name) {v0 : Nat} {v2 : Int32} {v4 : Int32} {t0 : Option Nat} {t1 : Int32} {t2 : Nat} {h : PH} {r : PH} (hM : MC + X0 = (hX r)) (hN : MS + V0 = (hV r)) (hu : uc + X0 = hX h) (hv : us + V0 = hV h) (hf : fX3_enter_b58 v0 v2 v4 t0 t1 t2 h = some r)  : PW E p l e (rmv 6 MC MS) s m args below meth c 5 uc us (MQ below (QG E (fun v u => v = none ∧ u = r)) args s MC MS (pA E)) h 58 [(0, some (.ref v0)), (2, some (.int v2)), (4, some (.int v4))] [.ref t2, .int t1, va_rf t0] := by
  have hm1 : lez h (hX r) (hV r) := mX3_enter_b58 hf
  have hcm : uc ≤ MC := (by have o0 := hm1.1; have o1 := hM; have o2 := hu; (try simp only [hX_sI, hX_sR, hX_sL, hX_sD, hX_sIa, hX_sRa, hV_sI, hV_sR, hV_sL, hV_sD, hV_sIa, hV_sRa, hX_new, hV_new] at o0 o1 o2 ⊢); omega)
  have hsm : us ≤ MS := (by have o0 := hm1.2; have o1 := hN; have o2 := hv; (try simp only [hX_sI, hX_sR, hX_sL, hX_sD, hX_sIa, hX_sRa, hV_sI, hV_sR, hV_sL, hV_sD, hV_sIa, hV_sRa, hX_new, hV_new] at o0 o1 o2 ⊢); omega)
  clear hm1
  unfold fX3_enter_b58 at hf
  obtain ⟨a10, e11, hf⟩ := gs_some hf
  first | subst e11 | (try rw [e11])
  obtain ⟨hk12, hf⟩ := gd_some hf
  obtain ⟨z13, hz13, hf⟩ := bd_some hf
  have hc1 := mJx4a65c_add_7a177 hz13
  have hm1 : lez _ (hX r) (hV r) := mX3_enter_b61 hf
  refine p_callV (As := [_, va_rf (some _)]) X ml_X3_65 (dcg dc_X3_enter 28 rfl) rfl rfl hk12 (wJx4a65c_add_7a177 hG hz13) (by decide) (room4 (Nat.le_of_ble_eq_true rfl)) (by have o0 := hm1.1; have o1 := hc1.1; have o2 := hM; have o3 := hu; (try simp only [hX_sI, hX_sR, hX_sL, hX_sD, hX_sIa, hX_sRa, hV_sI, hV_sR, hV_sL, hV_sD, hV_sIa, hV_sRa, hX_new, hV_new] at o0 o1 o2 o3 ⊢); omega) (by have o0 := hm1.2; have o1 := hc1.2; have o2 := hN; have o3 := hv; (try simp only [hX_sI, hX_sR, hX_sL, hX_sD, hX_sIa, hX_sRa, hV_sI, hV_sR, hV_sL, hV_sD, hV_sIa, hV_sRa, hX_new, hV_new] at o0 o1 o2 o3 ⊢); omega) ?_
  rintro _ u9 ⟨rfl, e9⟩; have e9 := e9.symm; subst e9
  refine p_pick [0, 2, 4] ?_
  exact wX3_enter_b61 X hG hnm hM hN (by have o0 := hc1.1; have o1 := hu; (try simp only [hX_sI, hX_sR, hX_sL, hX_sD, hX_sIa, hX_sRa, hV_sI, hV_sR, hV_sL, hV_sD, hV_sIa, hV_sRa, hX_new, hV_new] at o0 o1 ⊢); omega) (by have o0 := hc1.2; have o1 := hv; (try simp only [hX_sI, hX_sR, hX_sL, hX_sD, hX_sIa, hX_sRa, hV_sI, hV_sR, hV_sL, hV_sD, hV_sIa, hV_sRa, hX_new, hV_new] at o0 o1 ⊢); omega) hf 
noncomputable def fX3_enter_b52 (v0 : Nat) (v1 : Int32) (v2 : Int32) (v3 : Int32) (v4 : Int32) (t0 : Option Nat) (t1 : Int32) (t2 : Nat) (h : PH) : Option PH :=
  bd (fX10_init t2 v1 v3 h) (fun z9 =>
  fX3_enter_b58 v0 v2 v4 t0 t1 t2 z9)
set_option maxRecDepth 100000 in
theorem mX3_enter_b52 {v0 : Nat} {v1 : Int32} {v2 : Int32} {v3 : Int32} {v4 : Int32} {t0 : Option Nat} {t1 : Int32} {t2 : Nat} {h : PH} {r : PH} (hf : fX3_enter_b52 v0 v1 v2 v3 v4 t0 t1 t2 h = some r) : lez h (hX r) (hV r) := by
  unfold fX3_enter_b52 at hf
  have hle := lez_rf h
  obtain ⟨z9, hz9, hf⟩ := bd_some hf
  have hle := lez_rt (mX10_init hz9) hle
  exact lez_rt (mX3_enter_b58 hf) hle
set_option maxRecDepth 100000 in
theorem wX3_enter_b52 {E : PE} {p : Program} {l : Launch} {e : Env} {s : State} {m : MethodId} {args : Array Value} {below : List Frame} {meth : Method} {c : Code} {X0 V0 MC MS uc us : Nat} (X : Cx E p l e (rmv 6 MC MS) s m args below meth c RX3 cX3_enter 5 (none)) (hG : Gs E l) (hnm : meth.name = yX3_enter.name) {v0 : Nat} {v1 : Int32} {v2 : Int32} {v3 : Int32} {v4 : Int32} {t0 : Option Nat} {t1 : Int32} {t2 : Nat} {h : PH} {r : PH} (hM : MC + X0 = (hX r)) (hN : MS + V0 = (hV r)) (hu : uc + X0 = hX h) (hv : us + V0 = hV h) (hf : fX3_enter_b52 v0 v1 v2 v3 v4 t0 t1 t2 h = some r)  : PW E p l e (rmv 6 MC MS) s m args below meth c 5 uc us (MQ below (QG E (fun v u => v = none ∧ u = r)) args s MC MS (pA E)) h 52 [(0, some (.ref v0)), (1, some (.int v1)), (2, some (.int v2)), (3, some (.int v3)), (4, some (.int v4))] [.ref t2, .int t1, va_rf t0] := by
  have hm1 : lez h (hX r) (hV r) := mX3_enter_b52 hf
  have hcm : uc ≤ MC := (by have o0 := hm1.1; have o1 := hM; have o2 := hu; (try simp only [hX_sI, hX_sR, hX_sL, hX_sD, hX_sIa, hX_sRa, hV_sI, hV_sR, hV_sL, hV_sD, hV_sIa, hV_sRa, hX_new, hV_new] at o0 o1 o2 ⊢); omega)
  have hsm : us ≤ MS := (by have o0 := hm1.2; have o1 := hN; have o2 := hv; (try simp only [hX_sI, hX_sR, hX_sL, hX_sD, hX_sIa, hX_sRa, hV_sI, hV_sR, hV_sL, hV_sD, hV_sIa, hV_sRa, hX_new, hV_new] at o0 o1 o2 ⊢); omega)
  clear hm1
  unfold fX3_enter_b52 at hf
  refine p_dup X (dcg dc_X3_enter 24 rfl) rfl ?_
  refine p_iload_n X (dcg dc_X3_enter 25 rfl) rfl rfl ?_
  refine p_iload_n X (dcg dc_X3_enter 26 rfl) rfl rfl ?_
  obtain ⟨z9, hz9, hf⟩ := bd_some hf
  have hc1 := mX10_init hz9
  have hm1 : lez _ (hX r) (hV r) := mX3_enter_b58 hf
  refine p_callI (As := [_, _]) (ret1 := none) X ml_X3_63 (dcg dc_X3_enter 27 rfl) rfl rfl  (wX10_init hG hz9) (by decide) (room4 (Nat.le_of_ble_eq_true rfl)) (by have o0 := hm1.1; have o1 := hc1.1; have o2 := hM; have o3 := hu; (try simp only [hX_sI, hX_sR, hX_sL, hX_sD, hX_sIa, hX_sRa, hV_sI, hV_sR, hV_sL, hV_sD, hV_sIa, hV_sRa, hX_new, hV_new] at o0 o1 o2 o3 ⊢); omega) (by have o0 := hm1.2; have o1 := hc1.2; have o2 := hN; have o3 := hv; (try simp only [hX_sI, hX_sR, hX_sL, hX_sD, hX_sIa, hX_sRa, hV_sI, hV_sR, hV_sL, hV_sD, hV_sIa, hV_sRa, hX_new, hV_new] at o0 o1 o2 o3 ⊢); omega) ?_
  rintro _ u9 ⟨rfl, e9⟩; have e9 := e9.symm; subst e9
  refine p_pick [0, 2, 4] ?_
  exact wX3_enter_b58 X hG hnm hM hN (by have o0 := hc1.1; have o1 := hu; (try simp only [hX_sI, hX_sR, hX_sL, hX_sD, hX_sIa, hX_sRa, hV_sI, hV_sR, hV_sL, hV_sD, hV_sIa, hV_sRa, hX_new, hV_new] at o0 o1 ⊢); omega) (by have o0 := hc1.2; have o1 := hv; (try simp only [hX_sI, hX_sR, hX_sL, hX_sD, hX_sIa, hX_sRa, hV_sI, hV_sR, hV_sL, hV_sD, hV_sIa, hV_sRa, hX_new, hV_new] at o0 o1 ⊢); omega) hf 
noncomputable def fX3_enter_b43 (v0 : Nat) (v1 : Int32) (v2 : Int32) (v3 : Int32) (v4 : Int32) (h : PH) : Option PH :=
  gd (hK h v0 = 3) (fX3_enter_b52 v0 v1 v2 v3 v4 (hR h 3 v0 0) v4 (hX h) (hnew h 10 3))
set_option maxRecDepth 100000 in
theorem mX3_enter_b43 {v0 : Nat} {v1 : Int32} {v2 : Int32} {v3 : Int32} {v4 : Int32} {h : PH} {r : PH} (hf : fX3_enter_b43 v0 v1 v2 v3 v4 h = some r) : lez h (hX r) (hV r) := by
  unfold fX3_enter_b43 at hf
  have hle := lez_rf h
  obtain ⟨hk8, hf⟩ := gd_some hf
  have hle := lez_nw (c := 10) (n := 3) hle
  exact lez_rt (mX3_enter_b52 hf) hle
set_option maxRecDepth 100000 in
theorem wX3_enter_b43 {E : PE} {p : Program} {l : Launch} {e : Env} {s : State} {m : MethodId} {args : Array Value} {below : List Frame} {meth : Method} {c : Code} {X0 V0 MC MS uc us : Nat} (X : Cx E p l e (rmv 6 MC MS) s m args below meth c RX3 cX3_enter 5 (none)) (hG : Gs E l) (hnm : meth.name = yX3_enter.name) {v0 : Nat} {v1 : Int32} {v2 : Int32} {v3 : Int32} {v4 : Int32} {h : PH} {r : PH} (hM : MC + X0 = (hX r)) (hN : MS + V0 = (hV r)) (hu : uc + X0 = hX h) (hv : us + V0 = hV h) (hf : fX3_enter_b43 v0 v1 v2 v3 v4 h = some r)  : PW E p l e (rmv 6 MC MS) s m args below meth c 5 uc us (MQ below (QG E (fun v u => v = none ∧ u = r)) args s MC MS (pA E)) h 43 [(0, some (.ref v0)), (1, some (.int v1)), (2, some (.int v2)), (3, some (.int v3)), (4, some (.int v4))] [] := by
  have hm1 : lez h (hX r) (hV r) := mX3_enter_b43 hf
  have hcm : uc ≤ MC := (by have o0 := hm1.1; have o1 := hM; have o2 := hu; (try simp only [hX_sI, hX_sR, hX_sL, hX_sD, hX_sIa, hX_sRa, hV_sI, hV_sR, hV_sL, hV_sD, hV_sIa, hV_sRa, hX_new, hV_new] at o0 o1 o2 ⊢); omega)
  have hsm : us ≤ MS := (by have o0 := hm1.2; have o1 := hN; have o2 := hv; (try simp only [hX_sI, hX_sR, hX_sL, hX_sD, hX_sIa, hX_sRa, hV_sI, hV_sR, hV_sL, hV_sD, hV_sIa, hV_sRa, hX_new, hV_new] at o0 o1 o2 ⊢); omega)
  clear hm1
  unfold fX3_enter_b43 at hf
  refine p_aload_n X (dcg dc_X3_enter 20 rfl) rfl rfl ?_
  obtain ⟨hk8, hf⟩ := gd_some hf
  refine p_getR X fl_X3_12 rfl (by decide) (dcg dc_X3_enter 21 rfl) hk8 ?_
  refine p_iload X (dcg dc_X3_enter 22 rfl) rfl ?_
  have hm1 : lez _ (hX r) (hV r) := mX3_enter_b52 hf
  have hm2 := lez_new hm1
  refine p_newN (ci := 10) (q := (RX10, TX10, 3)) (n := 3) X rfl rfl (by decide) tw_505 tw_506 tw_124 (dcg dc_X3_enter 23 rfl) (show uc + 1 ≤ MC from (by have o0 := hm2.1; have o1 := hM; have o2 := hu; (try simp only [hX_sI, hX_sR, hX_sL, hX_sD, hX_sIa, hX_sRa, hV_sI, hV_sR, hV_sL, hV_sD, hV_sIa, hV_sRa, hX_new, hV_new] at o0 o1 o2 ⊢); omega)) (show us + 3 ≤ MS from (by have o0 := hm2.2; have o1 := hN; have o2 := hv; (try simp only [hX_sI, hX_sR, hX_sL, hX_sD, hX_sIa, hX_sRa, hV_sI, hV_sR, hV_sL, hV_sD, hV_sIa, hV_sRa, hX_new, hV_new] at o0 o1 o2 ⊢); omega)) ?_
  refine p_pick [0, 1, 2, 3, 4] ?_
  exact wX3_enter_b52 X hG hnm hM hN (by have o0 := hu; (try simp only [hX_sI, hX_sR, hX_sL, hX_sD, hX_sIa, hX_sRa, hV_sI, hV_sR, hV_sL, hV_sD, hV_sIa, hV_sRa, hX_new, hV_new] at o0 ⊢); omega) (by have o0 := hv; (try simp only [hX_sI, hX_sR, hX_sL, hX_sD, hX_sIa, hX_sRa, hV_sI, hV_sR, hV_sL, hV_sD, hV_sIa, hV_sRa, hX_new, hV_new] at o0 ⊢); omega) hf 
noncomputable def fX3_enter_b0 (v0 : Nat) (v1 : Int32) (v2 : Int32) (h : PH) : Option PH :=
  bd (fX10_orderOf v1) (fun z1 =>
  gd (hK h v0 = 3) (bd (fX3_countAhead v0 z1 h) (fun z3 =>
  gs (hR h 3 v0 0) (fun a4 =>
  gd (hK h a4 = 14) (bd (fJx4a65c_size_8abf5 a4 h) (fun z7 =>
  if (z7 ≤ z3) then (fX3_enter_b43 v0 v1 v2 z1 z3 h) else
  gs (hR h 3 v0 0) (fun a26 =>
  gd (hK h a26 = 14) (bd (fJx4a65c_get_915e3 a26 z3 h) (fun z29 =>
  gs z29 (fun a30 =>
  gd (hK h a30 = 10) (if ((hI h 10 a30 0) = v1) then (fX3_enter_b61 v0 v2 z3 h) else
  fX3_enter_b43 v0 v1 v2 z1 z3 h)))))))))))
set_option maxRecDepth 100000 in
theorem mX3_enter_b0 {v0 : Nat} {v1 : Int32} {v2 : Int32} {h : PH} {r : PH} (hf : fX3_enter_b0 v0 v1 v2 h = some r) : lez h (hX r) (hV r) := by
  unfold fX3_enter_b0 at hf
  have hle := lez_rf h
  obtain ⟨z1, hz1, hf⟩ := bd_some hf
  obtain ⟨hk2, hf⟩ := gd_some hf
  obtain ⟨z3, hz3, hf⟩ := bd_some hf
  obtain ⟨a4, e5, hf⟩ := gs_some hf
  obtain ⟨hk6, hf⟩ := gd_some hf
  obtain ⟨z7, hz7, hf⟩ := bd_some hf
  rcases ite_or hf with ⟨q, hf⟩ | ⟨q, hf⟩
  · have hf := if_t q hf
    exact lez_rt (mX3_enter_b43 hf) hle
  · have hf := if_f q hf
    obtain ⟨a26, e27, hf⟩ := gs_some hf
    obtain ⟨hk28, hf⟩ := gd_some hf
    obtain ⟨z29, hz29, hf⟩ := bd_some hf
    obtain ⟨a30, e31, hf⟩ := gs_some hf
    obtain ⟨hk32, hf⟩ := gd_some hf
    rcases ite_or hf with ⟨q, hf⟩ | ⟨q, hf⟩
    · have hf := if_t q hf
      exact lez_rt (mX3_enter_b61 hf) hle
    · have hf := if_f q hf
      exact lez_rt (mX3_enter_b43 hf) hle
set_option maxRecDepth 100000 in
theorem wX3_enter_b0 {E : PE} {p : Program} {l : Launch} {e : Env} {s : State} {m : MethodId} {args : Array Value} {below : List Frame} {meth : Method} {c : Code} {X0 V0 MC MS uc us : Nat} (X : Cx E p l e (rmv 6 MC MS) s m args below meth c RX3 cX3_enter 5 (none)) (hG : Gs E l) (hnm : meth.name = yX3_enter.name) {v0 : Nat} {v1 : Int32} {v2 : Int32} {h : PH} {r : PH} (hM : MC + X0 = (hX r)) (hN : MS + V0 = (hV r)) (hu : uc + X0 = hX h) (hv : us + V0 = hV h) (hf : fX3_enter_b0 v0 v1 v2 h = some r)  : PW E p l e (rmv 6 MC MS) s m args below meth c 5 uc us (MQ below (QG E (fun v u => v = none ∧ u = r)) args s MC MS (pA E)) h 0 [(0, some (.ref v0)), (1, some (.int v1)), (2, some (.int v2))] [] := by
  have hm1 : lez h (hX r) (hV r) := mX3_enter_b0 hf
  have hcm : uc ≤ MC := (by have o0 := hm1.1; have o1 := hM; have o2 := hu; (try simp only [hX_sI, hX_sR, hX_sL, hX_sD, hX_sIa, hX_sRa, hV_sI, hV_sR, hV_sL, hV_sD, hV_sIa, hV_sRa, hX_new, hV_new] at o0 o1 o2 ⊢); omega)
  have hsm : us ≤ MS := (by have o0 := hm1.2; have o1 := hN; have o2 := hv; (try simp only [hX_sI, hX_sR, hX_sL, hX_sD, hX_sIa, hX_sRa, hV_sI, hV_sR, hV_sL, hV_sD, hV_sIa, hV_sRa, hX_new, hV_new] at o0 o1 o2 ⊢); omega)
  clear hm1
  unfold fX3_enter_b0 at hf
  refine p_iload_n X (dcg dc_X3_enter 0 rfl) rfl rfl ?_
  obtain ⟨z1, hz1, hf⟩ := bd_some hf
  refine p_callS (As := [_]) X ml_X3_39 (dcg dc_X3_enter 1 rfl) rfl rfl  (wX10_orderOf hG hz1) (by decide) (room4 (Nat.le_of_ble_eq_true rfl)) hcm hsm ?_
  rintro _ u9 ⟨rfl, e9⟩; have e9 := e9.symm; subst e9
  refine p_istore_n X (dcg dc_X3_enter 2 rfl) rfl (by decide) rfl ?_
  refine p_aload_n X (dcg dc_X3_enter 3 rfl) rfl rfl ?_
  refine p_iload_n X (dcg dc_X3_enter 4 rfl) rfl rfl ?_
  obtain ⟨hk2, hf⟩ := gd_some hf
  obtain ⟨z3, hz3, hf⟩ := bd_some hf
  refine p_callV (As := [_]) X ml_X3_43 (dcg dc_X3_enter 5 rfl) rfl rfl hk2 (wX3_countAhead hG hz3) (by decide) (room4 (Nat.le_of_ble_eq_true rfl)) hcm hsm ?_
  rintro _ u9 ⟨rfl, e9⟩; have e9 := e9.symm; subst e9
  refine p_istore X (dcg dc_X3_enter 6 rfl) (by decide) rfl ?_
  refine p_iload X (dcg dc_X3_enter 7 rfl) rfl ?_
  refine p_aload_n X (dcg dc_X3_enter 8 rfl) rfl rfl ?_
  refine p_getR X fl_X3_12 rfl (by decide) (dcg dc_X3_enter 9 rfl) hk2 ?_
  obtain ⟨a4, e5, hf⟩ := gs_some hf
  first | subst e5 | (try rw [e5])
  obtain ⟨hk6, hf⟩ := gd_some hf
  obtain ⟨z7, hz7, hf⟩ := bd_some hf
  refine p_callV (As := []) X ml_X3_22 (dcg dc_X3_enter 10 rfl) rfl rfl hk6 (wJx4a65c_size_8abf5 hG hz7) (by decide) (room4 (Nat.le_of_ble_eq_true rfl)) hcm hsm ?_
  rintro _ u9 ⟨rfl, e9⟩; have e9 := e9.symm; subst e9
  refine p_icmp_ge (tgt := 43) X (dcg dc_X3_enter 11 rfl) (by decide) (fun q => ?_) (fun q => ?_)
  · have hf := if_t q hf
    refine p_pick [0, 1, 2, 3, 4] ?_
    exact wX3_enter_b43 X hG hnm hM hN hu hv hf 
  · have hf := if_f q hf
    refine p_aload_n X (dcg dc_X3_enter 12 rfl) rfl rfl ?_
    refine p_getR X fl_X3_12 rfl (by decide) (dcg dc_X3_enter 13 rfl) hk2 ?_
    refine p_iload X (dcg dc_X3_enter 14 rfl) rfl ?_
    obtain ⟨a26, e27, hf⟩ := gs_some hf
    first | subst e27 | (try rw [e27])
    obtain ⟨hk28, hf⟩ := gd_some hf
    obtain ⟨z29, hz29, hf⟩ := bd_some hf
    refine p_callV (As := [_]) X ml_X3_26 (dcg dc_X3_enter 15 rfl) rfl rfl hk28 (wJx4a65c_get_915e3 hG hz29) (by decide) (room4 (Nat.le_of_ble_eq_true rfl)) hcm hsm ?_
    rintro _ u9 ⟨rfl, e9⟩; have e9 := e9.symm; subst e9
    obtain ⟨a30, e31, hf⟩ := gs_some hf
    first | subst e31 | (try rw [e31])
    obtain ⟨hk32, hf⟩ := gd_some hf
    refine p_cast (q := (RX10, TX10, 3)) X rfl tw_505 (dcg dc_X3_enter 16 rfl) hk32 ?_
    refine p_getIn X fl_X3_32 rfl (by decide) (dcg dc_X3_enter 17 rfl) hk32 ?_
    refine p_iload_n X (dcg dc_X3_enter 18 rfl) rfl rfl ?_
    refine p_icmp_eq (tgt := 61) X (dcg dc_X3_enter 19 rfl) (by decide) (fun q => ?_) (fun q => ?_)
    · have hf := if_t q hf
      refine p_pick [0, 2, 4] ?_
      exact wX3_enter_b61 X hG hnm hM hN hu hv hf 
    · have hf := if_f q hf
      refine p_pick [0, 1, 2, 3, 4] ?_
      exact wX3_enter_b43 X hG hnm hM hN hu hv hf 
noncomputable def fX3_enter (v0 : Nat) (v1 : Int32) (v2 : Int32) (h : PH) : Option PH :=
  fX3_enter_b0 v0 v1 v2 h
set_option maxRecDepth 100000 in
theorem mX3_enter {v0 : Nat} {v1 : Int32} {v2 : Int32} {h : PH} {r : PH} (hf : fX3_enter v0 v1 v2 h = some r) : lez h (hX r) (hV r) := by
  unfold fX3_enter at hf
  have hle := lez_rf h
  exact lez_rt (mX3_enter_b0 hf) hle
set_option maxRecDepth 100000 in
theorem wX3_enter {E : PE} {l : Launch} (hG : Gs E l) {v0 : Nat} {v1 : Int32} {v2 : Int32} {h : PH} {r : PH} (hf : fX3_enter v0 v1 v2 h = some r) : Ct E l 6 ((hX r) - hX h) ((hV r) - hV h) yX3_enter cX3_enter 5 (none) [.ref v0, .int v1, .int v2] h (fun v u => v = none ∧ u = r) := by
  have hmm := mX3_enter hf
  refine ct_of hG (by decide) (Nat.le_of_ble_eq_true rfl) ?_
  intro p e s m args below meth c X hnm
  show PW E p l e _ s m args below meth c _ 0 0 _ h 0 [(0, some (.ref v0)), (1, some (.int v1)), (2, some (.int v2))] []
  unfold fX3_enter at hf
  have hM := Nat.sub_add_cancel hmm.1
  have hN := Nat.sub_add_cancel hmm.2
  refine p_pick [0, 1, 2] ?_
  exact wX3_enter_b0 X hG hnm hM hN (Nat.zero_add _) (Nat.zero_add _) hf
theorem dc_X8_placeOf : decs cX8_placeOf [(0, .iload_n 2, 1), (1, .istore_n 3, 1), (2, .iconst 0, 1), (3, .istore 4, 2), (5, .iload 4, 2), (7, .aload_n 0, 1), (8, .getfield 15, 3), (11, .if_icmp .ge 34, 3), (14, .iload_n 3, 1), (15, .ifCond .lt 30, 3), (18, .aload_n 0, 1), (19, .getfield 11, 3), (22, .iload 4, 2), (24, .iaload, 1), (25, .iload_n 1, 1), (26, .if_icmp .ne 13, 3), (29, .iload_n 3, 1), (30, .ifCond .ne 6, 3), (33, .iload 4, 2), (35, .ireturn, 1), (36, .iinc 3 (-1), 3), (39, .iinc 4 1, 3), (42, .goto (-37), 3), (45, .iconst (-1), 1), (46, .ireturn, 1)] = true := by decide +kernel
noncomputable def fX8_placeOf_b45  (h : PH) : Option Int32 :=
  some ((-1 : Int32))
set_option maxRecDepth 100000 in
theorem wX8_placeOf_b45 {E : PE} {p : Program} {l : Launch} {e : Env} {s : State} {m : MethodId} {args : Array Value} {below : List Frame} {meth : Method} {c : Code} (X : Cx E p l e (rmv 0 0 0) s m args below meth c RX8 cX8_placeOf 5 (some .int)) (hG : Gs E l) (hnm : meth.name = yX8_placeOf.name)  {h : PH} {r : Int32} (hf : fX8_placeOf_b45  h = some r)  : PW E p l e (rmv 0 0 0) s m args below meth c 5 0 0 (MQ below (QG E (fun v u => v = some (.int r) ∧ u = h)) args s 0 0 (pA E)) h 45 [] [] := by
  unfold fX8_placeOf_b45 at hf
  refine p_iconst (v := -1) X (dcg dc_X8_placeOf 23 rfl) (by decide) ?_
  have er := Option.some.inj hf
  subst er
  exact p_iret X rfl (dcg dc_X8_placeOf 24 rfl) ⟨rfl, rfl⟩ (Nat.le_refl _) (Nat.le_refl _)
noncomputable def fX8_placeOf_b39 (v0 : Nat) (v1 : Int32) (v3 : Int32) (v4 : Int32) (h : PH) : Option ((Int32 × Int32) ⊕ Int32) :=
  some (.inl (v3, (v4 + 1)))
set_option maxRecDepth 100000 in
theorem wX8_placeOf_b39 {E : PE} {p : Program} {l : Launch} {e : Env} {s : State} {m : MethodId} {args : Array Value} {below : List Frame} {meth : Method} {c : Code} (X : Cx E p l e (rmv 0 0 0) s m args below meth c RX8 cX8_placeOf 5 (some .int)) (hG : Gs E l) (hnm : meth.name = yX8_placeOf.name) {v0 : Nat} {v1 : Int32} {v3 : Int32} {v4 : Int32} {h : PH} {r : Int32} {x : ((Int32 × Int32) ⊕ Int32)} (hf : fX8_placeOf_b39 v0 v1 v3 v4 h = some x) (k0 : ∀ z : (Int32 × Int32), x = .inl z → PW E p l e (rmv 0 0 0) s m args below meth c 5 0 0 (MQ below (QG E (fun v u => v = some (.int r) ∧ u = h)) args s 0 0 (pA E)) h 5 [(0, some (.ref v0)), (1, some (.int v1)), (3, some (.int (z.1))), (4, some (.int (z.2)))] []) (kf : ∀ z : Int32, x = .inr z → z = r) : PW E p l e (rmv 0 0 0) s m args below meth c 5 0 0 (MQ below (QG E (fun v u => v = some (.int r) ∧ u = h)) args s 0 0 (pA E)) h 39 [(0, some (.ref v0)), (1, some (.int v1)), (3, some (.int v3)), (4, some (.int v4))] [] := by
  unfold fX8_placeOf_b39 at hf
  refine p_iinc (v := 1) X (dcg dc_X8_placeOf 21 rfl) rfl (by decide) (by decide) rfl ?_
  refine p_goto (tgt := 5) X (dcg dc_X8_placeOf 22 rfl) (by decide) ?_
  refine p_pick [0, 1, 3, 4] ?_
  exact k0 _ (Option.some.inj hf).symm
noncomputable def fX8_placeOf_c5 (v0 : Nat) (v1 : Int32) (v3 : Int32) (v4 : Int32) (h : PH) : Option ((Int32 × Int32) ⊕ Int32) :=
  gd (hK h v0 = 8) (if ((hI h 8 v0 1) ≤ v4) then (mr (fX8_placeOf_b45  h)) else
  if (v3 < 0) then (mr (fX8_placeOf_b45  h)) else
  gs (hR h 8 v0 0) (fun a6 =>
  gd (hK h a6 = 20 ∧ inb v4 (hN h a6)) (if (¬ (hI h 20 a6 (Int32.toNatClampNeg v4)) = v1) then (fX8_placeOf_b39 v0 v1 v3 v4 h) else
  if (¬ v3 = 0) then (fX8_placeOf_b39 v0 v1 (v3 + (-1)) v4 h) else
  mr (some (v4)))))
set_option maxRecDepth 100000 in
theorem wX8_placeOf_c5 {E : PE} {p : Program} {l : Launch} {e : Env} {s : State} {m : MethodId} {args : Array Value} {below : List Frame} {meth : Method} {c : Code} (X : Cx E p l e (rmv 0 0 0) s m args below meth c RX8 cX8_placeOf 5 (some .int)) (hG : Gs E l) (hnm : meth.name = yX8_placeOf.name) {v0 : Nat} {v1 : Int32} {v3 : Int32} {v4 : Int32} {h : PH} {r : Int32} {x : ((Int32 × Int32) ⊕ Int32)} (hf : fX8_placeOf_c5 v0 v1 v3 v4 h = some x) (k0 : ∀ z : (Int32 × Int32), x = .inl z → PW E p l e (rmv 0 0 0) s m args below meth c 5 0 0 (MQ below (QG E (fun v u => v = some (.int r) ∧ u = h)) args s 0 0 (pA E)) h 5 [(0, some (.ref v0)), (1, some (.int v1)), (3, some (.int (z.1))), (4, some (.int (z.2)))] []) (kf : ∀ z : Int32, x = .inr z → z = r) : PW E p l e (rmv 0 0 0) s m args below meth c 5 0 0 (MQ below (QG E (fun v u => v = some (.int r) ∧ u = h)) args s 0 0 (pA E)) h 5 [(0, some (.ref v0)), (1, some (.int v1)), (3, some (.int v3)), (4, some (.int v4))] [] := by
  unfold fX8_placeOf_c5 at hf
  refine p_iload X (dcg dc_X8_placeOf 4 rfl) rfl ?_
  refine p_aload_n X (dcg dc_X8_placeOf 5 rfl) rfl rfl ?_
  obtain ⟨hk1, hf⟩ := gd_some hf
  refine p_getI X fl_X8_15 rfl (by decide) (dcg dc_X8_placeOf 6 rfl) hk1 ?_
  refine p_icmp_ge (tgt := 45) X (dcg dc_X8_placeOf 7 rfl) (by decide) (fun q => ?_) (fun q => ?_)
  · have hf := if_t q hf
    obtain ⟨y2, hf, hy3⟩ := mr_some hf
    have hy3f := kf y2 hy3
    subst hy3f
    refine p_pick [] ?_
    exact wX8_placeOf_b45 X hG hnm hf 
  · have hf := if_f q hf
    refine p_iload_n X (dcg dc_X8_placeOf 8 rfl) rfl rfl ?_
    refine p_if_lt (tgt := 45) X (dcg dc_X8_placeOf 9 rfl) (by decide) (fun q => ?_) (fun q => ?_)
    · have hf := if_t q hf
      obtain ⟨y4, hf, hy5⟩ := mr_some hf
      have hy5f := kf y4 hy5
      subst hy5f
      refine p_pick [] ?_
      exact wX8_placeOf_b45 X hG hnm hf 
    · have hf := if_f q hf
      refine p_aload_n X (dcg dc_X8_placeOf 10 rfl) rfl rfl ?_
      refine p_getR X fl_X8_11 rfl (by decide) (dcg dc_X8_placeOf 11 rfl) hk1 ?_
      refine p_iload X (dcg dc_X8_placeOf 12 rfl) rfl ?_
      obtain ⟨a6, e7, hf⟩ := gs_some hf
      first | subst e7 | (try rw [e7])
      obtain ⟨⟨hk9, hb8⟩, hf⟩ := gd_some hf
      refine p_iald X (dcg dc_X8_placeOf 13 rfl) hk9 (vp_of_inb hb8) ?_
      refine p_iload_n X (dcg dc_X8_placeOf 14 rfl) rfl rfl ?_
      refine p_icmp_ne (tgt := 39) X (dcg dc_X8_placeOf 15 rfl) (by decide) (fun q => ?_) (fun q => ?_)
      · have hf := if_t q hf
        refine p_pick [0, 1, 3, 4] ?_
        exact wX8_placeOf_b39 X hG hnm hf k0 kf
      · have hf := if_f q hf
        refine p_iload_n X (dcg dc_X8_placeOf 16 rfl) rfl rfl ?_
        refine p_if_ne (tgt := 36) X (dcg dc_X8_placeOf 17 rfl) (by decide) (fun q => ?_) (fun q => ?_)
        · have hf := if_t q hf
          refine p_iinc (v := -1) X (dcg dc_X8_placeOf 20 rfl) rfl (by decide) (by decide) rfl ?_
          refine p_pick [0, 1, 3, 4] ?_
          exact wX8_placeOf_b39 X hG hnm hf k0 kf
        · have hf := if_f q hf
          obtain ⟨y10, hf, hy11⟩ := mr_some hf
          have hy11f := kf y10 hy11
          subst hy11f
          refine p_iload X (dcg dc_X8_placeOf 18 rfl) rfl ?_
          have er := Option.some.inj hf
          subst er
          exact p_iret X rfl (dcg dc_X8_placeOf 19 rfl) ⟨rfl, rfl⟩ (Nat.le_refl _) (Nat.le_refl _)
noncomputable def fX8_placeOf_l5 (v0 : Nat) (v1 : Int32) (v3 : Int32) (v4 : Int32) (h : PH) : Option Int32 := wh (fun z : (Int32 × Int32) => fX8_placeOf_c5 v0 v1 (z.1) (z.2) h) (v3, v4)
set_option maxRecDepth 100000 in
theorem wX8_placeOf_l5 {E : PE} {p : Program} {l : Launch} {e : Env} {s : State} {m : MethodId} {args : Array Value} {below : List Frame} {meth : Method} {c : Code} (X : Cx E p l e (rmv 0 0 0) s m args below meth c RX8 cX8_placeOf 5 (some .int)) (hG : Gs E l) (hnm : meth.name = yX8_placeOf.name) {v0 : Nat} {v1 : Int32} {v3 : Int32} {v4 : Int32} {h : PH} {r : Int32} (hf : fX8_placeOf_l5 v0 v1 v3 v4 h = some r)  : PW E p l e (rmv 0 0 0) s m args below meth c 5 0 0 (MQ below (QG E (fun v u => v = some (.int r) ∧ u = h)) args s 0 0 (pA E)) h 5 [(0, some (.ref v0)), (1, some (.int v1)), (3, some (.int v3)), (4, some (.int v4))] [] := by
  unfold fX8_placeOf_l5 at hf
  refine wh_ind (P := fun z => PW E p l e (rmv 0 0 0) s m args below meth c 5 0 0 (MQ below (QG E (fun v u => v = some (.int r) ∧ u = h)) args s 0 0 (pA E)) h 5 [(0, some (.ref v0)), (1, some (.int v1)), (3, some (.int (z.1))), (4, some (.int (z.2)))] []) (fun z x0 hs i1 i2 => ?_) _ hf
  exact wX8_placeOf_c5 (r := r) (v0 := v0) (v1 := v1) (v3 := z.1) (v4 := z.2) (h := h) X hG hnm hs i1  i2
noncomputable def fX8_placeOf (v0 : Nat) (v1 : Int32) (v2 : Int32) (h : PH) : Option Int32 :=
  fX8_placeOf_l5 v0 v1 v2 (0 : Int32) h
set_option maxRecDepth 100000 in
theorem wX8_placeOf {E : PE} {l : Launch} (hG : Gs E l) {v0 : Nat} {v1 : Int32} {v2 : Int32} {h : PH} {r : Int32} (hf : fX8_placeOf v0 v1 v2 h = some r) : Ct E l 0 0 0 yX8_placeOf cX8_placeOf 5 (some .int) [.ref v0, .int v1, .int v2] h (fun v u => v = some (.int r) ∧ u = h) := by
  refine ct_of hG (by decide) (Nat.le_of_ble_eq_true rfl) ?_
  intro p e s m args below meth c X hnm
  show PW E p l e _ s m args below meth c _ 0 0 _ h 0 [(0, some (.ref v0)), (1, some (.int v1)), (2, some (.int v2))] []
  unfold fX8_placeOf at hf
  refine p_iload_n X (dcg dc_X8_placeOf 0 rfl) rfl rfl ?_
  refine p_istore_n X (dcg dc_X8_placeOf 1 rfl) rfl (by decide) rfl ?_
  refine p_iconst (v := 0) X (dcg dc_X8_placeOf 2 rfl) (by decide) ?_
  refine p_istore X (dcg dc_X8_placeOf 3 rfl) (by decide) rfl ?_
  refine p_pick [0, 1, 3, 4] ?_
  exact wX8_placeOf_l5 X hG hnm hf 
theorem dc_X8_has : decs cX8_has [(0, .aload_n 0, 1), (1, .iload_n 1, 1), (2, .iconst 0, 1), (3, .invokevirtual 24, 3), (6, .iconst (-1), 1), (7, .if_icmp .eq 7, 3), (10, .iconst 1, 1), (11, .goto 4, 3), (14, .iconst 0, 1), (15, .ireturn, 1)] = true := by decide +kernel
noncomputable def fX8_has_b15 (t0 : Int32) (h : PH) : Option Int32 :=
  gd (t0 &&& 1 = t0) (some (t0))
set_option maxRecDepth 100000 in
theorem wX8_has_b15 {E : PE} {p : Program} {l : Launch} {e : Env} {s : State} {m : MethodId} {args : Array Value} {below : List Frame} {meth : Method} {c : Code} (X : Cx E p l e (rmv 1 0 0) s m args below meth c RX8 cX8_has 2 (some .boolean)) (hG : Gs E l) (hnm : meth.name = yX8_has.name) {t0 : Int32} {h : PH} {r : Int32} (hf : fX8_has_b15 t0 h = some r)  : PW E p l e (rmv 1 0 0) s m args below meth c 2 0 0 (MQ below (QG E (fun v u => v = some (.int r) ∧ u = h)) args s 0 0 (pA E)) h 15 [] [.int t0] := by
  unfold fX8_has_b15 at hf
  obtain ⟨hg3, hf⟩ := gd_some hf
  have er := Option.some.inj hf
  subst er
  exact p_zret X rfl (congrArg Value.int hg3) (dcg dc_X8_has 9 rfl) ⟨rfl, rfl⟩ (Nat.le_refl _) (Nat.le_refl _)
noncomputable def fX8_has (v0 : Nat) (v1 : Int32) (h : PH) : Option Int32 :=
  gd (hK h v0 = 8) (bd (fX8_placeOf v0 v1 (0 : Int32) h) (fun z2 =>
  if (z2 = (-1 : Int32)) then (fX8_has_b15 (0 : Int32) h) else
  fX8_has_b15 (1 : Int32) h))
set_option maxRecDepth 100000 in
theorem wX8_has {E : PE} {l : Launch} (hG : Gs E l) {v0 : Nat} {v1 : Int32} {h : PH} {r : Int32} (hf : fX8_has v0 v1 h = some r) : Ct E l 1 0 0 yX8_has cX8_has 2 (some .boolean) [.ref v0, .int v1] h (fun v u => v = some (.int r) ∧ u = h) := by
  refine ct_of hG (by decide) (Nat.le_of_ble_eq_true rfl) ?_
  intro p e s m args below meth c X hnm
  show PW E p l e _ s m args below meth c _ 0 0 _ h 0 [(0, some (.ref v0)), (1, some (.int v1))] []
  unfold fX8_has at hf
  refine p_aload_n X (dcg dc_X8_has 0 rfl) rfl rfl ?_
  refine p_iload_n X (dcg dc_X8_has 1 rfl) rfl rfl ?_
  refine p_iconst (v := 0) X (dcg dc_X8_has 2 rfl) (by decide) ?_
  obtain ⟨hk1, hf⟩ := gd_some hf
  obtain ⟨z2, hz2, hf⟩ := bd_some hf
  refine p_callV (As := [_, _]) X ml_X8_24 (dcg dc_X8_has 3 rfl) rfl rfl hk1 (wX8_placeOf hG hz2) (by decide) (room4 (Nat.le_of_ble_eq_true rfl)) (Nat.le_refl _) (Nat.le_refl _) ?_
  rintro _ u9 ⟨rfl, e9⟩; have e9 := e9.symm; subst e9
  refine p_iconst (v := -1) X (dcg dc_X8_has 4 rfl) (by decide) ?_
  refine p_icmp_eq (tgt := 14) X (dcg dc_X8_has 5 rfl) (by decide) (fun q => ?_) (fun q => ?_)
  · have hf := if_t q hf
    refine p_iconst (v := 0) X (dcg dc_X8_has 8 rfl) (by decide) ?_
    refine p_pick [] ?_
    exact wX8_has_b15 X hG hnm hf 
  · have hf := if_f q hf
    refine p_iconst (v := 1) X (dcg dc_X8_has 6 rfl) (by decide) ?_
    refine p_goto (tgt := 15) X (dcg dc_X8_has 7 rfl) (by decide) ?_
    refine p_pick [] ?_
    exact wX8_has_b15 X hG hnm hf 
theorem dc_X9_take : decs cX9_take [(0, .iload_n 1, 1), (1, .bipush 64, 2), (3, .if_icmp .ge 22, 3), (6, .aload_n 0, 1), (7, .dup, 1), (8, .getfield 11, 3), (11, .lconst 1, 1), (12, .iload_n 1, 1), (13, .lshl, 1), (14, .ldc2_w 18, 3), (17, .lxor, 1), (18, .land, 1), (19, .putfield 11, 3), (22, .goto 22, 3), (25, .aload_n 0, 1), (26, .dup, 1), (27, .getfield 15, 3), (30, .lconst 1, 1), (31, .iload_n 1, 1), (32, .bipush 64, 2), (34, .isub, 1), (35, .lshl, 1), (36, .ldc2_w 18, 3), (39, .lxor, 1), (40, .land, 1), (41, .putfield 15, 3), (44, .return_, 1)] = true := by decide +kernel
noncomputable def fX9_take_b44  (h : PH) : Option PH :=
  some (h)
set_option maxRecDepth 100000 in
theorem mX9_take_b44  {h : PH} {r : PH} (hf : fX9_take_b44  h = some r) : eqz h (hX r) (hV r) := by
  unfold fX9_take_b44 at hf
  have hle := eqz_rf h
  have ee := Option.some.inj hf; subst ee; exact hle
set_option maxRecDepth 100000 in
theorem wX9_take_b44 {E : PE} {p : Program} {l : Launch} {e : Env} {s : State} {m : MethodId} {args : Array Value} {below : List Frame} {meth : Method} {c : Code} (X : Cx E p l e (rmv 0 0 0) s m args below meth c RX9 cX9_take 2 (none)) (hG : Gs E l) (hnm : meth.name = yX9_take.name)  {h : PH} {r : PH} (hf : fX9_take_b44  h = some r)  : PW E p l e (rmv 0 0 0) s m args below meth c 2 0 0 (MQ below (QG E (fun v u => v = none ∧ u = r)) args s 0 0 (pA E)) h 44 [] [] := by
  unfold fX9_take_b44 at hf
  have er := Option.some.inj hf
  subst er
  exact p_vret X rfl (dcg dc_X9_take 26 rfl) ⟨rfl, rfl⟩ (Nat.le_refl _) (Nat.le_refl _)
noncomputable def fX9_take (v0 : Nat) (v1 : Int32) (h : PH) : Option PH :=
  if ((64 : Int32) ≤ v1) then (gd (hK h v0 = 9) (lt (sL h 9 v0 1 ((hL h 9 v0 1) &&& (((1 : Int64) <<< (Int32.toInt64 (v1 - (64 : Int32)) &&& 63)) ^^^ (-1 : Int64)))) (fun h2 =>
  fX9_take_b44  h2))) else
  gd (hK h v0 = 9) (lt (sL h 9 v0 0 ((hL h 9 v0 0) &&& (((1 : Int64) <<< (Int32.toInt64 v1 &&& 63)) ^^^ (-1 : Int64)))) (fun h4 =>
  fX9_take_b44  h4))
set_option maxRecDepth 100000 in
theorem mX9_take {v0 : Nat} {v1 : Int32} {h : PH} {r : PH} (hf : fX9_take v0 v1 h = some r) : eqz h (hX r) (hV r) := by
  unfold fX9_take at hf
  have hle := eqz_rf h
  rcases ite_or hf with ⟨q, hf⟩ | ⟨q, hf⟩
  · have hf := if_t q hf
    obtain ⟨hk1, hf⟩ := gd_some hf
    obtain ⟨h2, rfl, hf⟩ := lt_some hf
    exact eqz_rt (mX9_take_b44 hf) hle
  · have hf := if_f q hf
    obtain ⟨hk3, hf⟩ := gd_some hf
    obtain ⟨h4, rfl, hf⟩ := lt_some hf
    exact eqz_rt (mX9_take_b44 hf) hle
set_option maxRecDepth 100000 in
theorem wX9_take {E : PE} {l : Launch} (hG : Gs E l) {v0 : Nat} {v1 : Int32} {h : PH} {r : PH} (hf : fX9_take v0 v1 h = some r) : Ct E l 0 0 0 yX9_take cX9_take 2 (none) [.ref v0, .int v1] h (fun v u => v = none ∧ u = r) := by
  refine ct_of hG (by decide) (Nat.le_of_ble_eq_true rfl) ?_
  intro p e s m args below meth c X hnm
  show PW E p l e _ s m args below meth c _ 0 0 _ h 0 [(0, some (.ref v0)), (1, some (.int v1))] []
  unfold fX9_take at hf
  refine p_iload_n X (dcg dc_X9_take 0 rfl) rfl rfl ?_
  refine p_bipush (v := 64) X (dcg dc_X9_take 1 rfl) (by decide) ?_
  refine p_icmp_ge (tgt := 25) X (dcg dc_X9_take 2 rfl) (by decide) (fun q => ?_) (fun q => ?_)
  · have hf := if_t q hf
    refine p_aload_n X (dcg dc_X9_take 14 rfl) rfl rfl ?_
    refine p_dup X (dcg dc_X9_take 15 rfl) rfl ?_
    obtain ⟨hk1, hf⟩ := gd_some hf
    refine p_getL X fl_X9_15 rfl (by decide) (dcg dc_X9_take 16 rfl) hk1 ?_
    refine p_lconst (v := 1) X (dcg dc_X9_take 17 rfl) (by decide) ?_
    refine p_iload_n X (dcg dc_X9_take 18 rfl) rfl rfl ?_
    refine p_bipush (v := 64) X (dcg dc_X9_take 19 rfl) (by decide) ?_
    refine p_isub X (dcg dc_X9_take 20 rfl) ?_
    refine p_lshl X (dcg dc_X9_take 21 rfl) ?_
    refine p_ldc2 X tw_904 (dcg dc_X9_take 22 rfl) ?_
    refine p_lxor X (dcg dc_X9_take 23 rfl) ?_
    refine p_land X (dcg dc_X9_take 24 rfl) ?_
    refine p_putL X fl_X9_15 rfl (by decide) (fun q hq => by cases hq; rfl) rfl rfl (dcg dc_X9_take 25 rfl) hk1 ?_
    obtain ⟨h2, rfl, hf⟩ := lt_some hf
    refine p_pick [] ?_
    exact wX9_take_b44 X hG hnm hf 
  · have hf := if_f q hf
    refine p_aload_n X (dcg dc_X9_take 3 rfl) rfl rfl ?_
    refine p_dup X (dcg dc_X9_take 4 rfl) rfl ?_
    obtain ⟨hk3, hf⟩ := gd_some hf
    refine p_getL X fl_X9_11 rfl (by decide) (dcg dc_X9_take 5 rfl) hk3 ?_
    refine p_lconst (v := 1) X (dcg dc_X9_take 6 rfl) (by decide) ?_
    refine p_iload_n X (dcg dc_X9_take 7 rfl) rfl rfl ?_
    refine p_lshl X (dcg dc_X9_take 8 rfl) ?_
    refine p_ldc2 X tw_904 (dcg dc_X9_take 9 rfl) ?_
    refine p_lxor X (dcg dc_X9_take 10 rfl) ?_
    refine p_land X (dcg dc_X9_take 11 rfl) ?_
    refine p_putL X fl_X9_11 rfl (by decide) (fun q hq => by cases hq; rfl) rfl rfl (dcg dc_X9_take 12 rfl) hk3 ?_
    obtain ⟨h4, rfl, hf⟩ := lt_some hf
    refine p_goto (tgt := 44) X (dcg dc_X9_take 13 rfl) (by decide) ?_
    refine p_pick [] ?_
    exact wX9_take_b44 X hG hnm hf 
theorem dc_J13_bitCount_95d88 : decs cJ13_bitCount_95d88 [(0, .lload_n 0, 1), (1, .lload_n 0, 1), (2, .iconst 1, 1), (3, .lushr, 1), (4, .ldc2_w 314, 3), (7, .land, 1), (8, .lsub, 1), (9, .lstore_n 0, 1), (10, .lload_n 0, 1), (11, .ldc2_w 316, 3), (14, .land, 1), (15, .lload_n 0, 1), (16, .iconst 2, 1), (17, .lushr, 1), (18, .ldc2_w 316, 3), (21, .land, 1), (22, .ladd, 1), (23, .lstore_n 0, 1), (24, .lload_n 0, 1), (25, .lload_n 0, 1), (26, .iconst 4, 1), (27, .lushr, 1), (28, .ladd, 1), (29, .ldc2_w 318, 3), (32, .land, 1), (33, .lstore_n 0, 1), (34, .lload_n 0, 1), (35, .lload_n 0, 1), (36, .bipush 8, 2), (38, .lushr, 1), (39, .ladd, 1), (40, .lstore_n 0, 1), (41, .lload_n 0, 1), (42, .lload_n 0, 1), (43, .bipush 16, 2), (45, .lushr, 1), (46, .ladd, 1), (47, .lstore_n 0, 1), (48, .lload_n 0, 1), (49, .lload_n 0, 1), (50, .bipush 32, 2), (52, .lushr, 1), (53, .ladd, 1), (54, .lstore_n 0, 1), (55, .lload_n 0, 1), (56, .l2i, 1), (57, .bipush 127, 2), (59, .iand, 1), (60, .ireturn, 1)] = true := by decide +kernel
noncomputable def fJ13_bitCount_95d88 (v0 : Int64) : Option Int32 :=
  some ((((Int64.toInt32 ((((((((v0 - ((Int64.toUInt64 v0 >>> ((Int32.toInt64 (1 : Int32)).toUInt64 &&& Int64.toUInt64 63)).toInt64 &&& (6148914691236517205 : Int64))) &&& (3689348814741910323 : Int64)) + ((Int64.toUInt64 (v0 - ((Int64.toUInt64 v0 >>> ((Int32.toInt64 (1 : Int32)).toUInt64 &&& Int64.toUInt64 63)).toInt64 &&& (6148914691236517205 : Int64))) >>> ((Int32.toInt64 (2 : Int32)).toUInt64 &&& Int64.toUInt64 63)).toInt64 &&& (3689348814741910323 : Int64))) + (Int64.toUInt64 (((v0 - ((Int64.toUInt64 v0 >>> ((Int32.toInt64 (1 : Int32)).toUInt64 &&& Int64.toUInt64 63)).toInt64 &&& (6148914691236517205 : Int64))) &&& (3689348814741910323 : Int64)) + ((Int64.toUInt64 (v0 - ((Int64.toUInt64 v0 >>> ((Int32.toInt64 (1 : Int32)).toUInt64 &&& Int64.toUInt64 63)).toInt64 &&& (6148914691236517205 : Int64))) >>> ((Int32.toInt64 (2 : Int32)).toUInt64 &&& Int64.toUInt64 63)).toInt64 &&& (3689348814741910323 : Int64))) >>> ((Int32.toInt64 (4 : Int32)).toUInt64 &&& Int64.toUInt64 63)).toInt64) &&& (1085102592571150095 : Int64)) + (Int64.toUInt64 (((((v0 - ((Int64.toUInt64 v0 >>> ((Int32.toInt64 (1 : Int32)).toUInt64 &&& Int64.toUInt64 63)).toInt64 &&& (6148914691236517205 : Int64))) &&& (3689348814741910323 : Int64)) + ((Int64.toUInt64 (v0 - ((Int64.toUInt64 v0 >>> ((Int32.toInt64 (1 : Int32)).toUInt64 &&& Int64.toUInt64 63)).toInt64 &&& (6148914691236517205 : Int64))) >>> ((Int32.toInt64 (2 : Int32)).toUInt64 &&& Int64.toUInt64 63)).toInt64 &&& (3689348814741910323 : Int64))) + (Int64.toUInt64 (((v0 - ((Int64.toUInt64 v0 >>> ((Int32.toInt64 (1 : Int32)).toUInt64 &&& Int64.toUInt64 63)).toInt64 &&& (6148914691236517205 : Int64))) &&& (3689348814741910323 : Int64)) + ((Int64.toUInt64 (v0 - ((Int64.toUInt64 v0 >>> ((Int32.toInt64 (1 : Int32)).toUInt64 &&& Int64.toUInt64 63)).toInt64 &&& (6148914691236517205 : Int64))) >>> ((Int32.toInt64 (2 : Int32)).toUInt64 &&& Int64.toUInt64 63)).toInt64 &&& (3689348814741910323 : Int64))) >>> ((Int32.toInt64 (4 : Int32)).toUInt64 &&& Int64.toUInt64 63)).toInt64) &&& (1085102592571150095 : Int64)) >>> ((Int32.toInt64 (8 : Int32)).toUInt64 &&& Int64.toUInt64 63)).toInt64) + (Int64.toUInt64 ((((((v0 - ((Int64.toUInt64 v0 >>> ((Int32.toInt64 (1 : Int32)).toUInt64 &&& Int64.toUInt64 63)).toInt64 &&& (6148914691236517205 : Int64))) &&& (3689348814741910323 : Int64)) + ((Int64.toUInt64 (v0 - ((Int64.toUInt64 v0 >>> ((Int32.toInt64 (1 : Int32)).toUInt64 &&& Int64.toUInt64 63)).toInt64 &&& (6148914691236517205 : Int64))) >>> ((Int32.toInt64 (2 : Int32)).toUInt64 &&& Int64.toUInt64 63)).toInt64 &&& (3689348814741910323 : Int64))) + (Int64.toUInt64 (((v0 - ((Int64.toUInt64 v0 >>> ((Int32.toInt64 (1 : Int32)).toUInt64 &&& Int64.toUInt64 63)).toInt64 &&& (6148914691236517205 : Int64))) &&& (3689348814741910323 : Int64)) + ((Int64.toUInt64 (v0 - ((Int64.toUInt64 v0 >>> ((Int32.toInt64 (1 : Int32)).toUInt64 &&& Int64.toUInt64 63)).toInt64 &&& (6148914691236517205 : Int64))) >>> ((Int32.toInt64 (2 : Int32)).toUInt64 &&& Int64.toUInt64 63)).toInt64 &&& (3689348814741910323 : Int64))) >>> ((Int32.toInt64 (4 : Int32)).toUInt64 &&& Int64.toUInt64 63)).toInt64) &&& (1085102592571150095 : Int64)) + (Int64.toUInt64 (((((v0 - ((Int64.toUInt64 v0 >>> ((Int32.toInt64 (1 : Int32)).toUInt64 &&& Int64.toUInt64 63)).toInt64 &&& (6148914691236517205 : Int64))) &&& (3689348814741910323 : Int64)) + ((Int64.toUInt64 (v0 - ((Int64.toUInt64 v0 >>> ((Int32.toInt64 (1 : Int32)).toUInt64 &&& Int64.toUInt64 63)).toInt64 &&& (6148914691236517205 : Int64))) >>> ((Int32.toInt64 (2 : Int32)).toUInt64 &&& Int64.toUInt64 63)).toInt64 &&& (3689348814741910323 : Int64))) + (Int64.toUInt64 (((v0 - ((Int64.toUInt64 v0 >>> ((Int32.toInt64 (1 : Int32)).toUInt64 &&& Int64.toUInt64 63)).toInt64 &&& (6148914691236517205 : Int64))) &&& (3689348814741910323 : Int64)) + ((Int64.toUInt64 (v0 - ((Int64.toUInt64 v0 >>> ((Int32.toInt64 (1 : Int32)).toUInt64 &&& Int64.toUInt64 63)).toInt64 &&& (6148914691236517205 : Int64))) >>> ((Int32.toInt64 (2 : Int32)).toUInt64 &&& Int64.toUInt64 63)).toInt64 &&& (3689348814741910323 : Int64))) >>> ((Int32.toInt64 (4 : Int32)).toUInt64 &&& Int64.toUInt64 63)).toInt64) &&& (1085102592571150095 : Int64)) >>> ((Int32.toInt64 (8 : Int32)).toUInt64 &&& Int64.toUInt64 63)).toInt64) >>> ((Int32.toInt64 (16 : Int32)).toUInt64 &&& Int64.toUInt64 63)).toInt64) + (Int64.toUInt64 (((((((v0 - ((Int64.toUInt64 v0 >>> ((Int32.toInt64 (1 : Int32)).toUInt64 &&& Int64.toUInt64 63)).toInt64 &&& (6148914691236517205 : Int64))) &&& (3689348814741910323 : Int64)) + ((Int64.toUInt64 (v0 - ((Int64.toUInt64 v0 >>> ((Int32.toInt64 (1 : Int32)).toUInt64 &&& Int64.toUInt64 63)).toInt64 &&& (6148914691236517205 : Int64))) >>> ((Int32.toInt64 (2 : Int32)).toUInt64 &&& Int64.toUInt64 63)).toInt64 &&& (3689348814741910323 : Int64))) + (Int64.toUInt64 (((v0 - ((Int64.toUInt64 v0 >>> ((Int32.toInt64 (1 : Int32)).toUInt64 &&& Int64.toUInt64 63)).toInt64 &&& (6148914691236517205 : Int64))) &&& (3689348814741910323 : Int64)) + ((Int64.toUInt64 (v0 - ((Int64.toUInt64 v0 >>> ((Int32.toInt64 (1 : Int32)).toUInt64 &&& Int64.toUInt64 63)).toInt64 &&& (6148914691236517205 : Int64))) >>> ((Int32.toInt64 (2 : Int32)).toUInt64 &&& Int64.toUInt64 63)).toInt64 &&& (3689348814741910323 : Int64))) >>> ((Int32.toInt64 (4 : Int32)).toUInt64 &&& Int64.toUInt64 63)).toInt64) &&& (1085102592571150095 : Int64)) + (Int64.toUInt64 (((((v0 - ((Int64.toUInt64 v0 >>> ((Int32.toInt64 (1 : Int32)).toUInt64 &&& Int64.toUInt64 63)).toInt64 &&& (6148914691236517205 : Int64))) &&& (3689348814741910323 : Int64)) + ((Int64.toUInt64 (v0 - ((Int64.toUInt64 v0 >>> ((Int32.toInt64 (1 : Int32)).toUInt64 &&& Int64.toUInt64 63)).toInt64 &&& (6148914691236517205 : Int64))) >>> ((Int32.toInt64 (2 : Int32)).toUInt64 &&& Int64.toUInt64 63)).toInt64 &&& (3689348814741910323 : Int64))) + (Int64.toUInt64 (((v0 - ((Int64.toUInt64 v0 >>> ((Int32.toInt64 (1 : Int32)).toUInt64 &&& Int64.toUInt64 63)).toInt64 &&& (6148914691236517205 : Int64))) &&& (3689348814741910323 : Int64)) + ((Int64.toUInt64 (v0 - ((Int64.toUInt64 v0 >>> ((Int32.toInt64 (1 : Int32)).toUInt64 &&& Int64.toUInt64 63)).toInt64 &&& (6148914691236517205 : Int64))) >>> ((Int32.toInt64 (2 : Int32)).toUInt64 &&& Int64.toUInt64 63)).toInt64 &&& (3689348814741910323 : Int64))) >>> ((Int32.toInt64 (4 : Int32)).toUInt64 &&& Int64.toUInt64 63)).toInt64) &&& (1085102592571150095 : Int64)) >>> ((Int32.toInt64 (8 : Int32)).toUInt64 &&& Int64.toUInt64 63)).toInt64) + (Int64.toUInt64 ((((((v0 - ((Int64.toUInt64 v0 >>> ((Int32.toInt64 (1 : Int32)).toUInt64 &&& Int64.toUInt64 63)).toInt64 &&& (6148914691236517205 : Int64))) &&& (3689348814741910323 : Int64)) + ((Int64.toUInt64 (v0 - ((Int64.toUInt64 v0 >>> ((Int32.toInt64 (1 : Int32)).toUInt64 &&& Int64.toUInt64 63)).toInt64 &&& (6148914691236517205 : Int64))) >>> ((Int32.toInt64 (2 : Int32)).toUInt64 &&& Int64.toUInt64 63)).toInt64 &&& (3689348814741910323 : Int64))) + (Int64.toUInt64 (((v0 - ((Int64.toUInt64 v0 >>> ((Int32.toInt64 (1 : Int32)).toUInt64 &&& Int64.toUInt64 63)).toInt64 &&& (6148914691236517205 : Int64))) &&& (3689348814741910323 : Int64)) + ((Int64.toUInt64 (v0 - ((Int64.toUInt64 v0 >>> ((Int32.toInt64 (1 : Int32)).toUInt64 &&& Int64.toUInt64 63)).toInt64 &&& (6148914691236517205 : Int64))) >>> ((Int32.toInt64 (2 : Int32)).toUInt64 &&& Int64.toUInt64 63)).toInt64 &&& (3689348814741910323 : Int64))) >>> ((Int32.toInt64 (4 : Int32)).toUInt64 &&& Int64.toUInt64 63)).toInt64) &&& (1085102592571150095 : Int64)) + (Int64.toUInt64 (((((v0 - ((Int64.toUInt64 v0 >>> ((Int32.toInt64 (1 : Int32)).toUInt64 &&& Int64.toUInt64 63)).toInt64 &&& (6148914691236517205 : Int64))) &&& (3689348814741910323 : Int64)) + ((Int64.toUInt64 (v0 - ((Int64.toUInt64 v0 >>> ((Int32.toInt64 (1 : Int32)).toUInt64 &&& Int64.toUInt64 63)).toInt64 &&& (6148914691236517205 : Int64))) >>> ((Int32.toInt64 (2 : Int32)).toUInt64 &&& Int64.toUInt64 63)).toInt64 &&& (3689348814741910323 : Int64))) + (Int64.toUInt64 (((v0 - ((Int64.toUInt64 v0 >>> ((Int32.toInt64 (1 : Int32)).toUInt64 &&& Int64.toUInt64 63)).toInt64 &&& (6148914691236517205 : Int64))) &&& (3689348814741910323 : Int64)) + ((Int64.toUInt64 (v0 - ((Int64.toUInt64 v0 >>> ((Int32.toInt64 (1 : Int32)).toUInt64 &&& Int64.toUInt64 63)).toInt64 &&& (6148914691236517205 : Int64))) >>> ((Int32.toInt64 (2 : Int32)).toUInt64 &&& Int64.toUInt64 63)).toInt64 &&& (3689348814741910323 : Int64))) >>> ((Int32.toInt64 (4 : Int32)).toUInt64 &&& Int64.toUInt64 63)).toInt64) &&& (1085102592571150095 : Int64)) >>> ((Int32.toInt64 (8 : Int32)).toUInt64 &&& Int64.toUInt64 63)).toInt64) >>> ((Int32.toInt64 (16 : Int32)).toUInt64 &&& Int64.toUInt64 63)).toInt64) >>> ((Int32.toInt64 (32 : Int32)).toUInt64 &&& Int64.toUInt64 63)).toInt64))) &&& (127 : Int32)))
set_option maxRecDepth 100000 in
theorem wJ13_bitCount_95d88 {E : PE} {l : Launch} (hG : Gs E l) {v0 : Int64} {h : PH} {r : Int32} (hf : fJ13_bitCount_95d88 v0 = some r) : Ct E l 0 0 0 yJ13_bitCount_95d88 cJ13_bitCount_95d88 2 (some .int) [.long v0] h (fun v u => v = some (.int r) ∧ u = h) := by
  refine ct_of hG (by decide) (Nat.le_of_ble_eq_true rfl) ?_
  intro p e s m args below meth c X hnm
  show PW E p l e _ s m args below meth c _ 0 0 _ h 0 [(0, some (.long v0))] []
  unfold fJ13_bitCount_95d88 at hf
  refine p_lload_n X (dcg dc_J13_bitCount_95d88 0 rfl) rfl rfl ?_
  refine p_lload_n X (dcg dc_J13_bitCount_95d88 1 rfl) rfl rfl ?_
  refine p_iconst (v := 1) X (dcg dc_J13_bitCount_95d88 2 rfl) (by decide) ?_
  refine p_lushr X (dcg dc_J13_bitCount_95d88 3 rfl) ?_
  refine p_ldc2 X tw_912 (dcg dc_J13_bitCount_95d88 4 rfl) ?_
  refine p_land X (dcg dc_J13_bitCount_95d88 5 rfl) ?_
  refine p_lsub X (dcg dc_J13_bitCount_95d88 6 rfl) ?_
  refine p_lstore_n X (dcg dc_J13_bitCount_95d88 7 rfl) rfl (by decide) rfl ?_
  refine p_lload_n X (dcg dc_J13_bitCount_95d88 8 rfl) rfl rfl ?_
  refine p_ldc2 X tw_913 (dcg dc_J13_bitCount_95d88 9 rfl) ?_
  refine p_land X (dcg dc_J13_bitCount_95d88 10 rfl) ?_
  refine p_lload_n X (dcg dc_J13_bitCount_95d88 11 rfl) rfl rfl ?_
  refine p_iconst (v := 2) X (dcg dc_J13_bitCount_95d88 12 rfl) (by decide) ?_
  refine p_lushr X (dcg dc_J13_bitCount_95d88 13 rfl) ?_
  refine p_ldc2 X tw_913 (dcg dc_J13_bitCount_95d88 14 rfl) ?_
  refine p_land X (dcg dc_J13_bitCount_95d88 15 rfl) ?_
  refine p_ladd X (dcg dc_J13_bitCount_95d88 16 rfl) ?_
  refine p_lstore_n X (dcg dc_J13_bitCount_95d88 17 rfl) rfl (by decide) rfl ?_
  refine p_lload_n X (dcg dc_J13_bitCount_95d88 18 rfl) rfl rfl ?_
  refine p_lload_n X (dcg dc_J13_bitCount_95d88 19 rfl) rfl rfl ?_
  refine p_iconst (v := 4) X (dcg dc_J13_bitCount_95d88 20 rfl) (by decide) ?_
  refine p_lushr X (dcg dc_J13_bitCount_95d88 21 rfl) ?_
  refine p_ladd X (dcg dc_J13_bitCount_95d88 22 rfl) ?_
  refine p_ldc2 X tw_914 (dcg dc_J13_bitCount_95d88 23 rfl) ?_
  refine p_land X (dcg dc_J13_bitCount_95d88 24 rfl) ?_
  refine p_lstore_n X (dcg dc_J13_bitCount_95d88 25 rfl) rfl (by decide) rfl ?_
  refine p_lload_n X (dcg dc_J13_bitCount_95d88 26 rfl) rfl rfl ?_
  refine p_lload_n X (dcg dc_J13_bitCount_95d88 27 rfl) rfl rfl ?_
  refine p_bipush (v := 8) X (dcg dc_J13_bitCount_95d88 28 rfl) (by decide) ?_
  refine p_lushr X (dcg dc_J13_bitCount_95d88 29 rfl) ?_
  refine p_ladd X (dcg dc_J13_bitCount_95d88 30 rfl) ?_
  refine p_lstore_n X (dcg dc_J13_bitCount_95d88 31 rfl) rfl (by decide) rfl ?_
  refine p_lload_n X (dcg dc_J13_bitCount_95d88 32 rfl) rfl rfl ?_
  refine p_lload_n X (dcg dc_J13_bitCount_95d88 33 rfl) rfl rfl ?_
  refine p_bipush (v := 16) X (dcg dc_J13_bitCount_95d88 34 rfl) (by decide) ?_
  refine p_lushr X (dcg dc_J13_bitCount_95d88 35 rfl) ?_
  refine p_ladd X (dcg dc_J13_bitCount_95d88 36 rfl) ?_
  refine p_lstore_n X (dcg dc_J13_bitCount_95d88 37 rfl) rfl (by decide) rfl ?_
  refine p_lload_n X (dcg dc_J13_bitCount_95d88 38 rfl) rfl rfl ?_
  refine p_lload_n X (dcg dc_J13_bitCount_95d88 39 rfl) rfl rfl ?_
  refine p_bipush (v := 32) X (dcg dc_J13_bitCount_95d88 40 rfl) (by decide) ?_
  refine p_lushr X (dcg dc_J13_bitCount_95d88 41 rfl) ?_
  refine p_ladd X (dcg dc_J13_bitCount_95d88 42 rfl) ?_
  refine p_lstore_n X (dcg dc_J13_bitCount_95d88 43 rfl) rfl (by decide) rfl ?_
  refine p_lload_n X (dcg dc_J13_bitCount_95d88 44 rfl) rfl rfl ?_
  refine p_l2i X (dcg dc_J13_bitCount_95d88 45 rfl) ?_
  refine p_bipush (v := 127) X (dcg dc_J13_bitCount_95d88 46 rfl) (by decide) ?_
  refine p_iand X (dcg dc_J13_bitCount_95d88 47 rfl) ?_
  have er := Option.some.inj hf
  subst er
  exact p_iret X rfl (dcg dc_J13_bitCount_95d88 48 rfl) ⟨rfl, rfl⟩ (Nat.le_refl _) (Nat.le_refl _)
