/-! methods of the program (by program: wip/whole/gen2.py) -/
theorem dc_X8_init : decs cX8_init [(0, .aload_n 0, 1), (1, .invokespecial 3, 3), (4, .aload_n 0, 1), (5, .bipush 40, 2), (7, .newarray .int, 2), (9, .putfield 11, 3), (12, .return_, 1)] = true := by decide +kernel
noncomputable def fX8_init_b9 (t0 : Nat) (t1 : Nat) (h : PH) : Option PH :=
  gd (hK h t0 = 8) (lt (sR h 8 t0 0 (some t1)) (fun h3 =>
  some (h3)))
set_option maxRecDepth 100000 in
theorem mX8_init_b9 {t0 : Nat} {t1 : Nat} {h : PH} {r : PH} (hf : fX8_init_b9 t0 t1 h = some r) : lez h (hX r) (hV r) := by
  unfold fX8_init_b9 at hf
  have hle := lez_rf h
  obtain ⟨hk2, hf⟩ := gd_some hf
  obtain ⟨h3, rfl, hf⟩ := lt_some hf
  have ee := Option.some.inj hf; subst ee; exact hle
set_option maxRecDepth 100000 in
theorem wX8_init_b9 {E : PE} {p : Program} {l : Launch} {e : Env} {s : State} {m : MethodId} {args : Array Value} {below : List Frame} {meth : Method} {c : Code} {X0 V0 MC MS uc us : Nat} (X : Cx E p l e (rmv 1 MC MS) s m args below meth c RX8 cX8_init 1 (none)) (hG : Gs E l) (hnm : meth.name = yX8_init.name) {t0 : Nat} {t1 : Nat} {h : PH} {r : PH} (hM : MC + X0 = (hX r)) (hN : MS + V0 = (hV r)) (hu : uc + X0 = hX h) (hv : us + V0 = hV h) (hf : fX8_init_b9 t0 t1 h = some r)  : PW E p l e (rmv 1 MC MS) s m args below meth c 1 uc us (MQ below (QG E (fun v u => v = none ∧ u = r)) args s MC MS (pA E)) h 9 [] [.ref t1, .ref t0] := by
  have hm1 : lez h (hX r) (hV r) := mX8_init_b9 hf
  have hcm : uc ≤ MC := (by have o0 := hm1.1; have o1 := hM; have o2 := hu; (try simp only [hX_sI, hX_sR, hX_sL, hX_sD, hX_sIa, hX_sRa, hV_sI, hV_sR, hV_sL, hV_sD, hV_sIa, hV_sRa, hX_new, hV_new] at o0 o1 o2 ⊢); omega)
  have hsm : us ≤ MS := (by have o0 := hm1.2; have o1 := hN; have o2 := hv; (try simp only [hX_sI, hX_sR, hX_sL, hX_sD, hX_sIa, hX_sRa, hV_sI, hV_sR, hV_sL, hV_sD, hV_sIa, hV_sRa, hX_new, hV_new] at o0 o1 o2 ⊢); omega)
  clear hm1
  unfold fX8_init_b9 at hf
  obtain ⟨hk2, hf⟩ := gd_some hf
  refine p_putRf (v := some _) X fl_X8_11 rfl (by decide) (fun q hq => by cases hq; exact ⟨rfl, rfl⟩) hnm (nar_rf _ (by decide)) (fit_rf _ (by decide)) (dcg dc_X8_init 5 rfl) hk2 ?_
  obtain ⟨h3, rfl, hf⟩ := lt_some hf
  have er := Option.some.inj hf
  subst er
  exact p_vret X rfl (dcg dc_X8_init 6 rfl) ⟨rfl, rfl⟩ hcm hsm
noncomputable def fX8_init_b0 (v0 : Nat) (h : PH) : Option PH :=
  gd (¬ (40 : Int32) < 0 ∧ (Int32.toNatClampNeg (40 : Int32)) ≤ 1000000) (fX8_init_b9 v0 (hX h) (hnew h 20 (Int32.toNatClampNeg (40 : Int32))))
set_option maxRecDepth 100000 in
theorem mX8_init_b0 {v0 : Nat} {h : PH} {r : PH} (hf : fX8_init_b0 v0 h = some r) : lez h (hX r) (hV r) := by
  unfold fX8_init_b0 at hf
  have hle := lez_rf h
  obtain ⟨hg1, hf⟩ := gd_some hf
  have hle := lez_nw (c := 20) (n := (Int32.toNatClampNeg (40 : Int32))) hle
  exact lez_rt (mX8_init_b9 hf) hle
set_option maxRecDepth 100000 in
theorem wX8_init_b0 {E : PE} {p : Program} {l : Launch} {e : Env} {s : State} {m : MethodId} {args : Array Value} {below : List Frame} {meth : Method} {c : Code} {X0 V0 MC MS uc us : Nat} (X : Cx E p l e (rmv 1 MC MS) s m args below meth c RX8 cX8_init 1 (none)) (hG : Gs E l) (hnm : meth.name = yX8_init.name) {v0 : Nat} {h : PH} {r : PH} (hM : MC + X0 = (hX r)) (hN : MS + V0 = (hV r)) (hu : uc + X0 = hX h) (hv : us + V0 = hV h) (hf : fX8_init_b0 v0 h = some r)  : PW E p l e (rmv 1 MC MS) s m args below meth c 1 uc us (MQ below (QG E (fun v u => v = none ∧ u = r)) args s MC MS (pA E)) h 0 [(0, some (.ref v0))] [] := by
  have hm1 : lez h (hX r) (hV r) := mX8_init_b0 hf
  have hcm : uc ≤ MC := (by have o0 := hm1.1; have o1 := hM; have o2 := hu; (try simp only [hX_sI, hX_sR, hX_sL, hX_sD, hX_sIa, hX_sRa, hV_sI, hV_sR, hV_sL, hV_sD, hV_sIa, hV_sRa, hX_new, hV_new] at o0 o1 o2 ⊢); omega)
  have hsm : us ≤ MS := (by have o0 := hm1.2; have o1 := hN; have o2 := hv; (try simp only [hX_sI, hX_sR, hX_sL, hX_sD, hX_sIa, hX_sRa, hV_sI, hV_sR, hV_sL, hV_sD, hV_sIa, hV_sRa, hX_new, hV_new] at o0 o1 o2 ⊢); omega)
  clear hm1
  unfold fX8_init_b0 at hf
  refine p_aload_n X (dcg dc_X8_init 0 rfl) rfl rfl ?_
  refine p_objinit X tw_332 tw_146 tw_147 (dcg dc_X8_init 1 rfl) (Nat.le_of_ble_eq_true rfl) (Nat.le_trans (Nat.add_le_add_right (room4 (Nat.le_of_ble_eq_true rfl)) 12) (Nat.le_of_ble_eq_true rfl)) (fun ls hl => hl.1.trans X.2.2.1.symm) ?_
  refine p_aload_n X (dcg dc_X8_init 2 rfl) rfl rfl ?_
  refine p_bipush (v := 40) X (dcg dc_X8_init 3 rfl) (by decide) ?_
  obtain ⟨hg1, hf⟩ := gd_some hf
  have hm1 : lez _ (hX r) (hV r) := mX8_init_b9 hf
  have hm2 := lez_new hm1
  refine p_newa20 X tw_168 (dcg dc_X8_init 4 rfl) hg1.1 hg1.2 (show uc + 1 ≤ MC from (by have o0 := hm2.1; have o1 := hM; have o2 := hu; (try simp only [hX_sI, hX_sR, hX_sL, hX_sD, hX_sIa, hX_sRa, hV_sI, hV_sR, hV_sL, hV_sD, hV_sIa, hV_sRa, hX_new, hV_new] at o0 o1 o2 ⊢); omega)) (show us + (Int32.toNatClampNeg (40 : Int32)) ≤ MS from (by have o0 := hm2.2; have o1 := hN; have o2 := hv; (try simp only [hX_sI, hX_sR, hX_sL, hX_sD, hX_sIa, hX_sRa, hV_sI, hV_sR, hV_sL, hV_sD, hV_sIa, hV_sRa, hX_new, hV_new] at o0 o1 o2 ⊢); omega)) ?_
  refine p_pick [] ?_
  exact wX8_init_b9 X hG hnm hM hN (by have o0 := hu; (try simp only [hX_sI, hX_sR, hX_sL, hX_sD, hX_sIa, hX_sRa, hV_sI, hV_sR, hV_sL, hV_sD, hV_sIa, hV_sRa, hX_new, hV_new] at o0 ⊢); omega) (by have o0 := hv; (try simp only [hX_sI, hX_sR, hX_sL, hX_sD, hX_sIa, hX_sRa, hV_sI, hV_sR, hV_sL, hV_sD, hV_sIa, hV_sRa, hX_new, hV_new] at o0 ⊢); omega) hf 
noncomputable def fX8_init (v0 : Nat) (h : PH) : Option PH :=
  fX8_init_b0 v0 h
set_option maxRecDepth 100000 in
theorem mX8_init {v0 : Nat} {h : PH} {r : PH} (hf : fX8_init v0 h = some r) : lez h (hX r) (hV r) := by
  unfold fX8_init at hf
  have hle := lez_rf h
  exact lez_rt (mX8_init_b0 hf) hle
set_option maxRecDepth 100000 in
theorem wX8_init {E : PE} {l : Launch} (hG : Gs E l) {v0 : Nat} {h : PH} {r : PH} (hf : fX8_init v0 h = some r) : Ct E l 1 ((hX r) - hX h) ((hV r) - hV h) yX8_init cX8_init 1 (none) [.ref v0] h (fun v u => v = none ∧ u = r) := by
  have hmm := mX8_init hf
  refine ct_of hG (by decide) (Nat.le_of_ble_eq_true rfl) ?_
  intro p e s m args below meth c X hnm
  show PW E p l e _ s m args below meth c _ 0 0 _ h 0 [(0, some (.ref v0))] []
  unfold fX8_init at hf
  have hM := Nat.sub_add_cancel hmm.1
  have hN := Nat.sub_add_cancel hmm.2
  refine p_pick [0] ?_
  exact wX8_init_b0 X hG hnm hM hN (Nat.zero_add _) (Nat.zero_add _) hf
theorem dc_X0_init : decs cX0_init [(0, .aload_n 0, 1), (1, .invokespecial 3, 3), (4, .aload_n 0, 1), (5, .bipush 10, 2), (7, .newarray .int, 2), (9, .putfield 11, 3), (12, .aload_n 0, 1), (13, .new 15, 3), (16, .dup, 1), (17, .invokespecial 17, 3), (20, .putfield 18, 3), (23, .aload_n 0, 1), (24, .bipush 10, 2), (26, .newarray .int, 2), (28, .putfield 22, 3), (31, .aload_n 0, 1), (32, .iconst (-1), 1), (33, .putfield 25, 3), (36, .return_, 1)] = true := by decide +kernel
noncomputable def fX0_init_b28 (v0 : Nat) (t0 : Nat) (t1 : Nat) (h : PH) : Option PH :=
  gd (hK h t0 = 0) (lt (sR h 0 t0 3 (some t1)) (fun h9 =>
  gd (hK h9 v0 = 0) (lt (sI h9 0 v0 4 (-1 : Int32)) (fun h11 =>
  some (h11)))))
set_option maxRecDepth 100000 in
theorem mX0_init_b28 {v0 : Nat} {t0 : Nat} {t1 : Nat} {h : PH} {r : PH} (hf : fX0_init_b28 v0 t0 t1 h = some r) : lez h (hX r) (hV r) := by
  unfold fX0_init_b28 at hf
  have hle := lez_rf h
  obtain ⟨hk8, hf⟩ := gd_some hf
  obtain ⟨h9, rfl, hf⟩ := lt_some hf
  obtain ⟨hk10, hf⟩ := gd_some hf
  obtain ⟨h11, rfl, hf⟩ := lt_some hf
  have ee := Option.some.inj hf; subst ee; exact hle
set_option maxRecDepth 100000 in
theorem wX0_init_b28 {E : PE} {p : Program} {l : Launch} {e : Env} {s : State} {m : MethodId} {args : Array Value} {below : List Frame} {meth : Method} {c : Code} {X0 V0 MC MS uc us : Nat} (X : Cx E p l e (rmv 2 MC MS) s m args below meth c RX0 cX0_init 1 (none)) (hG : Gs E l) (hnm : meth.name = yX0_init.name) {v0 : Nat} {t0 : Nat} {t1 : Nat} {h : PH} {r : PH} (hM : MC + X0 = (hX r)) (hN : MS + V0 = (hV r)) (hu : uc + X0 = hX h) (hv : us + V0 = hV h) (hf : fX0_init_b28 v0 t0 t1 h = some r)  : PW E p l e (rmv 2 MC MS) s m args below meth c 1 uc us (MQ below (QG E (fun v u => v = none ∧ u = r)) args s MC MS (pA E)) h 28 [(0, some (.ref v0))] [.ref t1, .ref t0] := by
  have hm1 : lez h (hX r) (hV r) := mX0_init_b28 hf
  have hcm : uc ≤ MC := (by have o0 := hm1.1; have o1 := hM; have o2 := hu; (try simp only [hX_sI, hX_sR, hX_sL, hX_sD, hX_sIa, hX_sRa, hV_sI, hV_sR, hV_sL, hV_sD, hV_sIa, hV_sRa, hX_new, hV_new] at o0 o1 o2 ⊢); omega)
  have hsm : us ≤ MS := (by have o0 := hm1.2; have o1 := hN; have o2 := hv; (try simp only [hX_sI, hX_sR, hX_sL, hX_sD, hX_sIa, hX_sRa, hV_sI, hV_sR, hV_sL, hV_sD, hV_sIa, hV_sRa, hX_new, hV_new] at o0 o1 o2 ⊢); omega)
  clear hm1
  unfold fX0_init_b28 at hf
  obtain ⟨hk8, hf⟩ := gd_some hf
  refine p_putRf (v := some _) X fl_X0_22 rfl (by decide) (fun q hq => by cases hq; exact ⟨rfl, rfl⟩) hnm (nar_rf _ (by decide)) (fit_rf _ (by decide)) (dcg dc_X0_init 14 rfl) hk8 ?_
  obtain ⟨h9, rfl, hf⟩ := lt_some hf
  refine p_aload_n X (dcg dc_X0_init 15 rfl) rfl rfl ?_
  refine p_iconst (v := -1) X (dcg dc_X0_init 16 rfl) (by decide) ?_
  obtain ⟨hk10, hf⟩ := gd_some hf
  refine p_putI X fl_X0_25 rfl (by decide) (fun q hq => by cases hq; rfl) rfl rfl (dcg dc_X0_init 17 rfl) hk10 ?_
  obtain ⟨h11, rfl, hf⟩ := lt_some hf
  have er := Option.some.inj hf
  subst er
  exact p_vret X rfl (dcg dc_X0_init 18 rfl) ⟨rfl, rfl⟩ hcm hsm
noncomputable def fX0_init_b20 (v0 : Nat) (t0 : Nat) (t1 : Nat) (h : PH) : Option PH :=
  gd (hK h t0 = 0) (lt (sR h 0 t0 2 (some t1)) (fun h6 =>
  gd (¬ (10 : Int32) < 0 ∧ (Int32.toNatClampNeg (10 : Int32)) ≤ 1000000) (fX0_init_b28 v0 v0 (hX h6) (hnew h6 20 (Int32.toNatClampNeg (10 : Int32))))))
set_option maxRecDepth 100000 in
theorem mX0_init_b20 {v0 : Nat} {t0 : Nat} {t1 : Nat} {h : PH} {r : PH} (hf : fX0_init_b20 v0 t0 t1 h = some r) : lez h (hX r) (hV r) := by
  unfold fX0_init_b20 at hf
  have hle := lez_rf h
  obtain ⟨hk5, hf⟩ := gd_some hf
  obtain ⟨h6, rfl, hf⟩ := lt_some hf
  obtain ⟨hg7, hf⟩ := gd_some hf
  have hle := lez_nw (c := 20) (n := (Int32.toNatClampNeg (10 : Int32))) hle
  exact lez_rt (mX0_init_b28 hf) hle
set_option maxRecDepth 100000 in
theorem wX0_init_b20 {E : PE} {p : Program} {l : Launch} {e : Env} {s : State} {m : MethodId} {args : Array Value} {below : List Frame} {meth : Method} {c : Code} {X0 V0 MC MS uc us : Nat} (X : Cx E p l e (rmv 2 MC MS) s m args below meth c RX0 cX0_init 1 (none)) (hG : Gs E l) (hnm : meth.name = yX0_init.name) {v0 : Nat} {t0 : Nat} {t1 : Nat} {h : PH} {r : PH} (hM : MC + X0 = (hX r)) (hN : MS + V0 = (hV r)) (hu : uc + X0 = hX h) (hv : us + V0 = hV h) (hf : fX0_init_b20 v0 t0 t1 h = some r)  : PW E p l e (rmv 2 MC MS) s m args below meth c 1 uc us (MQ below (QG E (fun v u => v = none ∧ u = r)) args s MC MS (pA E)) h 20 [(0, some (.ref v0))] [.ref t1, .ref t0] := by
  have hm1 : lez h (hX r) (hV r) := mX0_init_b20 hf
  have hcm : uc ≤ MC := (by have o0 := hm1.1; have o1 := hM; have o2 := hu; (try simp only [hX_sI, hX_sR, hX_sL, hX_sD, hX_sIa, hX_sRa, hV_sI, hV_sR, hV_sL, hV_sD, hV_sIa, hV_sRa, hX_new, hV_new] at o0 o1 o2 ⊢); omega)
  have hsm : us ≤ MS := (by have o0 := hm1.2; have o1 := hN; have o2 := hv; (try simp only [hX_sI, hX_sR, hX_sL, hX_sD, hX_sIa, hX_sRa, hV_sI, hV_sR, hV_sL, hV_sD, hV_sIa, hV_sRa, hX_new, hV_new] at o0 o1 o2 ⊢); omega)
  clear hm1
  unfold fX0_init_b20 at hf
  obtain ⟨hk5, hf⟩ := gd_some hf
  refine p_putRf (v := some _) X fl_X0_18 rfl (by decide) (fun q hq => by cases hq; exact ⟨rfl, rfl⟩) hnm (nar_rf _ (by decide)) (fit_rf _ (by decide)) (dcg dc_X0_init 10 rfl) hk5 ?_
  obtain ⟨h6, rfl, hf⟩ := lt_some hf
  refine p_aload_n X (dcg dc_X0_init 11 rfl) rfl rfl ?_
  refine p_bipush (v := 10) X (dcg dc_X0_init 12 rfl) (by decide) ?_
  obtain ⟨hg7, hf⟩ := gd_some hf
  have hm1 : lez _ (hX r) (hV r) := mX0_init_b28 hf
  have hm2 := lez_new hm1
  refine p_newa20 X tw_168 (dcg dc_X0_init 13 rfl) hg7.1 hg7.2 (show uc + 1 ≤ MC from (by have o0 := hm2.1; have o1 := hM; have o2 := hu; (try simp only [hX_sI, hX_sR, hX_sL, hX_sD, hX_sIa, hX_sRa, hV_sI, hV_sR, hV_sL, hV_sD, hV_sIa, hV_sRa, hX_new, hV_new] at o0 o1 o2 ⊢); omega)) (show us + (Int32.toNatClampNeg (10 : Int32)) ≤ MS from (by have o0 := hm2.2; have o1 := hN; have o2 := hv; (try simp only [hX_sI, hX_sR, hX_sL, hX_sD, hX_sIa, hX_sRa, hV_sI, hV_sR, hV_sL, hV_sD, hV_sIa, hV_sRa, hX_new, hV_new] at o0 o1 o2 ⊢); omega)) ?_
  refine p_pick [0] ?_
  exact wX0_init_b28 X hG hnm hM hN (by have o0 := hu; (try simp only [hX_sI, hX_sR, hX_sL, hX_sD, hX_sIa, hX_sRa, hV_sI, hV_sR, hV_sL, hV_sD, hV_sIa, hV_sRa, hX_new, hV_new] at o0 ⊢); omega) (by have o0 := hv; (try simp only [hX_sI, hX_sR, hX_sL, hX_sD, hX_sIa, hX_sRa, hV_sI, hV_sR, hV_sL, hV_sD, hV_sIa, hV_sRa, hX_new, hV_new] at o0 ⊢); omega) hf 
noncomputable def fX0_init_b16 (v0 : Nat) (t0 : Nat) (t1 : Nat) (h : PH) : Option PH :=
  bd (fX8_init t1 h) (fun z4 =>
  fX0_init_b20 v0 t0 t1 z4)
set_option maxRecDepth 100000 in
theorem mX0_init_b16 {v0 : Nat} {t0 : Nat} {t1 : Nat} {h : PH} {r : PH} (hf : fX0_init_b16 v0 t0 t1 h = some r) : lez h (hX r) (hV r) := by
  unfold fX0_init_b16 at hf
  have hle := lez_rf h
  obtain ⟨z4, hz4, hf⟩ := bd_some hf
  have hle := lez_rt (mX8_init hz4) hle
  exact lez_rt (mX0_init_b20 hf) hle
set_option maxRecDepth 100000 in
theorem wX0_init_b16 {E : PE} {p : Program} {l : Launch} {e : Env} {s : State} {m : MethodId} {args : Array Value} {below : List Frame} {meth : Method} {c : Code} {X0 V0 MC MS uc us : Nat} (X : Cx E p l e (rmv 2 MC MS) s m args below meth c RX0 cX0_init 1 (none)) (hG : Gs E l) (hnm : meth.name = yX0_init.name) {v0 : Nat} {t0 : Nat} {t1 : Nat} {h : PH} {r : PH} (hM : MC + X0 = (hX r)) (hN : MS + V0 = (hV r)) (hu : uc + X0 = hX h) (hv : us + V0 = hV h) (hf : fX0_init_b16 v0 t0 t1 h = some r)  : PW E p l e (rmv 2 MC MS) s m args below meth c 1 uc us (MQ below (QG E (fun v u => v = none ∧ u = r)) args s MC MS (pA E)) h 16 [(0, some (.ref v0))] [.ref t1, .ref t0] := by
  have hm1 : lez h (hX r) (hV r) := mX0_init_b16 hf
  have hcm : uc ≤ MC := (by have o0 := hm1.1; have o1 := hM; have o2 := hu; (try simp only [hX_sI, hX_sR, hX_sL, hX_sD, hX_sIa, hX_sRa, hV_sI, hV_sR, hV_sL, hV_sD, hV_sIa, hV_sRa, hX_new, hV_new] at o0 o1 o2 ⊢); omega)
  have hsm : us ≤ MS := (by have o0 := hm1.2; have o1 := hN; have o2 := hv; (try simp only [hX_sI, hX_sR, hX_sL, hX_sD, hX_sIa, hX_sRa, hV_sI, hV_sR, hV_sL, hV_sD, hV_sIa, hV_sRa, hX_new, hV_new] at o0 o1 o2 ⊢); omega)
  clear hm1
  unfold fX0_init_b16 at hf
  refine p_dup X (dcg dc_X0_init 8 rfl) rfl ?_
  obtain ⟨z4, hz4, hf⟩ := bd_some hf
  have hc1 := mX8_init hz4
  have hm1 : lez _ (hX r) (hV r) := mX0_init_b20 hf
  refine p_callIn (As := []) (ret1 := none) X ml_X0_17 (dcg dc_X0_init 9 rfl) rfl rfl  (wX8_init hG hz4) (by decide) (room4 (Nat.le_of_ble_eq_true rfl)) (by have o0 := hm1.1; have o1 := hc1.1; have o2 := hM; have o3 := hu; (try simp only [hX_sI, hX_sR, hX_sL, hX_sD, hX_sIa, hX_sRa, hV_sI, hV_sR, hV_sL, hV_sD, hV_sIa, hV_sRa, hX_new, hV_new] at o0 o1 o2 o3 ⊢); omega) (by have o0 := hm1.2; have o1 := hc1.2; have o2 := hN; have o3 := hv; (try simp only [hX_sI, hX_sR, hX_sL, hX_sD, hX_sIa, hX_sRa, hV_sI, hV_sR, hV_sL, hV_sD, hV_sIa, hV_sRa, hX_new, hV_new] at o0 o1 o2 o3 ⊢); omega) ?_
  rintro _ u9 ⟨rfl, e9⟩; have e9 := e9.symm; subst e9
  refine p_pick [0] ?_
  exact wX0_init_b20 X hG hnm hM hN (by have o0 := hc1.1; have o1 := hu; (try simp only [hX_sI, hX_sR, hX_sL, hX_sD, hX_sIa, hX_sRa, hV_sI, hV_sR, hV_sL, hV_sD, hV_sIa, hV_sRa, hX_new, hV_new] at o0 o1 ⊢); omega) (by have o0 := hc1.2; have o1 := hv; (try simp only [hX_sI, hX_sR, hX_sL, hX_sD, hX_sIa, hX_sRa, hV_sI, hV_sR, hV_sL, hV_sD, hV_sIa, hV_sRa, hX_new, hV_new] at o0 o1 ⊢); omega) hf 
noncomputable def fX0_init_b9 (v0 : Nat) (t0 : Nat) (t1 : Nat) (h : PH) : Option PH :=
  gd (hK h t0 = 0) (lt (sR h 0 t0 0 (some t1)) (fun h3 =>
  fX0_init_b16 v0 v0 (hX h3) (hnew h3 8 2)))
set_option maxRecDepth 100000 in
theorem mX0_init_b9 {v0 : Nat} {t0 : Nat} {t1 : Nat} {h : PH} {r : PH} (hf : fX0_init_b9 v0 t0 t1 h = some r) : lez h (hX r) (hV r) := by
  unfold fX0_init_b9 at hf
  have hle := lez_rf h
  obtain ⟨hk2, hf⟩ := gd_some hf
  obtain ⟨h3, rfl, hf⟩ := lt_some hf
  have hle := lez_nw (c := 8) (n := 2) hle
  exact lez_rt (mX0_init_b16 hf) hle
set_option maxRecDepth 100000 in
theorem wX0_init_b9 {E : PE} {p : Program} {l : Launch} {e : Env} {s : State} {m : MethodId} {args : Array Value} {below : List Frame} {meth : Method} {c : Code} {X0 V0 MC MS uc us : Nat} (X : Cx E p l e (rmv 2 MC MS) s m args below meth c RX0 cX0_init 1 (none)) (hG : Gs E l) (hnm : meth.name = yX0_init.name) {v0 : Nat} {t0 : Nat} {t1 : Nat} {h : PH} {r : PH} (hM : MC + X0 = (hX r)) (hN : MS + V0 = (hV r)) (hu : uc + X0 = hX h) (hv : us + V0 = hV h) (hf : fX0_init_b9 v0 t0 t1 h = some r)  : PW E p l e (rmv 2 MC MS) s m args below meth c 1 uc us (MQ below (QG E (fun v u => v = none ∧ u = r)) args s MC MS (pA E)) h 9 [(0, some (.ref v0))] [.ref t1, .ref t0] := by
  have hm1 : lez h (hX r) (hV r) := mX0_init_b9 hf
  have hcm : uc ≤ MC := (by have o0 := hm1.1; have o1 := hM; have o2 := hu; (try simp only [hX_sI, hX_sR, hX_sL, hX_sD, hX_sIa, hX_sRa, hV_sI, hV_sR, hV_sL, hV_sD, hV_sIa, hV_sRa, hX_new, hV_new] at o0 o1 o2 ⊢); omega)
  have hsm : us ≤ MS := (by have o0 := hm1.2; have o1 := hN; have o2 := hv; (try simp only [hX_sI, hX_sR, hX_sL, hX_sD, hX_sIa, hX_sRa, hV_sI, hV_sR, hV_sL, hV_sD, hV_sIa, hV_sRa, hX_new, hV_new] at o0 o1 o2 ⊢); omega)
  clear hm1
  unfold fX0_init_b9 at hf
  obtain ⟨hk2, hf⟩ := gd_some hf
  refine p_putRf (v := some _) X fl_X0_11 rfl (by decide) (fun q hq => by cases hq; exact ⟨rfl, rfl⟩) hnm (nar_rf _ (by decide)) (fit_rf _ (by decide)) (dcg dc_X0_init 5 rfl) hk2 ?_
  obtain ⟨h3, rfl, hf⟩ := lt_some hf
  refine p_aload_n X (dcg dc_X0_init 6 rfl) rfl rfl ?_
  have hm1 : lez _ (hX r) (hV r) := mX0_init_b16 hf
  have hm2 := lez_new hm1
  refine p_newN (ci := 8) (q := (RX8, TX8, 2)) (n := 2) X rfl rfl (by decide) tw_327 tw_328 tw_112 (dcg dc_X0_init 7 rfl) (show uc + 1 ≤ MC from (by have o0 := hm2.1; have o1 := hM; have o2 := hu; (try simp only [hX_sI, hX_sR, hX_sL, hX_sD, hX_sIa, hX_sRa, hV_sI, hV_sR, hV_sL, hV_sD, hV_sIa, hV_sRa, hX_new, hV_new] at o0 o1 o2 ⊢); omega)) (show us + 2 ≤ MS from (by have o0 := hm2.2; have o1 := hN; have o2 := hv; (try simp only [hX_sI, hX_sR, hX_sL, hX_sD, hX_sIa, hX_sRa, hV_sI, hV_sR, hV_sL, hV_sD, hV_sIa, hV_sRa, hX_new, hV_new] at o0 o1 o2 ⊢); omega)) ?_
  refine p_pick [0] ?_
  exact wX0_init_b16 X hG hnm hM hN (by have o0 := hu; (try simp only [hX_sI, hX_sR, hX_sL, hX_sD, hX_sIa, hX_sRa, hV_sI, hV_sR, hV_sL, hV_sD, hV_sIa, hV_sRa, hX_new, hV_new] at o0 ⊢); omega) (by have o0 := hv; (try simp only [hX_sI, hX_sR, hX_sL, hX_sD, hX_sIa, hX_sRa, hV_sI, hV_sR, hV_sL, hV_sD, hV_sIa, hV_sRa, hX_new, hV_new] at o0 ⊢); omega) hf 
noncomputable def fX0_init_b0 (v0 : Nat) (h : PH) : Option PH :=
  gd (¬ (10 : Int32) < 0 ∧ (Int32.toNatClampNeg (10 : Int32)) ≤ 1000000) (fX0_init_b9 v0 v0 (hX h) (hnew h 20 (Int32.toNatClampNeg (10 : Int32))))
set_option maxRecDepth 100000 in
theorem mX0_init_b0 {v0 : Nat} {h : PH} {r : PH} (hf : fX0_init_b0 v0 h = some r) : lez h (hX r) (hV r) := by
  unfold fX0_init_b0 at hf
  have hle := lez_rf h
  obtain ⟨hg1, hf⟩ := gd_some hf
  have hle := lez_nw (c := 20) (n := (Int32.toNatClampNeg (10 : Int32))) hle
  exact lez_rt (mX0_init_b9 hf) hle
set_option maxRecDepth 100000 in
theorem wX0_init_b0 {E : PE} {p : Program} {l : Launch} {e : Env} {s : State} {m : MethodId} {args : Array Value} {below : List Frame} {meth : Method} {c : Code} {X0 V0 MC MS uc us : Nat} (X : Cx E p l e (rmv 2 MC MS) s m args below meth c RX0 cX0_init 1 (none)) (hG : Gs E l) (hnm : meth.name = yX0_init.name) {v0 : Nat} {h : PH} {r : PH} (hM : MC + X0 = (hX r)) (hN : MS + V0 = (hV r)) (hu : uc + X0 = hX h) (hv : us + V0 = hV h) (hf : fX0_init_b0 v0 h = some r)  : PW E p l e (rmv 2 MC MS) s m args below meth c 1 uc us (MQ below (QG E (fun v u => v = none ∧ u = r)) args s MC MS (pA E)) h 0 [(0, some (.ref v0))] [] := by
  have hm1 : lez h (hX r) (hV r) := mX0_init_b0 hf
  have hcm : uc ≤ MC := (by have o0 := hm1.1; have o1 := hM; have o2 := hu; (try simp only [hX_sI, hX_sR, hX_sL, hX_sD, hX_sIa, hX_sRa, hV_sI, hV_sR, hV_sL, hV_sD, hV_sIa, hV_sRa, hX_new, hV_new] at o0 o1 o2 ⊢); omega)
  have hsm : us ≤ MS := (by have o0 := hm1.2; have o1 := hN; have o2 := hv; (try simp only [hX_sI, hX_sR, hX_sL, hX_sD, hX_sIa, hX_sRa, hV_sI, hV_sR, hV_sL, hV_sD, hV_sIa, hV_sRa, hX_new, hV_new] at o0 o1 o2 ⊢); omega)
  clear hm1
  unfold fX0_init_b0 at hf
  refine p_aload_n X (dcg dc_X0_init 0 rfl) rfl rfl ?_
  refine p_objinit X tw_326 tw_146 tw_147 (dcg dc_X0_init 1 rfl) (Nat.le_of_ble_eq_true rfl) (Nat.le_trans (Nat.add_le_add_right (room4 (Nat.le_of_ble_eq_true rfl)) 12) (Nat.le_of_ble_eq_true rfl)) (fun ls hl => hl.1.trans X.2.2.1.symm) ?_
  refine p_aload_n X (dcg dc_X0_init 2 rfl) rfl rfl ?_
  refine p_bipush (v := 10) X (dcg dc_X0_init 3 rfl) (by decide) ?_
  obtain ⟨hg1, hf⟩ := gd_some hf
  have hm1 : lez _ (hX r) (hV r) := mX0_init_b9 hf
  have hm2 := lez_new hm1
  refine p_newa20 X tw_168 (dcg dc_X0_init 4 rfl) hg1.1 hg1.2 (show uc + 1 ≤ MC from (by have o0 := hm2.1; have o1 := hM; have o2 := hu; (try simp only [hX_sI, hX_sR, hX_sL, hX_sD, hX_sIa, hX_sRa, hV_sI, hV_sR, hV_sL, hV_sD, hV_sIa, hV_sRa, hX_new, hV_new] at o0 o1 o2 ⊢); omega)) (show us + (Int32.toNatClampNeg (10 : Int32)) ≤ MS from (by have o0 := hm2.2; have o1 := hN; have o2 := hv; (try simp only [hX_sI, hX_sR, hX_sL, hX_sD, hX_sIa, hX_sRa, hV_sI, hV_sR, hV_sL, hV_sD, hV_sIa, hV_sRa, hX_new, hV_new] at o0 o1 o2 ⊢); omega)) ?_
  refine p_pick [0] ?_
  exact wX0_init_b9 X hG hnm hM hN (by have o0 := hu; (try simp only [hX_sI, hX_sR, hX_sL, hX_sD, hX_sIa, hX_sRa, hV_sI, hV_sR, hV_sL, hV_sD, hV_sIa, hV_sRa, hX_new, hV_new] at o0 ⊢); omega) (by have o0 := hv; (try simp only [hX_sI, hX_sR, hX_sL, hX_sD, hX_sIa, hX_sRa, hV_sI, hV_sR, hV_sL, hV_sD, hV_sIa, hV_sRa, hX_new, hV_new] at o0 ⊢); omega) hf 
noncomputable def fX0_init (v0 : Nat) (h : PH) : Option PH :=
  fX0_init_b0 v0 h
set_option maxRecDepth 100000 in
theorem mX0_init {v0 : Nat} {h : PH} {r : PH} (hf : fX0_init v0 h = some r) : lez h (hX r) (hV r) := by
  unfold fX0_init at hf
  have hle := lez_rf h
  exact lez_rt (mX0_init_b0 hf) hle
set_option maxRecDepth 100000 in
theorem wX0_init {E : PE} {l : Launch} (hG : Gs E l) {v0 : Nat} {h : PH} {r : PH} (hf : fX0_init v0 h = some r) : Ct E l 2 ((hX r) - hX h) ((hV r) - hV h) yX0_init cX0_init 1 (none) [.ref v0] h (fun v u => v = none ∧ u = r) := by
  have hmm := mX0_init hf
  refine ct_of hG (by decide) (Nat.le_of_ble_eq_true rfl) ?_
  intro p e s m args below meth c X hnm
  show PW E p l e _ s m args below meth c _ 0 0 _ h 0 [(0, some (.ref v0))] []
  unfold fX0_init at hf
  have hM := Nat.sub_add_cancel hmm.1
  have hN := Nat.sub_add_cancel hmm.2
  refine p_pick [0] ?_
  exact wX0_init_b0 X hG hnm hM hN (Nat.zero_add _) (Nat.zero_add _) hf
theorem dc_X0_forgetWords : decs cX0_forgetWords [(0, .aload_n 0, 1), (1, .iconst 0, 1), (2, .putfield 29, 3), (5, .return_, 1)] = true := by decide +kernel
noncomputable def fX0_forgetWords (v0 : Nat) (h : PH) : Option PH :=
  gd (hK h v0 = 0) (lt (sI h 0 v0 1 (0 : Int32)) (fun h2 =>
  some (h2)))
set_option maxRecDepth 100000 in
theorem mX0_forgetWords {v0 : Nat} {h : PH} {r : PH} (hf : fX0_forgetWords v0 h = some r) : eqz h (hX r) (hV r) := by
  unfold fX0_forgetWords at hf
  have hle := eqz_rf h
  obtain ⟨hk1, hf⟩ := gd_some hf
  obtain ⟨h2, rfl, hf⟩ := lt_some hf
  have ee := Option.some.inj hf; subst ee; exact hle
set_option maxRecDepth 100000 in
theorem wX0_forgetWords {E : PE} {l : Launch} (hG : Gs E l) {v0 : Nat} {h : PH} {r : PH} (hf : fX0_forgetWords v0 h = some r) : Ct E l 0 0 0 yX0_forgetWords cX0_forgetWords 1 (none) [.ref v0] h (fun v u => v = none ∧ u = r) := by
  refine ct_of hG (by decide) (Nat.le_of_ble_eq_true rfl) ?_
  intro p e s m args below meth c X hnm
  show PW E p l e _ s m args below meth c _ 0 0 _ h 0 [(0, some (.ref v0))] []
  unfold fX0_forgetWords at hf
  refine p_aload_n X (dcg dc_X0_forgetWords 0 rfl) rfl rfl ?_
  refine p_iconst (v := 0) X (dcg dc_X0_forgetWords 1 rfl) (by decide) ?_
  obtain ⟨hk1, hf⟩ := gd_some hf
  refine p_putI X fl_X0_29 rfl (by decide) (fun q hq => by cases hq; rfl) rfl rfl (dcg dc_X0_forgetWords 2 rfl) hk1 ?_
  obtain ⟨h2, rfl, hf⟩ := lt_some hf
  have er := Option.some.inj hf
  subst er
  exact p_vret X rfl (dcg dc_X0_forgetWords 3 rfl) ⟨rfl, rfl⟩ (Nat.le_refl _) (Nat.le_refl _)
theorem dc_Jx4a65c_size_8abf5 : decs cJx4a65c_size_8abf5 [(0, .aload_n 0, 1), (1, .getfield 48, 3), (4, .ireturn, 1)] = true := by decide +kernel
noncomputable def fJx4a65c_size_8abf5 (v0 : Nat) (h : PH) : Option Int32 :=
  gd (hK h v0 = 14) (some ((hI h 14 v0 2)))
set_option maxRecDepth 100000 in
theorem wJx4a65c_size_8abf5 {E : PE} {l : Launch} (hG : Gs E l) {v0 : Nat} {h : PH} {r : Int32} (hf : fJx4a65c_size_8abf5 v0 h = some r) : Ct E l 0 0 0 yJx4a65c_size_8abf5 cJx4a65c_size_8abf5 1 (some .int) [.ref v0] h (fun v u => v = some (.int r) ∧ u = h) := by
  refine ct_of hG (by decide) (Nat.le_of_ble_eq_true rfl) ?_
  intro p e s m args below meth c X hnm
  show PW E p l e _ s m args below meth c _ 0 0 _ h 0 [(0, some (.ref v0))] []
  unfold fJx4a65c_size_8abf5 at hf
  refine p_aload_n X (dcg dc_Jx4a65c_size_8abf5 0 rfl) rfl rfl ?_
  obtain ⟨hk1, hf⟩ := gd_some hf
  refine p_getI X fl_Jx4a65c_48 rfl (by decide) (dcg dc_Jx4a65c_size_8abf5 1 rfl) hk1 ?_
  have er := Option.some.inj hf
  subst er
  exact p_iret X rfl (dcg dc_Jx4a65c_size_8abf5 2 rfl) ⟨rfl, rfl⟩ (Nat.le_refl _) (Nat.le_refl _)
theorem dc_J3_checkIndex_8e157 : decs cJ3_checkIndex_8e157 [(0, .iload_n 0, 1), (1, .ifCond .lt 8, 3), (4, .iload_n 0, 1), (5, .iload_n 1, 1), (6, .if_icmp .lt 10, 3), (9, .aload_n 2, 1), (10, .iload_n 0, 1), (11, .iload_n 1, 1), (12, .invokestatic 95, 3), (15, .athrow, 1), (16, .iload_n 0, 1), (17, .ireturn, 1)] = true := by decide +kernel
noncomputable def fJ3_checkIndex_8e157_b9 (v0 : Int32) (v1 : Int32) (v2 : Option Nat) : Option Int32 :=
  none
set_option maxRecDepth 100000 in
theorem wJ3_checkIndex_8e157_b9 {E : PE} {p : Program} {l : Launch} {e : Env} {s : State} {m : MethodId} {args : Array Value} {below : List Frame} {meth : Method} {c : Code} (X : Cx E p l e (rmv 0 0 0) s m args below meth c RJ3 cJ3_checkIndex_8e157 3 (some .int)) (hG : Gs E l) (hnm : meth.name = yJ3_checkIndex_8e157.name) {v0 : Int32} {v1 : Int32} {v2 : Option Nat} {h : PH} {r : Int32} (hf : fJ3_checkIndex_8e157_b9 v0 v1 v2 = some r)  : PW E p l e (rmv 0 0 0) s m args below meth c 3 0 0 (MQ below (QG E (fun v u => v = some (.int r) ∧ u = h)) args s 0 0 (pA E)) h 9 [(0, some (.int v0)), (1, some (.int v1)), (2, some (va_rf v2))] [] := by
  unfold fJ3_checkIndex_8e157_b9 at hf
  refine p_aloadq_n X (dcg dc_J3_checkIndex_8e157 5 rfl) rfl rfl ?_
  refine p_iload_n X (dcg dc_J3_checkIndex_8e157 6 rfl) rfl rfl ?_
  refine p_iload_n X (dcg dc_J3_checkIndex_8e157 7 rfl) rfl rfl ?_
  cases hf
noncomputable def fJ3_checkIndex_8e157 (v0 : Int32) (v1 : Int32) (v2 : Option Nat) : Option Int32 :=
  if (v0 < 0) then (fJ3_checkIndex_8e157_b9 v0 v1 v2) else
  if (v0 < v1) then (some (v0)) else
  fJ3_checkIndex_8e157_b9 v0 v1 v2
set_option maxRecDepth 100000 in
theorem wJ3_checkIndex_8e157 {E : PE} {l : Launch} (hG : Gs E l) {v0 : Int32} {v1 : Int32} {v2 : Option Nat} {h : PH} {r : Int32} (hf : fJ3_checkIndex_8e157 v0 v1 v2 = some r) : Ct E l 0 0 0 yJ3_checkIndex_8e157 cJ3_checkIndex_8e157 3 (some .int) [.int v0, .int v1, va_rf v2] h (fun v u => v = some (.int r) ∧ u = h) := by
  refine ct_of hG (by decide) (by simp [lg_sl, cat_rf, cat_r, cat_i, cat_l, cat_d, cat_f]) ?_
  intro p e s m args below meth c X hnm
  rw [show pargs 0 [.int v0, .int v1, va_rf v2] = [(0, some (.int v0)), (1, some (.int v1)), (2, some (va_rf v2))] from by simp [pargs, cat_rf, cat_r, cat_i, cat_l, cat_d, cat_f]]
  unfold fJ3_checkIndex_8e157 at hf
  refine p_iload_n X (dcg dc_J3_checkIndex_8e157 0 rfl) rfl rfl ?_
  refine p_if_lt (tgt := 9) X (dcg dc_J3_checkIndex_8e157 1 rfl) (by decide) (fun q => ?_) (fun q => ?_)
  · have hf := if_t q hf
    refine p_pick [0, 1, 2] ?_
    exact wJ3_checkIndex_8e157_b9 X hG hnm hf 
  · have hf := if_f q hf
    refine p_iload_n X (dcg dc_J3_checkIndex_8e157 2 rfl) rfl rfl ?_
    refine p_iload_n X (dcg dc_J3_checkIndex_8e157 3 rfl) rfl rfl ?_
    refine p_icmp_lt (tgt := 16) X (dcg dc_J3_checkIndex_8e157 4 rfl) (by decide) (fun q => ?_) (fun q => ?_)
    · have hf := if_t q hf
      refine p_iload_n X (dcg dc_J3_checkIndex_8e157 10 rfl) rfl rfl ?_
      have er := Option.some.inj hf
      subst er
      exact p_iret X rfl (dcg dc_J3_checkIndex_8e157 11 rfl) ⟨rfl, rfl⟩ (Nat.le_refl _) (Nat.le_refl _)
    · have hf := if_f q hf
      refine p_pick [0, 1, 2] ?_
      exact wJ3_checkIndex_8e157_b9 X hG hnm hf 
theorem dc_J15_checkIndex_7cf53 : decs cJ15_checkIndex_7cf53 [(0, .iload_n 0, 1), (1, .iload_n 1, 1), (2, .aconst_null, 1), (3, .invokestatic 105, 3), (6, .ireturn, 1)] = true := by decide +kernel
noncomputable def fJ15_checkIndex_7cf53 (v0 : Int32) (v1 : Int32) : Option Int32 :=
  bd (fJ3_checkIndex_8e157 v0 v1 none) (fun z1 =>
  some (z1))
set_option maxRecDepth 100000 in
theorem wJ15_checkIndex_7cf53 {E : PE} {l : Launch} (hG : Gs E l) {v0 : Int32} {v1 : Int32} {h : PH} {r : Int32} (hf : fJ15_checkIndex_7cf53 v0 v1 = some r) : Ct E l 1 0 0 yJ15_checkIndex_7cf53 cJ15_checkIndex_7cf53 2 (some .int) [.int v0, .int v1] h (fun v u => v = some (.int r) ∧ u = h) := by
  refine ct_of hG (by decide) (Nat.le_of_ble_eq_true rfl) ?_
  intro p e s m args below meth c X hnm
  show PW E p l e _ s m args below meth c _ 0 0 _ h 0 [(0, some (.int v0)), (1, some (.int v1))] []
  unfold fJ15_checkIndex_7cf53 at hf
  refine p_iload_n X (dcg dc_J15_checkIndex_7cf53 0 rfl) rfl rfl ?_
  refine p_iload_n X (dcg dc_J15_checkIndex_7cf53 1 rfl) rfl rfl ?_
  refine p_null X (dcg dc_J15_checkIndex_7cf53 2 rfl) ?_
  obtain ⟨z1, hz1, hf⟩ := bd_some hf
  refine p_callS (As := [_, _, va_rf _]) X ml_J15_105 (dcg dc_J15_checkIndex_7cf53 3 rfl) rfl rfl  (wJ3_checkIndex_8e157 hG hz1) (by decide) (room4 (Nat.le_of_ble_eq_true rfl)) (Nat.le_refl _) (Nat.le_refl _) ?_
  rintro _ u9 ⟨rfl, e9⟩; have e9 := e9.symm; subst e9
  have er := Option.some.inj hf
  subst er
  exact p_iret X rfl (dcg dc_J15_checkIndex_7cf53 4 rfl) ⟨rfl, rfl⟩ (Nat.le_refl _) (Nat.le_refl _)
theorem dc_Jx4a65c_elementData_915e3 : decs cJx4a65c_elementData_915e3 [(0, .aload_n 0, 1), (1, .getfield 9, 3), (4, .iload_n 1, 1), (5, .aaload, 1), (6, .areturn, 1)] = true := by decide +kernel
noncomputable def fJx4a65c_elementData_915e3 (v0 : Nat) (v1 : Int32) (h : PH) : Option (Option Nat) :=
  gd (hK h v0 = 14) (gs (hR h 14 v0 1) (fun a2 =>
  gd (hK h a2 = 28 ∧ inb v1 (hN h a2)) (some ((hR h 28 a2 (Int32.toNatClampNeg v1))))))
set_option maxRecDepth 100000 in
theorem wJx4a65c_elementData_915e3 {E : PE} {l : Launch} (hG : Gs E l) {v0 : Nat} {v1 : Int32} {h : PH} {r : (Option Nat)} (hf : fJx4a65c_elementData_915e3 v0 v1 h = some r) : Ct E l 0 0 0 yJx4a65c_elementData_915e3 cJx4a65c_elementData_915e3 2 (some (.object "java/lang/Object")) [.ref v0, .int v1] h (fun v u => v = some (va_rf r) ∧ u = h) := by
  refine ct_of hG (by decide) (Nat.le_of_ble_eq_true rfl) ?_
  intro p e s m args below meth c X hnm
  show PW E p l e _ s m args below meth c _ 0 0 _ h 0 [(0, some (.ref v0)), (1, some (.int v1))] []
  unfold fJx4a65c_elementData_915e3 at hf
  refine p_aload_n X (dcg dc_Jx4a65c_elementData_915e3 0 rfl) rfl rfl ?_
  obtain ⟨hk1, hf⟩ := gd_some hf
  refine p_getR X fl_Jx4a65c_9 rfl (by decide) (dcg dc_Jx4a65c_elementData_915e3 1 rfl) hk1 ?_
  refine p_iload_n X (dcg dc_Jx4a65c_elementData_915e3 2 rfl) rfl rfl ?_
  obtain ⟨a2, e3, hf⟩ := gs_some hf
  first | subst e3 | (try rw [e3])
  obtain ⟨⟨hk5, hb4⟩, hf⟩ := gd_some hf
  refine p_aald28 X (dcg dc_Jx4a65c_elementData_915e3 3 rfl) hk5 (vp_of_inb hb4) ?_
  have er := Option.some.inj hf
  subst er
  exact p_aret X rfl (Or.inl ⟨_, rfl⟩) (dcg dc_Jx4a65c_elementData_915e3 4 rfl) ⟨rfl, rfl⟩ (Nat.le_refl _) (Nat.le_refl _)
theorem dc_Jx4a65c_get_915e3 : decs cJx4a65c_get_915e3 [(0, .iload_n 1, 1), (1, .aload_n 0, 1), (2, .getfield 48, 3), (5, .invokestatic 118, 3), (8, .pop, 1), (9, .aload_n 0, 1), (10, .iload_n 1, 1), (11, .invokevirtual 123, 3), (14, .areturn, 1)] = true := by decide +kernel
noncomputable def fJx4a65c_get_915e3 (v0 : Nat) (v1 : Int32) (h : PH) : Option (Option Nat) :=
  gd (hK h v0 = 14) (bd (fJ15_checkIndex_7cf53 v1 (hI h 14 v0 2)) (fun z2 =>
  bd (fJx4a65c_elementData_915e3 v0 v1 h) (fun z3 =>
  some (z3))))
set_option maxRecDepth 100000 in
theorem wJx4a65c_get_915e3 {E : PE} {l : Launch} (hG : Gs E l) {v0 : Nat} {v1 : Int32} {h : PH} {r : (Option Nat)} (hf : fJx4a65c_get_915e3 v0 v1 h = some r) : Ct E l 2 0 0 yJx4a65c_get_915e3 cJx4a65c_get_915e3 2 (some (.object "java/lang/Object")) [.ref v0, .int v1] h (fun v u => v = some (va_rf r) ∧ u = h) := by
  refine ct_of hG (by decide) (Nat.le_of_ble_eq_true rfl) ?_
  intro p e s m args below meth c X hnm
  show PW E p l e _ s m args below meth c _ 0 0 _ h 0 [(0, some (.ref v0)), (1, some (.int v1))] []
  unfold fJx4a65c_get_915e3 at hf
  refine p_iload_n X (dcg dc_Jx4a65c_get_915e3 0 rfl) rfl rfl ?_
  refine p_aload_n X (dcg dc_Jx4a65c_get_915e3 1 rfl) rfl rfl ?_
  obtain ⟨hk1, hf⟩ := gd_some hf
  refine p_getI X fl_Jx4a65c_48 rfl (by decide) (dcg dc_Jx4a65c_get_915e3 2 rfl) hk1 ?_
  obtain ⟨z2, hz2, hf⟩ := bd_some hf
  refine p_callS (As := [_, _]) X ml_Jx4a65c_118 (dcg dc_Jx4a65c_get_915e3 3 rfl) rfl rfl  (wJ15_checkIndex_7cf53 hG hz2) (by decide) (room4 (Nat.le_of_ble_eq_true rfl)) (Nat.le_refl _) (Nat.le_refl _) ?_
  rintro _ u9 ⟨rfl, e9⟩; have e9 := e9.symm; subst e9
  refine p_pop X (dcg dc_Jx4a65c_get_915e3 4 rfl) rfl ?_
  refine p_aload_n X (dcg dc_Jx4a65c_get_915e3 5 rfl) rfl rfl ?_
  refine p_iload_n X (dcg dc_Jx4a65c_get_915e3 6 rfl) rfl rfl ?_
  obtain ⟨z3, hz3, hf⟩ := bd_some hf
  refine p_callV (As := [_]) X ml_Jx4a65c_123 (dcg dc_Jx4a65c_get_915e3 7 rfl) rfl rfl hk1 (wJx4a65c_elementData_915e3 hG hz3) (by decide) (room4 (Nat.le_of_ble_eq_true rfl)) (Nat.le_refl _) (Nat.le_refl _) ?_
  rintro _ u9 ⟨rfl, e9⟩; have e9 := e9.symm; subst e9
  have er := Option.some.inj hf
  subst er
  exact p_aret X rfl (Or.inl ⟨_, rfl⟩) (dcg dc_Jx4a65c_get_915e3 8 rfl) ⟨rfl, rfl⟩ (Nat.le_refl _) (Nat.le_refl _)
theorem dc_X4_soughtAt : decs cX4_soughtAt [(0, .iload_n 1, 1), (1, .ifCond .lt 12, 3), (4, .iload_n 1, 1), (5, .aload_n 0, 1), (6, .getfield 15, 3), (9, .arraylength, 1), (10, .if_icmp .lt 7, 3), (13, .iconst (-1), 1), (14, .goto 9, 3), (17, .aload_n 0, 1), (18, .getfield 15, 3), (21, .iload_n 1, 1), (22, .iaload, 1), (23, .ireturn, 1)] = true := by decide +kernel
noncomputable def fX4_soughtAt_b23 (t0 : Int32) (h : PH) : Option Int32 :=
  some (t0)
set_option maxRecDepth 100000 in
theorem wX4_soughtAt_b23 {E : PE} {p : Program} {l : Launch} {e : Env} {s : State} {m : MethodId} {args : Array Value} {below : List Frame} {meth : Method} {c : Code} (X : Cx E p l e (rmv 0 0 0) s m args below meth c RX4 cX4_soughtAt 2 (some .int)) (hG : Gs E l) (hnm : meth.name = yX4_soughtAt.name) {t0 : Int32} {h : PH} {r : Int32} (hf : fX4_soughtAt_b23 t0 h = some r)  : PW E p l e (rmv 0 0 0) s m args below meth c 2 0 0 (MQ below (QG E (fun v u => v = some (.int r) ∧ u = h)) args s 0 0 (pA E)) h 23 [] [.int t0] := by
  unfold fX4_soughtAt_b23 at hf
  have er := Option.some.inj hf
  subst er
  exact p_iret X rfl (dcg dc_X4_soughtAt 13 rfl) ⟨rfl, rfl⟩ (Nat.le_refl _) (Nat.le_refl _)
noncomputable def fX4_soughtAt_b13  (h : PH) : Option Int32 :=
  fX4_soughtAt_b23 (-1 : Int32) h
set_option maxRecDepth 100000 in
theorem wX4_soughtAt_b13 {E : PE} {p : Program} {l : Launch} {e : Env} {s : State} {m : MethodId} {args : Array Value} {below : List Frame} {meth : Method} {c : Code} (X : Cx E p l e (rmv 0 0 0) s m args below meth c RX4 cX4_soughtAt 2 (some .int)) (hG : Gs E l) (hnm : meth.name = yX4_soughtAt.name)  {h : PH} {r : Int32} (hf : fX4_soughtAt_b13  h = some r)  : PW E p l e (rmv 0 0 0) s m args below meth c 2 0 0 (MQ below (QG E (fun v u => v = some (.int r) ∧ u = h)) args s 0 0 (pA E)) h 13 [] [] := by
  unfold fX4_soughtAt_b13 at hf
  refine p_iconst (v := -1) X (dcg dc_X4_soughtAt 7 rfl) (by decide) ?_
  refine p_goto (tgt := 23) X (dcg dc_X4_soughtAt 8 rfl) (by decide) ?_
  refine p_pick [] ?_
  exact wX4_soughtAt_b23 X hG hnm hf 
noncomputable def fX4_soughtAt (v0 : Nat) (v1 : Int32) (h : PH) : Option Int32 :=
  if (v1 < 0) then (fX4_soughtAt_b13  h) else
  gd (hK h v0 = 4) (gs (hR h 4 v0 1) (fun a2 =>
  gd (hK h a2 = 20) (if (v1 < (nI (hN h a2))) then (gs (hR h 4 v0 1) (fun a5 =>
  gd (hK h a5 = 20 ∧ inb v1 (hN h a5)) (fX4_soughtAt_b23 (hI h 20 a5 (Int32.toNatClampNeg v1)) h))) else
  fX4_soughtAt_b13  h)))
set_option maxRecDepth 100000 in
theorem wX4_soughtAt {E : PE} {l : Launch} (hG : Gs E l) {v0 : Nat} {v1 : Int32} {h : PH} {r : Int32} (hf : fX4_soughtAt v0 v1 h = some r) : Ct E l 0 0 0 yX4_soughtAt cX4_soughtAt 2 (some .int) [.ref v0, .int v1] h (fun v u => v = some (.int r) ∧ u = h) := by
  refine ct_of hG (by decide) (Nat.le_of_ble_eq_true rfl) ?_
  intro p e s m args below meth c X hnm
  show PW E p l e _ s m args below meth c _ 0 0 _ h 0 [(0, some (.ref v0)), (1, some (.int v1))] []
  unfold fX4_soughtAt at hf
  refine p_iload_n X (dcg dc_X4_soughtAt 0 rfl) rfl rfl ?_
  refine p_if_lt (tgt := 13) X (dcg dc_X4_soughtAt 1 rfl) (by decide) (fun q => ?_) (fun q => ?_)
  · have hf := if_t q hf
    refine p_pick [] ?_
    exact wX4_soughtAt_b13 X hG hnm hf 
  · have hf := if_f q hf
    refine p_iload_n X (dcg dc_X4_soughtAt 2 rfl) rfl rfl ?_
    refine p_aload_n X (dcg dc_X4_soughtAt 3 rfl) rfl rfl ?_
    obtain ⟨hk1, hf⟩ := gd_some hf
    refine p_getR X fl_X4_15 rfl (by decide) (dcg dc_X4_soughtAt 4 rfl) hk1 ?_
    obtain ⟨a2, e3, hf⟩ := gs_some hf
    first | subst e3 | (try rw [e3])
    obtain ⟨hk4, hf⟩ := gd_some hf
    refine p_alen20 X (dcg dc_X4_soughtAt 5 rfl) hk4 ?_
    refine p_icmp_lt (tgt := 17) X (dcg dc_X4_soughtAt 6 rfl) (by decide) (fun q => ?_) (fun q => ?_)
    · have hf := if_t q hf
      refine p_aload_n X (dcg dc_X4_soughtAt 9 rfl) rfl rfl ?_
      refine p_getR X fl_X4_15 rfl (by decide) (dcg dc_X4_soughtAt 10 rfl) hk1 ?_
      refine p_iload_n X (dcg dc_X4_soughtAt 11 rfl) rfl rfl ?_
      obtain ⟨a5, e6, hf⟩ := gs_some hf
      first | subst e6 | (try rw [e6])
      obtain ⟨⟨hk8, hb7⟩, hf⟩ := gd_some hf
      refine p_iald X (dcg dc_X4_soughtAt 12 rfl) hk8 (vp_of_inb hb7) ?_
      refine p_pick [] ?_
      exact wX4_soughtAt_b23 X hG hnm hf 
    · have hf := if_f q hf
      refine p_pick [] ?_
      exact wX4_soughtAt_b13 X hG hnm hf 
theorem dc_X10_lettersOf : decs cX10_lettersOf [(0, .iconst 0, 1), (1, .istore_n 1, 1), (2, .iload_n 1, 1), (3, .bipush 6, 2), (5, .if_icmp .ge 18, 3), (8, .iload_n 0, 1), (9, .getstatic 23, 3), (12, .iload_n 1, 1), (13, .iaload, 1), (14, .if_icmp .lt 9, 3), (17, .iinc 1 1, 3), (20, .goto (-18), 3), (23, .iload_n 1, 1), (24, .ireturn, 1)] = true := by decide +kernel
noncomputable def fX10_lettersOf_b23 (v1 : Int32) : Option Int32 :=
  some (v1)
set_option maxRecDepth 100000 in
theorem wX10_lettersOf_b23 {E : PE} {p : Program} {l : Launch} {e : Env} {s : State} {m : MethodId} {args : Array Value} {below : List Frame} {meth : Method} {c : Code} (X : Cx E p l e (rmv 0 0 0) s m args below meth c RX10 cX10_lettersOf 2 (some .int)) (hG : Gs E l) (hnm : meth.name = yX10_lettersOf.name) {v1 : Int32} {h : PH} {r : Int32} (hf : fX10_lettersOf_b23 v1 = some r)  : PW E p l e (rmv 0 0 0) s m args below meth c 2 0 0 (MQ below (QG E (fun v u => v = some (.int r) ∧ u = h)) args s 0 0 (pA E)) h 23 [(1, some (.int v1))] [] := by
  unfold fX10_lettersOf_b23 at hf
  refine p_iload_n X (dcg dc_X10_lettersOf 12 rfl) rfl rfl ?_
  have er := Option.some.inj hf
  subst er
  exact p_iret X rfl (dcg dc_X10_lettersOf 13 rfl) ⟨rfl, rfl⟩ (Nat.le_refl _) (Nat.le_refl _)
noncomputable def fX10_lettersOf_c2 (v0 : Int32) (v1 : Int32) : Option ((Int32) ⊕ Int32) :=
  if ((6 : Int32) ≤ v1) then (mr (fX10_lettersOf_b23 v1)) else
  gd (inb v1 7) (if (v0 < (pwv (Int32.toNatClampNeg v1))) then (mr (fX10_lettersOf_b23 v1)) else
  some (.inl ((v1 + 1))))
set_option maxRecDepth 100000 in
theorem wX10_lettersOf_c2 {E : PE} {p : Program} {l : Launch} {e : Env} {s : State} {m : MethodId} {args : Array Value} {below : List Frame} {meth : Method} {c : Code} (X : Cx E p l e (rmv 0 0 0) s m args below meth c RX10 cX10_lettersOf 2 (some .int)) (hG : Gs E l) (hnm : meth.name = yX10_lettersOf.name) {v0 : Int32} {v1 : Int32} {h : PH} {r : Int32} {x : ((Int32) ⊕ Int32)} (hf : fX10_lettersOf_c2 v0 v1 = some x) (k0 : ∀ z : (Int32), x = .inl z → PW E p l e (rmv 0 0 0) s m args below meth c 2 0 0 (MQ below (QG E (fun v u => v = some (.int r) ∧ u = h)) args s 0 0 (pA E)) h 2 [(0, some (.int v0)), (1, some (.int (z)))] []) (kf : ∀ z : Int32, x = .inr z → z = r) : PW E p l e (rmv 0 0 0) s m args below meth c 2 0 0 (MQ below (QG E (fun v u => v = some (.int r) ∧ u = h)) args s 0 0 (pA E)) h 2 [(0, some (.int v0)), (1, some (.int v1))] [] := by
  unfold fX10_lettersOf_c2 at hf
  refine p_iload_n X (dcg dc_X10_lettersOf 2 rfl) rfl rfl ?_
  refine p_bipush (v := 6) X (dcg dc_X10_lettersOf 3 rfl) (by decide) ?_
  refine p_icmp_ge (tgt := 23) X (dcg dc_X10_lettersOf 4 rfl) (by decide) (fun q => ?_) (fun q => ?_)
  · have hf := if_t q hf
    obtain ⟨y1, hf, hy2⟩ := mr_some hf
    have hy2f := kf y1 hy2
    subst hy2f
    refine p_pick [1] ?_
    exact wX10_lettersOf_b23 X hG hnm hf 
  · have hf := if_f q hf
    refine p_iload_n X (dcg dc_X10_lettersOf 5 rfl) rfl rfl ?_
    refine p_gets (v := .ref 1) X (gz_pow hG) tw_478 (dcg dc_X10_lettersOf 6 rfl) ?_
    refine p_iload_n X (dcg dc_X10_lettersOf 7 rfl) rfl rfl ?_
    obtain ⟨hg3, hf⟩ := gd_some hf
    refine p_powers X (dcg dc_X10_lettersOf 8 rfl) (vp_of_inb hg3) ?_
    refine p_icmp_lt (tgt := 23) X (dcg dc_X10_lettersOf 9 rfl) (by decide) (fun q => ?_) (fun q => ?_)
    · have hf := if_t q hf
      obtain ⟨y4, hf, hy5⟩ := mr_some hf
      have hy5f := kf y4 hy5
      subst hy5f
      refine p_pick [1] ?_
      exact wX10_lettersOf_b23 X hG hnm hf 
    · have hf := if_f q hf
      refine p_iinc (v := 1) X (dcg dc_X10_lettersOf 10 rfl) rfl (by decide) (by decide) rfl ?_
      refine p_goto (tgt := 2) X (dcg dc_X10_lettersOf 11 rfl) (by decide) ?_
      refine p_pick [0, 1] ?_
      exact k0 _ (Option.some.inj hf).symm
noncomputable def fX10_lettersOf_l2 (v0 : Int32) (v1 : Int32) : Option Int32 := wh (fun z : (Int32) => fX10_lettersOf_c2 v0 (z)) (v1)
set_option maxRecDepth 100000 in
theorem wX10_lettersOf_l2 {E : PE} {p : Program} {l : Launch} {e : Env} {s : State} {m : MethodId} {args : Array Value} {below : List Frame} {meth : Method} {c : Code} (X : Cx E p l e (rmv 0 0 0) s m args below meth c RX10 cX10_lettersOf 2 (some .int)) (hG : Gs E l) (hnm : meth.name = yX10_lettersOf.name) {v0 : Int32} {v1 : Int32} {h : PH} {r : Int32} (hf : fX10_lettersOf_l2 v0 v1 = some r)  : PW E p l e (rmv 0 0 0) s m args below meth c 2 0 0 (MQ below (QG E (fun v u => v = some (.int r) ∧ u = h)) args s 0 0 (pA E)) h 2 [(0, some (.int v0)), (1, some (.int v1))] [] := by
  unfold fX10_lettersOf_l2 at hf
  refine wh_ind (P := fun z => PW E p l e (rmv 0 0 0) s m args below meth c 2 0 0 (MQ below (QG E (fun v u => v = some (.int r) ∧ u = h)) args s 0 0 (pA E)) h 2 [(0, some (.int v0)), (1, some (.int (z)))] []) (fun z x0 hs i1 i2 => ?_) _ hf
  exact wX10_lettersOf_c2 (r := r) (v0 := v0) (v1 := z) (h := h) X hG hnm hs i1  i2
noncomputable def fX10_lettersOf (v0 : Int32) : Option Int32 :=
  fX10_lettersOf_l2 v0 (0 : Int32)
set_option maxRecDepth 100000 in
theorem wX10_lettersOf {E : PE} {l : Launch} (hG : Gs E l) {v0 : Int32} {h : PH} {r : Int32} (hf : fX10_lettersOf v0 = some r) : Ct E l 0 0 0 yX10_lettersOf cX10_lettersOf 2 (some .int) [.int v0] h (fun v u => v = some (.int r) ∧ u = h) := by
  refine ct_of hG (by decide) (Nat.le_of_ble_eq_true rfl) ?_
  intro p e s m args below meth c X hnm
  show PW E p l e _ s m args below meth c _ 0 0 _ h 0 [(0, some (.int v0))] []
  unfold fX10_lettersOf at hf
  refine p_iconst (v := 0) X (dcg dc_X10_lettersOf 0 rfl) (by decide) ?_
  refine p_istore_n X (dcg dc_X10_lettersOf 1 rfl) rfl (by decide) rfl ?_
  refine p_pick [0, 1] ?_
  exact wX10_lettersOf_l2 X hG hnm hf 
theorem dc_X10_orderOf : decs cX10_orderOf [(0, .iload_n 0, 1), (1, .getstatic 23, 3), (4, .bipush 6, 2), (6, .iload_n 0, 1), (7, .invokestatic 27, 3), (10, .isub, 1), (11, .iaload, 1), (12, .imul, 1), (13, .ireturn, 1)] = true := by decide +kernel
noncomputable def fX10_orderOf (v0 : Int32) : Option Int32 :=
  bd (fX10_lettersOf v0) (fun z1 =>
  gd (inb ((6 : Int32) - z1) 7) (some ((v0 * (pwv (Int32.toNatClampNeg ((6 : Int32) - z1)))))))
set_option maxRecDepth 100000 in
theorem wX10_orderOf {E : PE} {l : Launch} (hG : Gs E l) {v0 : Int32} {h : PH} {r : Int32} (hf : fX10_orderOf v0 = some r) : Ct E l 1 0 0 yX10_orderOf cX10_orderOf 1 (some .int) [.int v0] h (fun v u => v = some (.int r) ∧ u = h) := by
  refine ct_of hG (by decide) (Nat.le_of_ble_eq_true rfl) ?_
  intro p e s m args below meth c X hnm
  show PW E p l e _ s m args below meth c _ 0 0 _ h 0 [(0, some (.int v0))] []
  unfold fX10_orderOf at hf
  refine p_iload_n X (dcg dc_X10_orderOf 0 rfl) rfl rfl ?_
  refine p_gets (v := .ref 1) X (gz_pow hG) tw_478 (dcg dc_X10_orderOf 1 rfl) ?_
  refine p_bipush (v := 6) X (dcg dc_X10_orderOf 2 rfl) (by decide) ?_
  refine p_iload_n X (dcg dc_X10_orderOf 3 rfl) rfl rfl ?_
  obtain ⟨z1, hz1, hf⟩ := bd_some hf
  refine p_callS (As := [_]) X ml_X10_27 (dcg dc_X10_orderOf 4 rfl) rfl rfl  (wX10_lettersOf hG hz1) (by decide) (room4 (Nat.le_of_ble_eq_true rfl)) (Nat.le_refl _) (Nat.le_refl _) ?_
  rintro _ u9 ⟨rfl, e9⟩; have e9 := e9.symm; subst e9
  refine p_isub X (dcg dc_X10_orderOf 5 rfl) ?_
  obtain ⟨hg2, hf⟩ := gd_some hf
  refine p_powers X (dcg dc_X10_orderOf 6 rfl) (vp_of_inb hg2) ?_
  refine p_imul X (dcg dc_X10_orderOf 7 rfl) ?_
  have er := Option.some.inj hf
  subst er
  exact p_iret X rfl (dcg dc_X10_orderOf 8 rfl) ⟨rfl, rfl⟩ (Nat.le_refl _) (Nat.le_refl _)
theorem dc_X0_addChoice : decs cX0_addChoice [(0, .iload_n 1, 1), (1, .invokestatic 55, 3), (4, .istore_n 2, 1), (5, .iconst 0, 1), (6, .istore_n 3, 1), (7, .iload_n 3, 1), (8, .aload_n 0, 1), (9, .getfield 29, 3), (12, .if_icmp .ge 22, 3), (15, .aload_n 0, 1), (16, .getfield 11, 3), (19, .iload_n 3, 1), (20, .iaload, 1), (21, .invokestatic 55, 3), (24, .iload_n 2, 1), (25, .if_icmp .ge 9, 3), (28, .iinc 3 1, 3), (31, .goto (-24), 3), (34, .iload_n 3, 1), (35, .aload_n 0, 1), (36, .getfield 29, 3), (39, .if_icmp .ge 15, 3), (42, .aload_n 0, 1), (43, .getfield 11, 3), (46, .iload_n 3, 1), (47, .iaload, 1), (48, .iload_n 1, 1), (49, .if_icmp .ne 5, 3), (52, .iconst 1, 1), (53, .ireturn, 1), (54, .aload_n 0, 1), (55, .getfield 29, 3), (58, .bipush 10, 2), (60, .if_icmp .lt 5, 3), (63, .iconst 0, 1), (64, .ireturn, 1), (65, .aload_n 0, 1), (66, .getfield 29, 3), (69, .istore 4, 2), (71, .iload 4, 2), (73, .iload_n 3, 1), (74, .if_icmp .le 25, 3), (77, .aload_n 0, 1), (78, .getfield 11, 3), (81, .iload 4, 2), (83, .aload_n 0, 1), (84, .getfield 11, 3), (87, .iload 4, 2), (89, .iconst 1, 1), (90, .isub, 1), (91, .iaload, 1), (92, .iastore, 1), (93, .iinc 4 (-1), 3), (96, .goto (-25), 3), (99, .aload_n 0, 1), (100, .getfield 11, 3), (103, .iload_n 3, 1), (104, .iload_n 1, 1), (105, .iastore, 1), (106, .aload_n 0, 1), (107, .dup, 1), (108, .getfield 29, 3), (111, .iconst 1, 1), (112, .iadd, 1), (113, .putfield 29, 3), (116, .iconst 1, 1), (117, .ireturn, 1)] = true := by decide +kernel
noncomputable def fX0_addChoice_c71 (v0 : Nat) (v1 : Int32) (v3 : Int32) (v4 : Int32) (h : PH) : Option ((Int32 × PH) ⊕ (Int32 × PH)) :=
  if (v4 ≤ v3) then (mr (gd (hK h v0 = 0) (gs (hR h 0 v0 0) (fun a8 =>
  gd (hK h a8 = 20 ∧ inb v3 (hN h a8)) (lt (sI h 20 a8 (Int32.toNatClampNeg v3) v1) (fun h12 =>
  lt (sI h12 0 v0 1 ((hI h12 0 v0 1) + (1 : Int32))) (fun h13 =>
  some (((1 : Int32), h13))))))))) else
  gd (hK h v0 = 0) (gs (hR h 0 v0 0) (fun a15 =>
  gd (hK h a15 = 20 ∧ inb (v4 - (1 : Int32)) (hN h a15)) (gd (inb v4 (hN h a15)) (lt (sI h 20 a15 (Int32.toNatClampNeg v4) (hI h 20 a15 (Int32.toNatClampNeg (v4 - (1 : Int32))))) (fun h20 =>
  some (.inl ((v4 + (-1)), h20)))))))
set_option maxRecDepth 100000 in
theorem mX0_addChoice_c71 {v0 : Nat} {v1 : Int32} {v3 : Int32} {v4 : Int32} {h : PH} {x : ((Int32 × PH) ⊕ (Int32 × PH))} (hf : fX0_addChoice_c71 v0 v1 v3 v4 h = some x) : (∀ w9 : (Int32 × PH), x = .inl w9 → eqz h (hX (w9.2)) (hV (w9.2))) ∧ (∀ w9 : (Int32 × PH), x = .inr w9 → eqz h (hX w9.2) (hV w9.2)) := by
  unfold fX0_addChoice_c71 at hf
  have hle := eqz_rf h
  rcases ite_or hf with ⟨q, hf⟩ | ⟨q, hf⟩
  · have hf := if_t q hf
    obtain ⟨y5, hfm, rfl⟩ := mr_some hf; have hf := hfm; clear hfm
    obtain ⟨hk7, hf⟩ := gd_some hf
    obtain ⟨a8, e9, hf⟩ := gs_some hf
    obtain ⟨⟨hk11, hb10⟩, hf⟩ := gd_some hf
    obtain ⟨h12, rfl, hf⟩ := lt_some hf
    obtain ⟨h13, rfl, hf⟩ := lt_some hf
    have ee := Option.some.inj hf; subst ee
    exact ⟨(fun z e => nomatch e), (fun z e => by have ee := Sum.inr.inj (e); subst ee; exact hle)⟩
  · have hf := if_f q hf
    obtain ⟨hk14, hf⟩ := gd_some hf
    obtain ⟨a15, e16, hf⟩ := gs_some hf
    obtain ⟨⟨hk18, hb17⟩, hf⟩ := gd_some hf
    obtain ⟨hb19, hf⟩ := gd_some hf
    obtain ⟨h20, rfl, hf⟩ := lt_some hf
    have ee := Option.some.inj hf; subst ee
    exact ⟨(fun z e => by have ee := Sum.inl.inj (e); subst ee; exact hle), (fun z e => nomatch e)⟩
set_option maxRecDepth 100000 in
theorem wX0_addChoice_c71 {E : PE} {p : Program} {l : Launch} {e : Env} {s : State} {m : MethodId} {args : Array Value} {below : List Frame} {meth : Method} {c : Code} (X : Cx E p l e (rmv 2 0 0) s m args below meth c RX0 cX0_addChoice 5 (some .boolean)) (hG : Gs E l) (hnm : meth.name = yX0_addChoice.name) {v0 : Nat} {v1 : Int32} {v3 : Int32} {v4 : Int32} {h : PH} {r : (Int32 × PH)} {x : ((Int32 × PH) ⊕ (Int32 × PH))} (hf : fX0_addChoice_c71 v0 v1 v3 v4 h = some x) (k0 : ∀ z : (Int32 × PH), x = .inl z → PW E p l e (rmv 2 0 0) s m args below meth c 5 0 0 (MQ below (QG E (fun v u => v = some (.int r.1) ∧ u = r.2)) args s 0 0 (pA E)) (z.2) 71 [(0, some (.ref v0)), (1, some (.int v1)), (3, some (.int v3)), (4, some (.int (z.1)))] []) (kf : ∀ z : (Int32 × PH), x = .inr z → z = r) : PW E p l e (rmv 2 0 0) s m args below meth c 5 0 0 (MQ below (QG E (fun v u => v = some (.int r.1) ∧ u = r.2)) args s 0 0 (pA E)) h 71 [(0, some (.ref v0)), (1, some (.int v1)), (3, some (.int v3)), (4, some (.int v4))] [] := by
  unfold fX0_addChoice_c71 at hf
  refine p_iload X (dcg dc_X0_addChoice 39 rfl) rfl ?_
  refine p_iload_n X (dcg dc_X0_addChoice 40 rfl) rfl rfl ?_
  refine p_icmp_le (tgt := 99) X (dcg dc_X0_addChoice 41 rfl) (by decide) (fun q => ?_) (fun q => ?_)
  · have hf := if_t q hf
    obtain ⟨y5, hf, hy6⟩ := mr_some hf
    have hy6f := kf y5 hy6
    subst hy6f
    refine p_aload_n X (dcg dc_X0_addChoice 54 rfl) rfl rfl ?_
    obtain ⟨hk7, hf⟩ := gd_some hf
    refine p_getR X fl_X0_11 rfl (by decide) (dcg dc_X0_addChoice 55 rfl) hk7 ?_
    refine p_iload_n X (dcg dc_X0_addChoice 56 rfl) rfl rfl ?_
    refine p_iload_n X (dcg dc_X0_addChoice 57 rfl) rfl rfl ?_
    obtain ⟨a8, e9, hf⟩ := gs_some hf
    first | subst e9 | (try rw [e9])
    obtain ⟨⟨hk11, hb10⟩, hf⟩ := gd_some hf
    refine p_iast X (dcg dc_X0_addChoice 58 rfl) hk11 (vp_of_inb hb10) ?_
    obtain ⟨h12, rfl, hf⟩ := lt_some hf
    refine p_aload_n X (dcg dc_X0_addChoice 59 rfl) rfl rfl ?_
    refine p_dup X (dcg dc_X0_addChoice 60 rfl) rfl ?_
    refine p_getI X fl_X0_29 rfl (by decide) (dcg dc_X0_addChoice 61 rfl) hk7 ?_
    refine p_iconst (v := 1) X (dcg dc_X0_addChoice 62 rfl) (by decide) ?_
    refine p_iadd X (dcg dc_X0_addChoice 63 rfl) ?_
    refine p_putI X fl_X0_29 rfl (by decide) (fun q hq => by cases hq; rfl) rfl rfl (dcg dc_X0_addChoice 64 rfl) hk7 ?_
    obtain ⟨h13, rfl, hf⟩ := lt_some hf
    refine p_iconst (v := 1) X (dcg dc_X0_addChoice 65 rfl) (by decide) ?_
    have er := Option.some.inj hf
    subst er
    exact p_zret X rfl rfl (dcg dc_X0_addChoice 66 rfl) ⟨rfl, rfl⟩ (Nat.le_refl _) (Nat.le_refl _)
  · have hf := if_f q hf
    refine p_aload_n X (dcg dc_X0_addChoice 42 rfl) rfl rfl ?_
    obtain ⟨hk14, hf⟩ := gd_some hf
    refine p_getR X fl_X0_11 rfl (by decide) (dcg dc_X0_addChoice 43 rfl) hk14 ?_
    refine p_iload X (dcg dc_X0_addChoice 44 rfl) rfl ?_
    refine p_aload_n X (dcg dc_X0_addChoice 45 rfl) rfl rfl ?_
    refine p_getR X fl_X0_11 rfl (by decide) (dcg dc_X0_addChoice 46 rfl) hk14 ?_
    refine p_iload X (dcg dc_X0_addChoice 47 rfl) rfl ?_
    refine p_iconst (v := 1) X (dcg dc_X0_addChoice 48 rfl) (by decide) ?_
    refine p_isub X (dcg dc_X0_addChoice 49 rfl) ?_
    obtain ⟨a15, e16, hf⟩ := gs_some hf
    first | subst e16 | (try rw [e16])
    obtain ⟨⟨hk18, hb17⟩, hf⟩ := gd_some hf
    refine p_iald X (dcg dc_X0_addChoice 50 rfl) hk18 (vp_of_inb hb17) ?_
    obtain ⟨hb19, hf⟩ := gd_some hf
    refine p_iast X (dcg dc_X0_addChoice 51 rfl) hk18 (vp_of_inb hb19) ?_
    obtain ⟨h20, rfl, hf⟩ := lt_some hf
    refine p_iinc (v := -1) X (dcg dc_X0_addChoice 52 rfl) rfl (by decide) (by decide) rfl ?_
    refine p_goto (tgt := 71) X (dcg dc_X0_addChoice 53 rfl) (by decide) ?_
    refine p_pick [0, 1, 3, 4] ?_
    exact k0 _ (Option.some.inj hf).symm
noncomputable def fX0_addChoice_l71 (v0 : Nat) (v1 : Int32) (v3 : Int32) (v4 : Int32) (h : PH) : Option (Int32 × PH) := wh (fun z : (Int32 × PH) => fX0_addChoice_c71 v0 v1 v3 (z.1) (z.2)) (v4, h)
set_option maxRecDepth 100000 in
theorem mX0_addChoice_l71 {v0 : Nat} {v1 : Int32} {v3 : Int32} {v4 : Int32} {h : PH} {r : (Int32 × PH)} (hf : fX0_addChoice_l71 v0 v1 v3 v4 h = some r) : eqz h (hX r.2) (hV r.2) := by
  unfold fX0_addChoice_l71 at hf
  refine wh_ind (P := fun z => eqz (z.2) (hX r.2) (hV r.2)) (fun z x0 hs i1 i2 => ?_) _ hf
  obtain ⟨c0, cf⟩ := mX0_addChoice_c71 (v0 := v0) (v1 := v1) (v3 := v3) (v4 := z.1) (h := z.2) hs
  rcases hxx : x0 with zz | zz
  · exact eqz_tr (c0 zz hxx) (i1 zz hxx)
  · have ee := i2 zz hxx; subst ee; exact cf zz hxx
set_option maxRecDepth 100000 in
theorem wX0_addChoice_l71 {E : PE} {p : Program} {l : Launch} {e : Env} {s : State} {m : MethodId} {args : Array Value} {below : List Frame} {meth : Method} {c : Code} (X : Cx E p l e (rmv 2 0 0) s m args below meth c RX0 cX0_addChoice 5 (some .boolean)) (hG : Gs E l) (hnm : meth.name = yX0_addChoice.name) {v0 : Nat} {v1 : Int32} {v3 : Int32} {v4 : Int32} {h : PH} {r : (Int32 × PH)} (hf : fX0_addChoice_l71 v0 v1 v3 v4 h = some r)  : PW E p l e (rmv 2 0 0) s m args below meth c 5 0 0 (MQ below (QG E (fun v u => v = some (.int r.1) ∧ u = r.2)) args s 0 0 (pA E)) h 71 [(0, some (.ref v0)), (1, some (.int v1)), (3, some (.int v3)), (4, some (.int v4))] [] := by
  unfold fX0_addChoice_l71 at hf
  refine wh_ind (P := fun z => PW E p l e (rmv 2 0 0) s m args below meth c 5 0 0 (MQ below (QG E (fun v u => v = some (.int r.1) ∧ u = r.2)) args s 0 0 (pA E)) (z.2) 71 [(0, some (.ref v0)), (1, some (.int v1)), (3, some (.int v3)), (4, some (.int (z.1)))] []) (fun z x0 hs i1 i2 => ?_) _ hf
  exact wX0_addChoice_c71 (r := r) (v0 := v0) (v1 := v1) (v3 := v3) (v4 := z.1) (h := z.2) X hG hnm hs i1  i2
noncomputable def fX0_addChoice_b54 (v0 : Nat) (v1 : Int32) (v3 : Int32) (h : PH) : Option (Int32 × PH) :=
  gd (hK h v0 = 0) (if ((hI h 0 v0 1) < (10 : Int32)) then (fX0_addChoice_l71 v0 v1 v3 (hI h 0 v0 1) h) else
  some (((0 : Int32), h)))
set_option maxRecDepth 100000 in
theorem mX0_addChoice_b54 {v0 : Nat} {v1 : Int32} {v3 : Int32} {h : PH} {r : (Int32 × PH)} (hf : fX0_addChoice_b54 v0 v1 v3 h = some r) : eqz h (hX r.2) (hV r.2) := by
  unfold fX0_addChoice_b54 at hf
  have hle := eqz_rf h
  obtain ⟨hk4, hf⟩ := gd_some hf
  rcases ite_or hf with ⟨q, hf⟩ | ⟨q, hf⟩
  · have hf := if_t q hf
    exact eqz_rt (mX0_addChoice_l71 hf) hle
  · have hf := if_f q hf
    have ee := Option.some.inj hf; subst ee; exact hle
set_option maxRecDepth 100000 in
theorem wX0_addChoice_b54 {E : PE} {p : Program} {l : Launch} {e : Env} {s : State} {m : MethodId} {args : Array Value} {below : List Frame} {meth : Method} {c : Code} (X : Cx E p l e (rmv 2 0 0) s m args below meth c RX0 cX0_addChoice 5 (some .boolean)) (hG : Gs E l) (hnm : meth.name = yX0_addChoice.name) {v0 : Nat} {v1 : Int32} {v3 : Int32} {h : PH} {r : (Int32 × PH)} (hf : fX0_addChoice_b54 v0 v1 v3 h = some r)  : PW E p l e (rmv 2 0 0) s m args below meth c 5 0 0 (MQ below (QG E (fun v u => v = some (.int r.1) ∧ u = r.2)) args s 0 0 (pA E)) h 54 [(0, some (.ref v0)), (1, some (.int v1)), (3, some (.int v3))] [] := by
  unfold fX0_addChoice_b54 at hf
  refine p_aload_n X (dcg dc_X0_addChoice 30 rfl) rfl rfl ?_
  obtain ⟨hk4, hf⟩ := gd_some hf
  refine p_getI X fl_X0_29 rfl (by decide) (dcg dc_X0_addChoice 31 rfl) hk4 ?_
  refine p_bipush (v := 10) X (dcg dc_X0_addChoice 32 rfl) (by decide) ?_
  refine p_icmp_lt (tgt := 65) X (dcg dc_X0_addChoice 33 rfl) (by decide) (fun q => ?_) (fun q => ?_)
  · have hf := if_t q hf
    refine p_aload_n X (dcg dc_X0_addChoice 36 rfl) rfl rfl ?_
    refine p_getI X fl_X0_29 rfl (by decide) (dcg dc_X0_addChoice 37 rfl) hk4 ?_
    refine p_istore X (dcg dc_X0_addChoice 38 rfl) (by decide) rfl ?_
    refine p_pick [0, 1, 3, 4] ?_
    exact wX0_addChoice_l71 X hG hnm hf 
  · have hf := if_f q hf
    refine p_iconst (v := 0) X (dcg dc_X0_addChoice 34 rfl) (by decide) ?_
    have er := Option.some.inj hf
    subst er
    exact p_zret X rfl rfl (dcg dc_X0_addChoice 35 rfl) ⟨rfl, rfl⟩ (Nat.le_refl _) (Nat.le_refl _)
noncomputable def fX0_addChoice_b34 (v0 : Nat) (v1 : Int32) (v3 : Int32) (h : PH) : Option (Int32 × PH) :=
  gd (hK h v0 = 0) (if ((hI h 0 v0 1) ≤ v3) then (fX0_addChoice_b54 v0 v1 v3 h) else
  gs (hR h 0 v0 0) (fun a21 =>
  gd (hK h a21 = 20 ∧ inb v3 (hN h a21)) (if (¬ (hI h 20 a21 (Int32.toNatClampNeg v3)) = v1) then (fX0_addChoice_b54 v0 v1 v3 h) else
  some (((1 : Int32), h)))))
set_option maxRecDepth 100000 in
theorem mX0_addChoice_b34 {v0 : Nat} {v1 : Int32} {v3 : Int32} {h : PH} {r : (Int32 × PH)} (hf : fX0_addChoice_b34 v0 v1 v3 h = some r) : eqz h (hX r.2) (hV r.2) := by
  unfold fX0_addChoice_b34 at hf
  have hle := eqz_rf h
  obtain ⟨hk3, hf⟩ := gd_some hf
  rcases ite_or hf with ⟨q, hf⟩ | ⟨q, hf⟩
  · have hf := if_t q hf
    exact eqz_rt (mX0_addChoice_b54 hf) hle
  · have hf := if_f q hf
    obtain ⟨a21, e22, hf⟩ := gs_some hf
    obtain ⟨⟨hk24, hb23⟩, hf⟩ := gd_some hf
    rcases ite_or hf with ⟨q, hf⟩ | ⟨q, hf⟩
    · have hf := if_t q hf
      exact eqz_rt (mX0_addChoice_b54 hf) hle
    · have hf := if_f q hf
      have ee := Option.some.inj hf; subst ee; exact hle
set_option maxRecDepth 100000 in
theorem wX0_addChoice_b34 {E : PE} {p : Program} {l : Launch} {e : Env} {s : State} {m : MethodId} {args : Array Value} {below : List Frame} {meth : Method} {c : Code} (X : Cx E p l e (rmv 2 0 0) s m args below meth c RX0 cX0_addChoice 5 (some .boolean)) (hG : Gs E l) (hnm : meth.name = yX0_addChoice.name) {v0 : Nat} {v1 : Int32} {v3 : Int32} {h : PH} {r : (Int32 × PH)} (hf : fX0_addChoice_b34 v0 v1 v3 h = some r)  : PW E p l e (rmv 2 0 0) s m args below meth c 5 0 0 (MQ below (QG E (fun v u => v = some (.int r.1) ∧ u = r.2)) args s 0 0 (pA E)) h 34 [(0, some (.ref v0)), (1, some (.int v1)), (3, some (.int v3))] [] := by
  unfold fX0_addChoice_b34 at hf
  refine p_iload_n X (dcg dc_X0_addChoice 18 rfl) rfl rfl ?_
  refine p_aload_n X (dcg dc_X0_addChoice 19 rfl) rfl rfl ?_
  obtain ⟨hk3, hf⟩ := gd_some hf
  refine p_getI X fl_X0_29 rfl (by decide) (dcg dc_X0_addChoice 20 rfl) hk3 ?_
  refine p_icmp_ge (tgt := 54) X (dcg dc_X0_addChoice 21 rfl) (by decide) (fun q => ?_) (fun q => ?_)
  · have hf := if_t q hf
    refine p_pick [0, 1, 3] ?_
    exact wX0_addChoice_b54 X hG hnm hf 
  · have hf := if_f q hf
    refine p_aload_n X (dcg dc_X0_addChoice 22 rfl) rfl rfl ?_
    refine p_getR X fl_X0_11 rfl (by decide) (dcg dc_X0_addChoice 23 rfl) hk3 ?_
    refine p_iload_n X (dcg dc_X0_addChoice 24 rfl) rfl rfl ?_
    obtain ⟨a21, e22, hf⟩ := gs_some hf
    first | subst e22 | (try rw [e22])
    obtain ⟨⟨hk24, hb23⟩, hf⟩ := gd_some hf
    refine p_iald X (dcg dc_X0_addChoice 25 rfl) hk24 (vp_of_inb hb23) ?_
    refine p_iload_n X (dcg dc_X0_addChoice 26 rfl) rfl rfl ?_
    refine p_icmp_ne (tgt := 54) X (dcg dc_X0_addChoice 27 rfl) (by decide) (fun q => ?_) (fun q => ?_)
    · have hf := if_t q hf
      refine p_pick [0, 1, 3] ?_
      exact wX0_addChoice_b54 X hG hnm hf 
    · have hf := if_f q hf
      refine p_iconst (v := 1) X (dcg dc_X0_addChoice 28 rfl) (by decide) ?_
      have er := Option.some.inj hf
      subst er
      exact p_zret X rfl rfl (dcg dc_X0_addChoice 29 rfl) ⟨rfl, rfl⟩ (Nat.le_refl _) (Nat.le_refl _)
noncomputable def fX0_addChoice_c7 (v0 : Nat) (v1 : Int32) (v2 : Int32) (v3 : Int32) (h : PH) : Option ((Int32) ⊕ (Int32 × PH)) :=
  gd (hK h v0 = 0) (if ((hI h 0 v0 1) ≤ v3) then (mr (fX0_addChoice_b34 v0 v1 v3 h)) else
  gs (hR h 0 v0 0) (fun a27 =>
  gd (hK h a27 = 20 ∧ inb v3 (hN h a27)) (bd (fX10_orderOf (hI h 20 a27 (Int32.toNatClampNeg v3))) (fun z31 =>
  if (v2 ≤ z31) then (mr (fX0_addChoice_b34 v0 v1 v3 h)) else
  some (.inl ((v3 + 1)))))))
set_option maxRecDepth 100000 in
theorem mX0_addChoice_c7 {v0 : Nat} {v1 : Int32} {v2 : Int32} {v3 : Int32} {h : PH} {x : ((Int32) ⊕ (Int32 × PH))} (hf : fX0_addChoice_c7 v0 v1 v2 v3 h = some x) : (∀ w9 : (Int32 × PH), x = .inr w9 → eqz h (hX w9.2) (hV w9.2)) := by
  unfold fX0_addChoice_c7 at hf
  have hle := eqz_rf h
  obtain ⟨hk2, hf⟩ := gd_some hf
  rcases ite_or hf with ⟨q, hf⟩ | ⟨q, hf⟩
  · have hf := if_t q hf
    obtain ⟨y25, hfm, rfl⟩ := mr_some hf; have hf := hfm; clear hfm
    have cf := mX0_addChoice_b34 hf
    exact (fun z e => by cases e <;> exact eqz_rt cf hle)
  · have hf := if_f q hf
    obtain ⟨a27, e28, hf⟩ := gs_some hf
    obtain ⟨⟨hk30, hb29⟩, hf⟩ := gd_some hf
    obtain ⟨z31, hz31, hf⟩ := bd_some hf
    rcases ite_or hf with ⟨q, hf⟩ | ⟨q, hf⟩
    · have hf := if_t q hf
      obtain ⟨y32, hfm, rfl⟩ := mr_some hf; have hf := hfm; clear hfm
      have cf := mX0_addChoice_b34 hf
      exact (fun z e => by cases e <;> exact eqz_rt cf hle)
    · have hf := if_f q hf
      have ee := Option.some.inj hf; subst ee
      exact (fun z e => nomatch e)
set_option maxRecDepth 100000 in
theorem wX0_addChoice_c7 {E : PE} {p : Program} {l : Launch} {e : Env} {s : State} {m : MethodId} {args : Array Value} {below : List Frame} {meth : Method} {c : Code} (X : Cx E p l e (rmv 2 0 0) s m args below meth c RX0 cX0_addChoice 5 (some .boolean)) (hG : Gs E l) (hnm : meth.name = yX0_addChoice.name) {v0 : Nat} {v1 : Int32} {v2 : Int32} {v3 : Int32} {h : PH} {r : (Int32 × PH)} {x : ((Int32) ⊕ (Int32 × PH))} (hf : fX0_addChoice_c7 v0 v1 v2 v3 h = some x) (k0 : ∀ z : (Int32), x = .inl z → PW E p l e (rmv 2 0 0) s m args below meth c 5 0 0 (MQ below (QG E (fun v u => v = some (.int r.1) ∧ u = r.2)) args s 0 0 (pA E)) h 7 [(0, some (.ref v0)), (1, some (.int v1)), (2, some (.int v2)), (3, some (.int (z)))] []) (kf : ∀ z : (Int32 × PH), x = .inr z → z = r) : PW E p l e (rmv 2 0 0) s m args below meth c 5 0 0 (MQ below (QG E (fun v u => v = some (.int r.1) ∧ u = r.2)) args s 0 0 (pA E)) h 7 [(0, some (.ref v0)), (1, some (.int v1)), (2, some (.int v2)), (3, some (.int v3))] [] := by
  unfold fX0_addChoice_c7 at hf
  refine p_iload_n X (dcg dc_X0_addChoice 5 rfl) rfl rfl ?_
  refine p_aload_n X (dcg dc_X0_addChoice 6 rfl) rfl rfl ?_
  obtain ⟨hk2, hf⟩ := gd_some hf
  refine p_getI X fl_X0_29 rfl (by decide) (dcg dc_X0_addChoice 7 rfl) hk2 ?_
  refine p_icmp_ge (tgt := 34) X (dcg dc_X0_addChoice 8 rfl) (by decide) (fun q => ?_) (fun q => ?_)
  · have hf := if_t q hf
    obtain ⟨y25, hf, hy26⟩ := mr_some hf
    have hy26f := kf y25 hy26
    subst hy26f
    refine p_pick [0, 1, 3] ?_
    exact wX0_addChoice_b34 X hG hnm hf 
  · have hf := if_f q hf
    refine p_aload_n X (dcg dc_X0_addChoice 9 rfl) rfl rfl ?_
    refine p_getR X fl_X0_11 rfl (by decide) (dcg dc_X0_addChoice 10 rfl) hk2 ?_
    refine p_iload_n X (dcg dc_X0_addChoice 11 rfl) rfl rfl ?_
    obtain ⟨a27, e28, hf⟩ := gs_some hf
    first | subst e28 | (try rw [e28])
    obtain ⟨⟨hk30, hb29⟩, hf⟩ := gd_some hf
    refine p_iald X (dcg dc_X0_addChoice 12 rfl) hk30 (vp_of_inb hb29) ?_
    obtain ⟨z31, hz31, hf⟩ := bd_some hf
    refine p_callS (As := [_]) X ml_X0_55 (dcg dc_X0_addChoice 13 rfl) rfl rfl  (wX10_orderOf hG hz31) (by decide) (room4 (Nat.le_of_ble_eq_true rfl)) (Nat.le_refl _) (Nat.le_refl _) ?_
    rintro _ u9 ⟨rfl, e9⟩; have e9 := e9.symm; subst e9
    refine p_iload_n X (dcg dc_X0_addChoice 14 rfl) rfl rfl ?_
    refine p_icmp_ge (tgt := 34) X (dcg dc_X0_addChoice 15 rfl) (by decide) (fun q => ?_) (fun q => ?_)
    · have hf := if_t q hf
      obtain ⟨y32, hf, hy33⟩ := mr_some hf
      have hy33f := kf y32 hy33
      subst hy33f
      refine p_pick [0, 1, 3] ?_
      exact wX0_addChoice_b34 X hG hnm hf 
    · have hf := if_f q hf
      refine p_iinc (v := 1) X (dcg dc_X0_addChoice 16 rfl) rfl (by decide) (by decide) rfl ?_
      refine p_goto (tgt := 7) X (dcg dc_X0_addChoice 17 rfl) (by decide) ?_
      refine p_pick [0, 1, 2, 3] ?_
      exact k0 _ (Option.some.inj hf).symm
noncomputable def fX0_addChoice_l7 (v0 : Nat) (v1 : Int32) (v2 : Int32) (v3 : Int32) (h : PH) : Option (Int32 × PH) := wh (fun z : (Int32) => fX0_addChoice_c7 v0 v1 v2 (z) h) (v3)
set_option maxRecDepth 100000 in
theorem mX0_addChoice_l7 {v0 : Nat} {v1 : Int32} {v2 : Int32} {v3 : Int32} {h : PH} {r : (Int32 × PH)} (hf : fX0_addChoice_l7 v0 v1 v2 v3 h = some r) : eqz h (hX r.2) (hV r.2) := by
  unfold fX0_addChoice_l7 at hf
  refine wh_ind (P := fun z => eqz h (hX r.2) (hV r.2)) (fun z x0 hs i1 i2 => ?_) _ hf
  obtain cf := mX0_addChoice_c7 (v0 := v0) (v1 := v1) (v2 := v2) (v3 := z) (h := h) hs
  rcases hxx : x0 with zz | zz
  · exact (i1 zz hxx)
  · have ee := i2 zz hxx; subst ee; exact cf zz hxx
set_option maxRecDepth 100000 in
theorem wX0_addChoice_l7 {E : PE} {p : Program} {l : Launch} {e : Env} {s : State} {m : MethodId} {args : Array Value} {below : List Frame} {meth : Method} {c : Code} (X : Cx E p l e (rmv 2 0 0) s m args below meth c RX0 cX0_addChoice 5 (some .boolean)) (hG : Gs E l) (hnm : meth.name = yX0_addChoice.name) {v0 : Nat} {v1 : Int32} {v2 : Int32} {v3 : Int32} {h : PH} {r : (Int32 × PH)} (hf : fX0_addChoice_l7 v0 v1 v2 v3 h = some r)  : PW E p l e (rmv 2 0 0) s m args below meth c 5 0 0 (MQ below (QG E (fun v u => v = some (.int r.1) ∧ u = r.2)) args s 0 0 (pA E)) h 7 [(0, some (.ref v0)), (1, some (.int v1)), (2, some (.int v2)), (3, some (.int v3))] [] := by
  unfold fX0_addChoice_l7 at hf
  refine wh_ind (P := fun z => PW E p l e (rmv 2 0 0) s m args below meth c 5 0 0 (MQ below (QG E (fun v u => v = some (.int r.1) ∧ u = r.2)) args s 0 0 (pA E)) h 7 [(0, some (.ref v0)), (1, some (.int v1)), (2, some (.int v2)), (3, some (.int (z)))] []) (fun z x0 hs i1 i2 => ?_) _ hf
  exact wX0_addChoice_c7 (r := r) (v0 := v0) (v1 := v1) (v2 := v2) (v3 := z) (h := h) X hG hnm hs i1  i2
noncomputable def fX0_addChoice (v0 : Nat) (v1 : Int32) (h : PH) : Option (Int32 × PH) :=
  bd (fX10_orderOf v1) (fun z1 =>
  fX0_addChoice_l7 v0 v1 z1 (0 : Int32) h)
set_option maxRecDepth 100000 in
theorem mX0_addChoice {v0 : Nat} {v1 : Int32} {h : PH} {r : (Int32 × PH)} (hf : fX0_addChoice v0 v1 h = some r) : eqz h (hX r.2) (hV r.2) := by
  unfold fX0_addChoice at hf
  have hle := eqz_rf h
  obtain ⟨z1, hz1, hf⟩ := bd_some hf
  exact eqz_rt (mX0_addChoice_l7 hf) hle
set_option maxRecDepth 100000 in
theorem wX0_addChoice {E : PE} {l : Launch} (hG : Gs E l) {v0 : Nat} {v1 : Int32} {h : PH} {r : (Int32 × PH)} (hf : fX0_addChoice v0 v1 h = some r) : Ct E l 2 0 0 yX0_addChoice cX0_addChoice 5 (some .boolean) [.ref v0, .int v1] h (fun v u => v = some (.int r.1) ∧ u = r.2) := by
  refine ct_of hG (by decide) (Nat.le_of_ble_eq_true rfl) ?_
  intro p e s m args below meth c X hnm
  show PW E p l e _ s m args below meth c _ 0 0 _ h 0 [(0, some (.ref v0)), (1, some (.int v1))] []
  unfold fX0_addChoice at hf
  refine p_iload_n X (dcg dc_X0_addChoice 0 rfl) rfl rfl ?_
  obtain ⟨z1, hz1, hf⟩ := bd_some hf
  refine p_callS (As := [_]) X ml_X0_55 (dcg dc_X0_addChoice 1 rfl) rfl rfl  (wX10_orderOf hG hz1) (by decide) (room4 (Nat.le_of_ble_eq_true rfl)) (Nat.le_refl _) (Nat.le_refl _) ?_
  rintro _ u9 ⟨rfl, e9⟩; have e9 := e9.symm; subst e9
  refine p_istore_n X (dcg dc_X0_addChoice 2 rfl) rfl (by decide) rfl ?_
  refine p_iconst (v := 0) X (dcg dc_X0_addChoice 3 rfl) (by decide) ?_
  refine p_istore_n X (dcg dc_X0_addChoice 4 rfl) rfl (by decide) rfl ?_
  refine p_pick [0, 1, 2, 3] ?_
  exact wX0_addChoice_l7 X hG hnm hf 
theorem dc_X0_gatherWords : decs cX0_gatherWords [(0, .iconst 0, 1), (1, .istore_n 2, 1), (2, .iload_n 2, 1), (3, .aload_n 1, 1), (4, .invokevirtual 32, 3), (7, .if_icmp .ge 39, 3), (10, .aload_n 1, 1), (11, .iload_n 2, 1), (12, .invokevirtual 38, 3), (15, .checkcast 42, 3), (18, .astore_n 3, 1), (19, .aload_n 3, 1), (20, .getfield 44, 3), (23, .ifCond .ne 15, 3), (26, .aload_n 0, 1), (27, .aload_n 3, 1), (28, .iconst 0, 1), (29, .invokevirtual 47, 3), (32, .invokevirtual 51, 3), (35, .ifCond .ne 5, 3), (38, .iconst 0, 1), (39, .ireturn, 1), (40, .iinc 2 1, 3), (43, .goto (-41), 3), (46, .iconst 1, 1), (47, .ireturn, 1)] = true := by decide +kernel
noncomputable def fX0_gatherWords_b38  (h : PH) : Option (Int32 × PH) :=
  some (((0 : Int32), h))
set_option maxRecDepth 100000 in
theorem mX0_gatherWords_b38  {h : PH} {r : (Int32 × PH)} (hf : fX0_gatherWords_b38  h = some r) : eqz h (hX r.2) (hV r.2) := by
  unfold fX0_gatherWords_b38 at hf
  have hle := eqz_rf h
  have ee := Option.some.inj hf; subst ee; exact hle
set_option maxRecDepth 100000 in
theorem wX0_gatherWords_b38 {E : PE} {p : Program} {l : Launch} {e : Env} {s : State} {m : MethodId} {args : Array Value} {below : List Frame} {meth : Method} {c : Code} (X : Cx E p l e (rmv 3 0 0) s m args below meth c RX0 cX0_gatherWords 4 (some .boolean)) (hG : Gs E l) (hnm : meth.name = yX0_gatherWords.name)  {h : PH} {r : (Int32 × PH)} (hf : fX0_gatherWords_b38  h = some r)  : PW E p l e (rmv 3 0 0) s m args below meth c 4 0 0 (MQ below (QG E (fun v u => v = some (.int r.1) ∧ u = r.2)) args s 0 0 (pA E)) h 38 [] [] := by
  unfold fX0_gatherWords_b38 at hf
  refine p_iconst (v := 0) X (dcg dc_X0_gatherWords 20 rfl) (by decide) ?_
  have er := Option.some.inj hf
  subst er
  exact p_zret X rfl rfl (dcg dc_X0_gatherWords 21 rfl) ⟨rfl, rfl⟩ (Nat.le_refl _) (Nat.le_refl _)
noncomputable def fX0_gatherWords_c2 (v0 : Nat) (v1 : Option Nat) (v2 : Int32) (h : PH) : Option ((Int32 × PH) ⊕ (Int32 × PH)) :=
  gs v1 (fun a1 =>
  gd (hK h a1 = 14) (bd (fJx4a65c_size_8abf5 a1 h) (fun z4 =>
  if (z4 ≤ v2) then (mr (some (((1 : Int32), h)))) else
  bd (fJx4a65c_get_915e3 a1 v2 h) (fun z7 =>
  gs z7 (fun a8 =>
  gd (hK h a8 = 4) (if (¬ (hI h 4 a8 0) = 0) then (mr (fX0_gatherWords_b38  h)) else
  bd (fX4_soughtAt a8 (0 : Int32) h) (fun z13 =>
  gd (hK h v0 = 0) (bd (fX0_addChoice v0 z13 h) (fun z15 =>
  if (¬ z15.1 = 0) then (some (.inl ((v2 + 1), z15.2))) else
  mr (fX0_gatherWords_b38  z15.2))))))))))
set_option maxRecDepth 100000 in
theorem mX0_gatherWords_c2 {v0 : Nat} {v1 : Option Nat} {v2 : Int32} {h : PH} {x : ((Int32 × PH) ⊕ (Int32 × PH))} (hf : fX0_gatherWords_c2 v0 v1 v2 h = some x) : (∀ w9 : (Int32 × PH), x = .inl w9 → eqz h (hX (w9.2)) (hV (w9.2))) ∧ (∀ w9 : (Int32 × PH), x = .inr w9 → eqz h (hX w9.2) (hV w9.2)) := by
  unfold fX0_gatherWords_c2 at hf
  have hle := eqz_rf h
  obtain ⟨a1, e2, hf⟩ := gs_some hf
  obtain ⟨hk3, hf⟩ := gd_some hf
  obtain ⟨z4, hz4, hf⟩ := bd_some hf
  rcases ite_or hf with ⟨q, hf⟩ | ⟨q, hf⟩
  · have hf := if_t q hf
    obtain ⟨y5, hfm, rfl⟩ := mr_some hf; have hf := hfm; clear hfm
    have ee := Option.some.inj hf; subst ee
    exact ⟨(fun z e => nomatch e), (fun z e => by have ee := Sum.inr.inj (e); subst ee; exact hle)⟩
  · have hf := if_f q hf
    obtain ⟨z7, hz7, hf⟩ := bd_some hf
    obtain ⟨a8, e9, hf⟩ := gs_some hf
    obtain ⟨hk10, hf⟩ := gd_some hf
    rcases ite_or hf with ⟨q, hf⟩ | ⟨q, hf⟩
    · have hf := if_t q hf
      obtain ⟨y11, hfm, rfl⟩ := mr_some hf; have hf := hfm; clear hfm
      have cf := mX0_gatherWords_b38 hf
      exact ⟨(fun z e => nomatch e), (fun z e => by cases e <;> exact eqz_rt cf hle)⟩
    · have hf := if_f q hf
      obtain ⟨z13, hz13, hf⟩ := bd_some hf
      obtain ⟨hk14, hf⟩ := gd_some hf
      obtain ⟨z15, hz15, hf⟩ := bd_some hf
      have hle := eqz_rt (mX0_addChoice hz15) hle
      rcases ite_or hf with ⟨q, hf⟩ | ⟨q, hf⟩
      · have hf := if_t q hf
        have ee := Option.some.inj hf; subst ee
        exact ⟨(fun z e => by have ee := Sum.inl.inj (e); subst ee; exact hle), (fun z e => nomatch e)⟩
      · have hf := if_f q hf
        obtain ⟨y16, hfm, rfl⟩ := mr_some hf; have hf := hfm; clear hfm
        have cf := mX0_gatherWords_b38 hf
        exact ⟨(fun z e => nomatch e), (fun z e => by cases e <;> exact eqz_rt cf hle)⟩
set_option maxRecDepth 100000 in
theorem wX0_gatherWords_c2 {E : PE} {p : Program} {l : Launch} {e : Env} {s : State} {m : MethodId} {args : Array Value} {below : List Frame} {meth : Method} {c : Code} (X : Cx E p l e (rmv 3 0 0) s m args below meth c RX0 cX0_gatherWords 4 (some .boolean)) (hG : Gs E l) (hnm : meth.name = yX0_gatherWords.name) {v0 : Nat} {v1 : Option Nat} {v2 : Int32} {h : PH} {r : (Int32 × PH)} {x : ((Int32 × PH) ⊕ (Int32 × PH))} (hf : fX0_gatherWords_c2 v0 v1 v2 h = some x) (k0 : ∀ z : (Int32 × PH), x = .inl z → PW E p l e (rmv 3 0 0) s m args below meth c 4 0 0 (MQ below (QG E (fun v u => v = some (.int r.1) ∧ u = r.2)) args s 0 0 (pA E)) (z.2) 2 [(0, some (.ref v0)), (1, some (va_rf v1)), (2, some (.int (z.1)))] []) (kf : ∀ z : (Int32 × PH), x = .inr z → z = r) : PW E p l e (rmv 3 0 0) s m args below meth c 4 0 0 (MQ below (QG E (fun v u => v = some (.int r.1) ∧ u = r.2)) args s 0 0 (pA E)) h 2 [(0, some (.ref v0)), (1, some (va_rf v1)), (2, some (.int v2))] [] := by
  unfold fX0_gatherWords_c2 at hf
  refine p_iload_n X (dcg dc_X0_gatherWords 2 rfl) rfl rfl ?_
  refine p_aloadq_n X (dcg dc_X0_gatherWords 3 rfl) rfl rfl ?_
  obtain ⟨a1, e2, hf⟩ := gs_some hf
  first | subst e2 | (try rw [e2])
  obtain ⟨hk3, hf⟩ := gd_some hf
  obtain ⟨z4, hz4, hf⟩ := bd_some hf
  refine p_callV (As := []) X ml_X0_32 (dcg dc_X0_gatherWords 4 rfl) rfl rfl hk3 (wJx4a65c_size_8abf5 hG hz4) (by decide) (room4 (Nat.le_of_ble_eq_true rfl)) (Nat.le_refl _) (Nat.le_refl _) ?_
  rintro _ u9 ⟨rfl, e9⟩; have e9 := e9.symm; subst e9
  refine p_icmp_ge (tgt := 46) X (dcg dc_X0_gatherWords 5 rfl) (by decide) (fun q => ?_) (fun q => ?_)
  · have hf := if_t q hf
    obtain ⟨y5, hf, hy6⟩ := mr_some hf
    have hy6f := kf y5 hy6
    subst hy6f
    refine p_iconst (v := 1) X (dcg dc_X0_gatherWords 24 rfl) (by decide) ?_
    have er := Option.some.inj hf
    subst er
    exact p_zret X rfl rfl (dcg dc_X0_gatherWords 25 rfl) ⟨rfl, rfl⟩ (Nat.le_refl _) (Nat.le_refl _)
  · have hf := if_f q hf
    refine p_aload_n X (dcg dc_X0_gatherWords 6 rfl) rfl rfl ?_
    refine p_iload_n X (dcg dc_X0_gatherWords 7 rfl) rfl rfl ?_
    obtain ⟨z7, hz7, hf⟩ := bd_some hf
    refine p_callV (As := [_]) X ml_X0_38 (dcg dc_X0_gatherWords 8 rfl) rfl rfl hk3 (wJx4a65c_get_915e3 hG hz7) (by decide) (room4 (Nat.le_of_ble_eq_true rfl)) (Nat.le_refl _) (Nat.le_refl _) ?_
    rintro _ u9 ⟨rfl, e9⟩; have e9 := e9.symm; subst e9
    obtain ⟨a8, e9, hf⟩ := gs_some hf
    first | subst e9 | (try rw [e9])
    obtain ⟨hk10, hf⟩ := gd_some hf
    refine p_cast (q := (RX4, TX4, 4)) X rfl tw_1800 (dcg dc_X0_gatherWords 9 rfl) hk10 ?_
    refine p_astore_n X (dcg dc_X0_gatherWords 10 rfl) rfl (by decide) rfl ?_
    refine p_aload_n X (dcg dc_X0_gatherWords 11 rfl) rfl rfl ?_
    refine p_getIn X fl_X0_44 rfl (by decide) (dcg dc_X0_gatherWords 12 rfl) hk10 ?_
    refine p_if_ne (tgt := 38) X (dcg dc_X0_gatherWords 13 rfl) (by decide) (fun q => ?_) (fun q => ?_)
    · have hf := if_t q hf
      obtain ⟨y11, hf, hy12⟩ := mr_some hf
      have hy12f := kf y11 hy12
      subst hy12f
      refine p_pick [] ?_
      exact wX0_gatherWords_b38 X hG hnm hf 
    · have hf := if_f q hf
      refine p_aload_n X (dcg dc_X0_gatherWords 14 rfl) rfl rfl ?_
      refine p_aload_n X (dcg dc_X0_gatherWords 15 rfl) rfl rfl ?_
      refine p_iconst (v := 0) X (dcg dc_X0_gatherWords 16 rfl) (by decide) ?_
      obtain ⟨z13, hz13, hf⟩ := bd_some hf
      refine p_callVn (As := [_]) X ml_X0_47 (dcg dc_X0_gatherWords 17 rfl) rfl rfl hk10 (wX4_soughtAt hG hz13) (by decide) (room4 (Nat.le_of_ble_eq_true rfl)) (Nat.le_refl _) (Nat.le_refl _) ?_
      rintro _ u9 ⟨rfl, e9⟩; have e9 := e9.symm; subst e9
      obtain ⟨hk14, hf⟩ := gd_some hf
      obtain ⟨z15, hz15, hf⟩ := bd_some hf
      refine p_callV (As := [_]) X ml_X0_51 (dcg dc_X0_gatherWords 18 rfl) rfl rfl hk14 (wX0_addChoice hG hz15) (by decide) (room4 (Nat.le_of_ble_eq_true rfl)) (Nat.le_refl _) (Nat.le_refl _) ?_
      rintro _ u9 ⟨rfl, e9⟩; have e9 := e9.symm; subst e9
      refine p_if_ne (tgt := 40) X (dcg dc_X0_gatherWords 19 rfl) (by decide) (fun q => ?_) (fun q => ?_)
      · have hf := if_t q hf
        refine p_iinc (v := 1) X (dcg dc_X0_gatherWords 22 rfl) rfl (by decide) (by decide) rfl ?_
        refine p_goto (tgt := 2) X (dcg dc_X0_gatherWords 23 rfl) (by decide) ?_
        refine p_pick [0, 1, 2] ?_
        exact k0 _ (Option.some.inj hf).symm
      · have hf := if_f q hf
        obtain ⟨y16, hf, hy17⟩ := mr_some hf
        have hy17f := kf y16 hy17
        subst hy17f
        refine p_pick [] ?_
        exact wX0_gatherWords_b38 X hG hnm hf 
noncomputable def fX0_gatherWords_l2 (v0 : Nat) (v1 : Option Nat) (v2 : Int32) (h : PH) : Option (Int32 × PH) := wh (fun z : (Int32 × PH) => fX0_gatherWords_c2 v0 v1 (z.1) (z.2)) (v2, h)
set_option maxRecDepth 100000 in
theorem mX0_gatherWords_l2 {v0 : Nat} {v1 : Option Nat} {v2 : Int32} {h : PH} {r : (Int32 × PH)} (hf : fX0_gatherWords_l2 v0 v1 v2 h = some r) : eqz h (hX r.2) (hV r.2) := by
  unfold fX0_gatherWords_l2 at hf
  refine wh_ind (P := fun z => eqz (z.2) (hX r.2) (hV r.2)) (fun z x0 hs i1 i2 => ?_) _ hf
  obtain ⟨c0, cf⟩ := mX0_gatherWords_c2 (v0 := v0) (v1 := v1) (v2 := z.1) (h := z.2) hs
  rcases hxx : x0 with zz | zz
  · exact eqz_tr (c0 zz hxx) (i1 zz hxx)
  · have ee := i2 zz hxx; subst ee; exact cf zz hxx
set_option maxRecDepth 100000 in
theorem wX0_gatherWords_l2 {E : PE} {p : Program} {l : Launch} {e : Env} {s : State} {m : MethodId} {args : Array Value} {below : List Frame} {meth : Method} {c : Code} (X : Cx E p l e (rmv 3 0 0) s m args below meth c RX0 cX0_gatherWords 4 (some .boolean)) (hG : Gs E l) (hnm : meth.name = yX0_gatherWords.name) {v0 : Nat} {v1 : Option Nat} {v2 : Int32} {h : PH} {r : (Int32 × PH)} (hf : fX0_gatherWords_l2 v0 v1 v2 h = some r)  : PW E p l e (rmv 3 0 0) s m args below meth c 4 0 0 (MQ below (QG E (fun v u => v = some (.int r.1) ∧ u = r.2)) args s 0 0 (pA E)) h 2 [(0, some (.ref v0)), (1, some (va_rf v1)), (2, some (.int v2))] [] := by
  unfold fX0_gatherWords_l2 at hf
  refine wh_ind (P := fun z => PW E p l e (rmv 3 0 0) s m args below meth c 4 0 0 (MQ below (QG E (fun v u => v = some (.int r.1) ∧ u = r.2)) args s 0 0 (pA E)) (z.2) 2 [(0, some (.ref v0)), (1, some (va_rf v1)), (2, some (.int (z.1)))] []) (fun z x0 hs i1 i2 => ?_) _ hf
  exact wX0_gatherWords_c2 (r := r) (v0 := v0) (v1 := v1) (v2 := z.1) (h := z.2) X hG hnm hs i1  i2
noncomputable def fX0_gatherWords (v0 : Nat) (v1 : Option Nat) (h : PH) : Option (Int32 × PH) :=
  fX0_gatherWords_l2 v0 v1 (0 : Int32) h
set_option maxRecDepth 100000 in
theorem mX0_gatherWords {v0 : Nat} {v1 : Option Nat} {h : PH} {r : (Int32 × PH)} (hf : fX0_gatherWords v0 v1 h = some r) : eqz h (hX r.2) (hV r.2) := by
  unfold fX0_gatherWords at hf
  have hle := eqz_rf h
  exact eqz_rt (mX0_gatherWords_l2 hf) hle
set_option maxRecDepth 100000 in
theorem wX0_gatherWords {E : PE} {l : Launch} (hG : Gs E l) {v0 : Nat} {v1 : Option Nat} {h : PH} {r : (Int32 × PH)} (hf : fX0_gatherWords v0 v1 h = some r) : Ct E l 3 0 0 yX0_gatherWords cX0_gatherWords 4 (some .boolean) [.ref v0, va_rf v1] h (fun v u => v = some (.int r.1) ∧ u = r.2) := by
  refine ct_of hG (by decide) (by simp [lg_sl, cat_rf, cat_r, cat_i, cat_l, cat_d, cat_f]) ?_
  intro p e s m args below meth c X hnm
  rw [show pargs 0 [.ref v0, va_rf v1] = [(0, some (.ref v0)), (1, some (va_rf v1))] from by simp [pargs, cat_rf, cat_r, cat_i, cat_l, cat_d, cat_f]]
  unfold fX0_gatherWords at hf
  refine p_iconst (v := 0) X (dcg dc_X0_gatherWords 0 rfl) (by decide) ?_
  refine p_istore_n X (dcg dc_X0_gatherWords 1 rfl) rfl (by decide) (nwq (k := 1) rfl) ?_
  refine p_pick [0, 1, 2] ?_
  exact wX0_gatherWords_l2 X hG hnm hf 
theorem dc_J6_bitCount_0f7a4 : decs cJ6_bitCount_0f7a4 [(0, .iload_n 0, 1), (1, .iload_n 0, 1), (2, .iconst 1, 1), (3, .iushr, 1), (4, .ldc_w 265, 3), (7, .iand, 1), (8, .isub, 1), (9, .istore_n 0, 1), (10, .iload_n 0, 1), (11, .ldc_w 266, 3), (14, .iand, 1), (15, .iload_n 0, 1), (16, .iconst 2, 1), (17, .iushr, 1), (18, .ldc_w 266, 3), (21, .iand, 1), (22, .iadd, 1), (23, .istore_n 0, 1), (24, .iload_n 0, 1), (25, .iload_n 0, 1), (26, .iconst 4, 1), (27, .iushr, 1), (28, .iadd, 1), (29, .ldc_w 267, 3), (32, .iand, 1), (33, .istore_n 0, 1), (34, .iload_n 0, 1), (35, .iload_n 0, 1), (36, .bipush 8, 2), (38, .iushr, 1), (39, .iadd, 1), (40, .istore_n 0, 1), (41, .iload_n 0, 1), (42, .iload_n 0, 1), (43, .bipush 16, 2), (45, .iushr, 1), (46, .iadd, 1), (47, .istore_n 0, 1), (48, .iload_n 0, 1), (49, .bipush 63, 2), (51, .iand, 1), (52, .ireturn, 1)] = true := by decide +kernel
noncomputable def fJ6_bitCount_0f7a4 (v0 : Int32) : Option Int32 :=
  some (((((((((v0 - ((Int32.toUInt32 v0 >>> (Int32.toUInt32 (1 : Int32) &&& Int32.toUInt32 31)).toInt32 &&& (1431655765 : Int32))) &&& (858993459 : Int32)) + ((Int32.toUInt32 (v0 - ((Int32.toUInt32 v0 >>> (Int32.toUInt32 (1 : Int32) &&& Int32.toUInt32 31)).toInt32 &&& (1431655765 : Int32))) >>> (Int32.toUInt32 (2 : Int32) &&& Int32.toUInt32 31)).toInt32 &&& (858993459 : Int32))) + (Int32.toUInt32 (((v0 - ((Int32.toUInt32 v0 >>> (Int32.toUInt32 (1 : Int32) &&& Int32.toUInt32 31)).toInt32 &&& (1431655765 : Int32))) &&& (858993459 : Int32)) + ((Int32.toUInt32 (v0 - ((Int32.toUInt32 v0 >>> (Int32.toUInt32 (1 : Int32) &&& Int32.toUInt32 31)).toInt32 &&& (1431655765 : Int32))) >>> (Int32.toUInt32 (2 : Int32) &&& Int32.toUInt32 31)).toInt32 &&& (858993459 : Int32))) >>> (Int32.toUInt32 (4 : Int32) &&& Int32.toUInt32 31)).toInt32) &&& (252645135 : Int32)) + (Int32.toUInt32 (((((v0 - ((Int32.toUInt32 v0 >>> (Int32.toUInt32 (1 : Int32) &&& Int32.toUInt32 31)).toInt32 &&& (1431655765 : Int32))) &&& (858993459 : Int32)) + ((Int32.toUInt32 (v0 - ((Int32.toUInt32 v0 >>> (Int32.toUInt32 (1 : Int32) &&& Int32.toUInt32 31)).toInt32 &&& (1431655765 : Int32))) >>> (Int32.toUInt32 (2 : Int32) &&& Int32.toUInt32 31)).toInt32 &&& (858993459 : Int32))) + (Int32.toUInt32 (((v0 - ((Int32.toUInt32 v0 >>> (Int32.toUInt32 (1 : Int32) &&& Int32.toUInt32 31)).toInt32 &&& (1431655765 : Int32))) &&& (858993459 : Int32)) + ((Int32.toUInt32 (v0 - ((Int32.toUInt32 v0 >>> (Int32.toUInt32 (1 : Int32) &&& Int32.toUInt32 31)).toInt32 &&& (1431655765 : Int32))) >>> (Int32.toUInt32 (2 : Int32) &&& Int32.toUInt32 31)).toInt32 &&& (858993459 : Int32))) >>> (Int32.toUInt32 (4 : Int32) &&& Int32.toUInt32 31)).toInt32) &&& (252645135 : Int32)) >>> (Int32.toUInt32 (8 : Int32) &&& Int32.toUInt32 31)).toInt32) + (Int32.toUInt32 ((((((v0 - ((Int32.toUInt32 v0 >>> (Int32.toUInt32 (1 : Int32) &&& Int32.toUInt32 31)).toInt32 &&& (1431655765 : Int32))) &&& (858993459 : Int32)) + ((Int32.toUInt32 (v0 - ((Int32.toUInt32 v0 >>> (Int32.toUInt32 (1 : Int32) &&& Int32.toUInt32 31)).toInt32 &&& (1431655765 : Int32))) >>> (Int32.toUInt32 (2 : Int32) &&& Int32.toUInt32 31)).toInt32 &&& (858993459 : Int32))) + (Int32.toUInt32 (((v0 - ((Int32.toUInt32 v0 >>> (Int32.toUInt32 (1 : Int32) &&& Int32.toUInt32 31)).toInt32 &&& (1431655765 : Int32))) &&& (858993459 : Int32)) + ((Int32.toUInt32 (v0 - ((Int32.toUInt32 v0 >>> (Int32.toUInt32 (1 : Int32) &&& Int32.toUInt32 31)).toInt32 &&& (1431655765 : Int32))) >>> (Int32.toUInt32 (2 : Int32) &&& Int32.toUInt32 31)).toInt32 &&& (858993459 : Int32))) >>> (Int32.toUInt32 (4 : Int32) &&& Int32.toUInt32 31)).toInt32) &&& (252645135 : Int32)) + (Int32.toUInt32 (((((v0 - ((Int32.toUInt32 v0 >>> (Int32.toUInt32 (1 : Int32) &&& Int32.toUInt32 31)).toInt32 &&& (1431655765 : Int32))) &&& (858993459 : Int32)) + ((Int32.toUInt32 (v0 - ((Int32.toUInt32 v0 >>> (Int32.toUInt32 (1 : Int32) &&& Int32.toUInt32 31)).toInt32 &&& (1431655765 : Int32))) >>> (Int32.toUInt32 (2 : Int32) &&& Int32.toUInt32 31)).toInt32 &&& (858993459 : Int32))) + (Int32.toUInt32 (((v0 - ((Int32.toUInt32 v0 >>> (Int32.toUInt32 (1 : Int32) &&& Int32.toUInt32 31)).toInt32 &&& (1431655765 : Int32))) &&& (858993459 : Int32)) + ((Int32.toUInt32 (v0 - ((Int32.toUInt32 v0 >>> (Int32.toUInt32 (1 : Int32) &&& Int32.toUInt32 31)).toInt32 &&& (1431655765 : Int32))) >>> (Int32.toUInt32 (2 : Int32) &&& Int32.toUInt32 31)).toInt32 &&& (858993459 : Int32))) >>> (Int32.toUInt32 (4 : Int32) &&& Int32.toUInt32 31)).toInt32) &&& (252645135 : Int32)) >>> (Int32.toUInt32 (8 : Int32) &&& Int32.toUInt32 31)).toInt32) >>> (Int32.toUInt32 (16 : Int32) &&& Int32.toUInt32 31)).toInt32) &&& (63 : Int32)))
set_option maxRecDepth 100000 in
theorem wJ6_bitCount_0f7a4 {E : PE} {l : Launch} (hG : Gs E l) {v0 : Int32} {h : PH} {r : Int32} (hf : fJ6_bitCount_0f7a4 v0 = some r) : Ct E l 0 0 0 yJ6_bitCount_0f7a4 cJ6_bitCount_0f7a4 1 (some .int) [.int v0] h (fun v u => v = some (.int r) ∧ u = h) := by
  refine ct_of hG (by decide) (Nat.le_of_ble_eq_true rfl) ?_
  intro p e s m args below meth c X hnm
  show PW E p l e _ s m args below meth c _ 0 0 _ h 0 [(0, some (.int v0))] []
  unfold fJ6_bitCount_0f7a4 at hf
  refine p_iload_n X (dcg dc_J6_bitCount_0f7a4 0 rfl) rfl rfl ?_
  refine p_iload_n X (dcg dc_J6_bitCount_0f7a4 1 rfl) rfl rfl ?_
  refine p_iconst (v := 1) X (dcg dc_J6_bitCount_0f7a4 2 rfl) (by decide) ?_
  refine p_iushr X (dcg dc_J6_bitCount_0f7a4 3 rfl) ?_
  refine p_ldc_w X tw_1814 (dcg dc_J6_bitCount_0f7a4 4 rfl) ?_
  refine p_iand X (dcg dc_J6_bitCount_0f7a4 5 rfl) ?_
  refine p_isub X (dcg dc_J6_bitCount_0f7a4 6 rfl) ?_
  refine p_istore_n X (dcg dc_J6_bitCount_0f7a4 7 rfl) rfl (by decide) rfl ?_
  refine p_iload_n X (dcg dc_J6_bitCount_0f7a4 8 rfl) rfl rfl ?_
  refine p_ldc_w X tw_1815 (dcg dc_J6_bitCount_0f7a4 9 rfl) ?_
  refine p_iand X (dcg dc_J6_bitCount_0f7a4 10 rfl) ?_
  refine p_iload_n X (dcg dc_J6_bitCount_0f7a4 11 rfl) rfl rfl ?_
  refine p_iconst (v := 2) X (dcg dc_J6_bitCount_0f7a4 12 rfl) (by decide) ?_
  refine p_iushr X (dcg dc_J6_bitCount_0f7a4 13 rfl) ?_
  refine p_ldc_w X tw_1815 (dcg dc_J6_bitCount_0f7a4 14 rfl) ?_
  refine p_iand X (dcg dc_J6_bitCount_0f7a4 15 rfl) ?_
  refine p_iadd X (dcg dc_J6_bitCount_0f7a4 16 rfl) ?_
  refine p_istore_n X (dcg dc_J6_bitCount_0f7a4 17 rfl) rfl (by decide) rfl ?_
  refine p_iload_n X (dcg dc_J6_bitCount_0f7a4 18 rfl) rfl rfl ?_
  refine p_iload_n X (dcg dc_J6_bitCount_0f7a4 19 rfl) rfl rfl ?_
  refine p_iconst (v := 4) X (dcg dc_J6_bitCount_0f7a4 20 rfl) (by decide) ?_
  refine p_iushr X (dcg dc_J6_bitCount_0f7a4 21 rfl) ?_
  refine p_iadd X (dcg dc_J6_bitCount_0f7a4 22 rfl) ?_
  refine p_ldc_w X tw_1816 (dcg dc_J6_bitCount_0f7a4 23 rfl) ?_
  refine p_iand X (dcg dc_J6_bitCount_0f7a4 24 rfl) ?_
  refine p_istore_n X (dcg dc_J6_bitCount_0f7a4 25 rfl) rfl (by decide) rfl ?_
  refine p_iload_n X (dcg dc_J6_bitCount_0f7a4 26 rfl) rfl rfl ?_
  refine p_iload_n X (dcg dc_J6_bitCount_0f7a4 27 rfl) rfl rfl ?_
  refine p_bipush (v := 8) X (dcg dc_J6_bitCount_0f7a4 28 rfl) (by decide) ?_
  refine p_iushr X (dcg dc_J6_bitCount_0f7a4 29 rfl) ?_
  refine p_iadd X (dcg dc_J6_bitCount_0f7a4 30 rfl) ?_
  refine p_istore_n X (dcg dc_J6_bitCount_0f7a4 31 rfl) rfl (by decide) rfl ?_
  refine p_iload_n X (dcg dc_J6_bitCount_0f7a4 32 rfl) rfl rfl ?_
  refine p_iload_n X (dcg dc_J6_bitCount_0f7a4 33 rfl) rfl rfl ?_
  refine p_bipush (v := 16) X (dcg dc_J6_bitCount_0f7a4 34 rfl) (by decide) ?_
  refine p_iushr X (dcg dc_J6_bitCount_0f7a4 35 rfl) ?_
  refine p_iadd X (dcg dc_J6_bitCount_0f7a4 36 rfl) ?_
  refine p_istore_n X (dcg dc_J6_bitCount_0f7a4 37 rfl) rfl (by decide) rfl ?_
  refine p_iload_n X (dcg dc_J6_bitCount_0f7a4 38 rfl) rfl rfl ?_
  refine p_bipush (v := 63) X (dcg dc_J6_bitCount_0f7a4 39 rfl) (by decide) ?_
  refine p_iand X (dcg dc_J6_bitCount_0f7a4 40 rfl) ?_
  have er := Option.some.inj hf
  subst er
  exact p_iret X rfl (dcg dc_J6_bitCount_0f7a4 41 rfl) ⟨rfl, rfl⟩ (Nat.le_refl _) (Nat.le_refl _)
theorem dc_X8_clear : decs cX8_clear [(0, .aload_n 0, 1), (1, .iconst 0, 1), (2, .putfield 15, 3), (5, .return_, 1)] = true := by decide +kernel
noncomputable def fX8_clear (v0 : Nat) (h : PH) : Option PH :=
  gd (hK h v0 = 8) (lt (sI h 8 v0 1 (0 : Int32)) (fun h2 =>
  some (h2)))
set_option maxRecDepth 100000 in
theorem mX8_clear {v0 : Nat} {h : PH} {r : PH} (hf : fX8_clear v0 h = some r) : eqz h (hX r) (hV r) := by
  unfold fX8_clear at hf
  have hle := eqz_rf h
  obtain ⟨hk1, hf⟩ := gd_some hf
  obtain ⟨h2, rfl, hf⟩ := lt_some hf
  have ee := Option.some.inj hf; subst ee; exact hle
set_option maxRecDepth 100000 in
theorem wX8_clear {E : PE} {l : Launch} (hG : Gs E l) {v0 : Nat} {h : PH} {r : PH} (hf : fX8_clear v0 h = some r) : Ct E l 0 0 0 yX8_clear cX8_clear 1 (none) [.ref v0] h (fun v u => v = none ∧ u = r) := by
  refine ct_of hG (by decide) (Nat.le_of_ble_eq_true rfl) ?_
  intro p e s m args below meth c X hnm
  show PW E p l e _ s m args below meth c _ 0 0 _ h 0 [(0, some (.ref v0))] []
  unfold fX8_clear at hf
  refine p_aload_n X (dcg dc_X8_clear 0 rfl) rfl rfl ?_
  refine p_iconst (v := 0) X (dcg dc_X8_clear 1 rfl) (by decide) ?_
  obtain ⟨hk1, hf⟩ := gd_some hf
  refine p_putI X fl_X8_15 rfl (by decide) (fun q hq => by cases hq; rfl) rfl rfl (dcg dc_X8_clear 2 rfl) hk1 ?_
  obtain ⟨h2, rfl, hf⟩ := lt_some hf
  have er := Option.some.inj hf
  subst er
  exact p_vret X rfl (dcg dc_X8_clear 3 rfl) ⟨rfl, rfl⟩ (Nat.le_refl _) (Nat.le_refl _)
theorem dc_X8_add : decs cX8_add [(0, .aload_n 0, 1), (1, .getfield 15, 3), (4, .bipush 40, 2), (6, .if_icmp .ge 23, 3), (9, .aload_n 0, 1), (10, .getfield 11, 3), (13, .aload_n 0, 1), (14, .getfield 15, 3), (17, .iload_n 1, 1), (18, .iastore, 1), (19, .aload_n 0, 1), (20, .dup, 1), (21, .getfield 15, 3), (24, .iconst 1, 1), (25, .iadd, 1), (26, .putfield 15, 3), (29, .return_, 1)] = true := by decide +kernel
noncomputable def fX8_add_b29  (h : PH) : Option PH :=
  some (h)
set_option maxRecDepth 100000 in
theorem mX8_add_b29  {h : PH} {r : PH} (hf : fX8_add_b29  h = some r) : eqz h (hX r) (hV r) := by
  unfold fX8_add_b29 at hf
  have hle := eqz_rf h
  have ee := Option.some.inj hf; subst ee; exact hle
set_option maxRecDepth 100000 in
theorem wX8_add_b29 {E : PE} {p : Program} {l : Launch} {e : Env} {s : State} {m : MethodId} {args : Array Value} {below : List Frame} {meth : Method} {c : Code} (X : Cx E p l e (rmv 0 0 0) s m args below meth c RX8 cX8_add 2 (none)) (hG : Gs E l) (hnm : meth.name = yX8_add.name)  {h : PH} {r : PH} (hf : fX8_add_b29  h = some r)  : PW E p l e (rmv 0 0 0) s m args below meth c 2 0 0 (MQ below (QG E (fun v u => v = none ∧ u = r)) args s 0 0 (pA E)) h 29 [] [] := by
  unfold fX8_add_b29 at hf
  have er := Option.some.inj hf
  subst er
  exact p_vret X rfl (dcg dc_X8_add 16 rfl) ⟨rfl, rfl⟩ (Nat.le_refl _) (Nat.le_refl _)
noncomputable def fX8_add (v0 : Nat) (v1 : Int32) (h : PH) : Option PH :=
  gd (hK h v0 = 8) (if ((40 : Int32) ≤ (hI h 8 v0 1)) then (fX8_add_b29  h) else
  gs (hR h 8 v0 0) (fun a2 =>
  gd (hK h a2 = 20 ∧ inb (hI h 8 v0 1) (hN h a2)) (lt (sI h 20 a2 (Int32.toNatClampNeg (hI h 8 v0 1)) v1) (fun h6 =>
  lt (sI h6 8 v0 1 ((hI h6 8 v0 1) + (1 : Int32))) (fun h7 =>
  fX8_add_b29  h7)))))
set_option maxRecDepth 100000 in
theorem mX8_add {v0 : Nat} {v1 : Int32} {h : PH} {r : PH} (hf : fX8_add v0 v1 h = some r) : eqz h (hX r) (hV r) := by
  unfold fX8_add at hf
  have hle := eqz_rf h
  obtain ⟨hk1, hf⟩ := gd_some hf
  rcases ite_or hf with ⟨q, hf⟩ | ⟨q, hf⟩
  · have hf := if_t q hf
    exact eqz_rt (mX8_add_b29 hf) hle
  · have hf := if_f q hf
    obtain ⟨a2, e3, hf⟩ := gs_some hf
    obtain ⟨⟨hk5, hb4⟩, hf⟩ := gd_some hf
    obtain ⟨h6, rfl, hf⟩ := lt_some hf
    obtain ⟨h7, rfl, hf⟩ := lt_some hf
    exact eqz_rt (mX8_add_b29 hf) hle
set_option maxRecDepth 100000 in
theorem wX8_add {E : PE} {l : Launch} (hG : Gs E l) {v0 : Nat} {v1 : Int32} {h : PH} {r : PH} (hf : fX8_add v0 v1 h = some r) : Ct E l 0 0 0 yX8_add cX8_add 2 (none) [.ref v0, .int v1] h (fun v u => v = none ∧ u = r) := by
  refine ct_of hG (by decide) (Nat.le_of_ble_eq_true rfl) ?_
  intro p e s m args below meth c X hnm
  show PW E p l e _ s m args below meth c _ 0 0 _ h 0 [(0, some (.ref v0)), (1, some (.int v1))] []
  unfold fX8_add at hf
  refine p_aload_n X (dcg dc_X8_add 0 rfl) rfl rfl ?_
  obtain ⟨hk1, hf⟩ := gd_some hf
  refine p_getI X fl_X8_15 rfl (by decide) (dcg dc_X8_add 1 rfl) hk1 ?_
  refine p_bipush (v := 40) X (dcg dc_X8_add 2 rfl) (by decide) ?_
  refine p_icmp_ge (tgt := 29) X (dcg dc_X8_add 3 rfl) (by decide) (fun q => ?_) (fun q => ?_)
  · have hf := if_t q hf
    refine p_pick [] ?_
    exact wX8_add_b29 X hG hnm hf 
  · have hf := if_f q hf
    refine p_aload_n X (dcg dc_X8_add 4 rfl) rfl rfl ?_
    refine p_getR X fl_X8_11 rfl (by decide) (dcg dc_X8_add 5 rfl) hk1 ?_
    refine p_aload_n X (dcg dc_X8_add 6 rfl) rfl rfl ?_
    refine p_getI X fl_X8_15 rfl (by decide) (dcg dc_X8_add 7 rfl) hk1 ?_
    refine p_iload_n X (dcg dc_X8_add 8 rfl) rfl rfl ?_
    obtain ⟨a2, e3, hf⟩ := gs_some hf
    first | subst e3 | (try rw [e3])
    obtain ⟨⟨hk5, hb4⟩, hf⟩ := gd_some hf
    refine p_iast X (dcg dc_X8_add 9 rfl) hk5 (vp_of_inb hb4) ?_
    obtain ⟨h6, rfl, hf⟩ := lt_some hf
    refine p_aload_n X (dcg dc_X8_add 10 rfl) rfl rfl ?_
    refine p_dup X (dcg dc_X8_add 11 rfl) rfl ?_
    refine p_getI X fl_X8_15 rfl (by decide) (dcg dc_X8_add 12 rfl) hk1 ?_
    refine p_iconst (v := 1) X (dcg dc_X8_add 13 rfl) (by decide) ?_
    refine p_iadd X (dcg dc_X8_add 14 rfl) ?_
    refine p_putI X fl_X8_15 rfl (by decide) (fun q hq => by cases hq; rfl) rfl rfl (dcg dc_X8_add 15 rfl) hk1 ?_
    obtain ⟨h7, rfl, hf⟩ := lt_some hf
    refine p_pick [] ?_
    exact wX8_add_b29 X hG hnm hf 
theorem dc_X0_fillTrial : decs cX0_fillTrial [(0, .aload_n 0, 1), (1, .getfield 18, 3), (4, .invokevirtual 76, 3), (7, .iconst 0, 1), (8, .istore_n 2, 1), (9, .iload_n 2, 1), (10, .aload_n 0, 1), (11, .getfield 29, 3), (14, .if_icmp .ge 37, 3), (17, .iload_n 1, 1), (18, .aload_n 0, 1), (19, .getfield 29, 3), (22, .iconst 1, 1), (23, .isub, 1), (24, .iload_n 2, 1), (25, .isub, 1), (26, .iushr, 1), (27, .iconst 1, 1), (28, .iand, 1), (29, .ifCond .eq 16, 3), (32, .aload_n 0, 1), (33, .getfield 18, 3), (36, .aload_n 0, 1), (37, .getfield 11, 3), (40, .iload_n 2, 1), (41, .iaload, 1), (42, .invokevirtual 79, 3), (45, .iinc 2 1, 3), (48, .goto (-39), 3), (51, .return_, 1)] = true := by decide +kernel
noncomputable def fX0_fillTrial_b45 (v0 : Nat) (v1 : Int32) (v2 : Int32) (h : PH) : Option ((Int32 × PH) ⊕ PH) :=
  some (.inl ((v2 + 1), h))
set_option maxRecDepth 100000 in
theorem mX0_fillTrial_b45 {v0 : Nat} {v1 : Int32} {v2 : Int32} {h : PH} {x : ((Int32 × PH) ⊕ PH)} (hf : fX0_fillTrial_b45 v0 v1 v2 h = some x) : (∀ w9 : (Int32 × PH), x = .inl w9 → eqz h (hX (w9.2)) (hV (w9.2))) ∧ (∀ w9 : PH, x = .inr w9 → eqz h (hX w9) (hV w9)) := by
  unfold fX0_fillTrial_b45 at hf
  have hle := eqz_rf h
  have ee := Option.some.inj hf; subst ee
  exact ⟨(fun z e => by have ee := Sum.inl.inj (e); subst ee; exact hle), (fun z e => nomatch e)⟩
set_option maxRecDepth 100000 in
theorem wX0_fillTrial_b45 {E : PE} {p : Program} {l : Launch} {e : Env} {s : State} {m : MethodId} {args : Array Value} {below : List Frame} {meth : Method} {c : Code} (X : Cx E p l e (rmv 1 0 0) s m args below meth c RX0 cX0_fillTrial 3 (none)) (hG : Gs E l) (hnm : meth.name = yX0_fillTrial.name) {v0 : Nat} {v1 : Int32} {v2 : Int32} {h : PH} {r : PH} {x : ((Int32 × PH) ⊕ PH)} (hf : fX0_fillTrial_b45 v0 v1 v2 h = some x) (k0 : ∀ z : (Int32 × PH), x = .inl z → PW E p l e (rmv 1 0 0) s m args below meth c 3 0 0 (MQ below (QG E (fun v u => v = none ∧ u = r)) args s 0 0 (pA E)) (z.2) 9 [(0, some (.ref v0)), (1, some (.int v1)), (2, some (.int (z.1)))] []) (kf : ∀ z : PH, x = .inr z → z = r) : PW E p l e (rmv 1 0 0) s m args below meth c 3 0 0 (MQ below (QG E (fun v u => v = none ∧ u = r)) args s 0 0 (pA E)) h 45 [(0, some (.ref v0)), (1, some (.int v1)), (2, some (.int v2))] [] := by
  unfold fX0_fillTrial_b45 at hf
  refine p_iinc (v := 1) X (dcg dc_X0_fillTrial 27 rfl) rfl (by decide) (by decide) rfl ?_
  refine p_goto (tgt := 9) X (dcg dc_X0_fillTrial 28 rfl) (by decide) ?_
  refine p_pick [0, 1, 2] ?_
  exact k0 _ (Option.some.inj hf).symm
noncomputable def fX0_fillTrial_c9 (v0 : Nat) (v1 : Int32) (v2 : Int32) (h : PH) : Option ((Int32 × PH) ⊕ PH) :=
  gd (hK h v0 = 0) (if ((hI h 0 v0 1) ≤ v2) then (mr (some (h))) else
  if (((Int32.toUInt32 v1 >>> (Int32.toUInt32 (((hI h 0 v0 1) - (1 : Int32)) - v2) &&& Int32.toUInt32 31)).toInt32 &&& (1 : Int32)) = 0) then (fX0_fillTrial_b45 v0 v1 v2 h) else
  gs (hR h 0 v0 0) (fun a9 =>
  gd (hK h a9 = 20 ∧ inb v2 (hN h a9)) (gs (hR h 0 v0 2) (fun a13 =>
  gd (hK h a13 = 8) (bd (fX8_add a13 (hI h 20 a9 (Int32.toNatClampNeg v2)) h) (fun z16 =>
  fX0_fillTrial_b45 v0 v1 v2 z16))))))
set_option maxRecDepth 100000 in
theorem mX0_fillTrial_c9 {v0 : Nat} {v1 : Int32} {v2 : Int32} {h : PH} {x : ((Int32 × PH) ⊕ PH)} (hf : fX0_fillTrial_c9 v0 v1 v2 h = some x) : (∀ w9 : (Int32 × PH), x = .inl w9 → eqz h (hX (w9.2)) (hV (w9.2))) ∧ (∀ w9 : PH, x = .inr w9 → eqz h (hX w9) (hV w9)) := by
  unfold fX0_fillTrial_c9 at hf
  have hle := eqz_rf h
  obtain ⟨hk6, hf⟩ := gd_some hf
  rcases ite_or hf with ⟨q, hf⟩ | ⟨q, hf⟩
  · have hf := if_t q hf
    obtain ⟨y7, hfm, rfl⟩ := mr_some hf; have hf := hfm; clear hfm
    have ee := Option.some.inj hf; subst ee
    exact ⟨(fun z e => nomatch e), (fun z e => by have ee := Sum.inr.inj (e); subst ee; exact hle)⟩
  · have hf := if_f q hf
    rcases ite_or hf with ⟨q, hf⟩ | ⟨q, hf⟩
    · have hf := if_t q hf
      obtain ⟨c0, cf⟩ := mX0_fillTrial_b45 hf
      exact ⟨fun z e => eqz_rt (c0 z (e)) hle, fun z e => eqz_rt (cf z (e)) hle⟩
    · have hf := if_f q hf
      obtain ⟨a9, e10, hf⟩ := gs_some hf
      obtain ⟨⟨hk12, hb11⟩, hf⟩ := gd_some hf
      obtain ⟨a13, e14, hf⟩ := gs_some hf
      obtain ⟨hk15, hf⟩ := gd_some hf
      obtain ⟨z16, hz16, hf⟩ := bd_some hf
      have hle := eqz_rt (mX8_add hz16) hle
      obtain ⟨c0, cf⟩ := mX0_fillTrial_b45 hf
      exact ⟨fun z e => eqz_rt (c0 z (e)) hle, fun z e => eqz_rt (cf z (e)) hle⟩
set_option maxRecDepth 100000 in
theorem wX0_fillTrial_c9 {E : PE} {p : Program} {l : Launch} {e : Env} {s : State} {m : MethodId} {args : Array Value} {below : List Frame} {meth : Method} {c : Code} (X : Cx E p l e (rmv 1 0 0) s m args below meth c RX0 cX0_fillTrial 3 (none)) (hG : Gs E l) (hnm : meth.name = yX0_fillTrial.name) {v0 : Nat} {v1 : Int32} {v2 : Int32} {h : PH} {r : PH} {x : ((Int32 × PH) ⊕ PH)} (hf : fX0_fillTrial_c9 v0 v1 v2 h = some x) (k0 : ∀ z : (Int32 × PH), x = .inl z → PW E p l e (rmv 1 0 0) s m args below meth c 3 0 0 (MQ below (QG E (fun v u => v = none ∧ u = r)) args s 0 0 (pA E)) (z.2) 9 [(0, some (.ref v0)), (1, some (.int v1)), (2, some (.int (z.1)))] []) (kf : ∀ z : PH, x = .inr z → z = r) : PW E p l e (rmv 1 0 0) s m args below meth c 3 0 0 (MQ below (QG E (fun v u => v = none ∧ u = r)) args s 0 0 (pA E)) h 9 [(0, some (.ref v0)), (1, some (.int v1)), (2, some (.int v2))] [] := by
  unfold fX0_fillTrial_c9 at hf
  refine p_iload_n X (dcg dc_X0_fillTrial 5 rfl) rfl rfl ?_
  refine p_aload_n X (dcg dc_X0_fillTrial 6 rfl) rfl rfl ?_
  obtain ⟨hk6, hf⟩ := gd_some hf
  refine p_getI X fl_X0_29 rfl (by decide) (dcg dc_X0_fillTrial 7 rfl) hk6 ?_
  refine p_icmp_ge (tgt := 51) X (dcg dc_X0_fillTrial 8 rfl) (by decide) (fun q => ?_) (fun q => ?_)
  · have hf := if_t q hf
    obtain ⟨y7, hf, hy8⟩ := mr_some hf
    have hy8f := kf y7 hy8
    subst hy8f
    have er := Option.some.inj hf
    subst er
    exact p_vret X rfl (dcg dc_X0_fillTrial 29 rfl) ⟨rfl, rfl⟩ (Nat.le_refl _) (Nat.le_refl _)
  · have hf := if_f q hf
    refine p_iload_n X (dcg dc_X0_fillTrial 9 rfl) rfl rfl ?_
    refine p_aload_n X (dcg dc_X0_fillTrial 10 rfl) rfl rfl ?_
    refine p_getI X fl_X0_29 rfl (by decide) (dcg dc_X0_fillTrial 11 rfl) hk6 ?_
    refine p_iconst (v := 1) X (dcg dc_X0_fillTrial 12 rfl) (by decide) ?_
    refine p_isub X (dcg dc_X0_fillTrial 13 rfl) ?_
    refine p_iload_n X (dcg dc_X0_fillTrial 14 rfl) rfl rfl ?_
    refine p_isub X (dcg dc_X0_fillTrial 15 rfl) ?_
    refine p_iushr X (dcg dc_X0_fillTrial 16 rfl) ?_
    refine p_iconst (v := 1) X (dcg dc_X0_fillTrial 17 rfl) (by decide) ?_
    refine p_iand X (dcg dc_X0_fillTrial 18 rfl) ?_
    refine p_if_eq (tgt := 45) X (dcg dc_X0_fillTrial 19 rfl) (by decide) (fun q => ?_) (fun q => ?_)
    · have hf := if_t q hf
      refine p_pick [0, 1, 2] ?_
      exact wX0_fillTrial_b45 X hG hnm hf k0 kf
    · have hf := if_f q hf
      refine p_aload_n X (dcg dc_X0_fillTrial 20 rfl) rfl rfl ?_
      refine p_getR X fl_X0_18 rfl (by decide) (dcg dc_X0_fillTrial 21 rfl) hk6 ?_
      refine p_aload_n X (dcg dc_X0_fillTrial 22 rfl) rfl rfl ?_
      refine p_getR X fl_X0_11 rfl (by decide) (dcg dc_X0_fillTrial 23 rfl) hk6 ?_
      refine p_iload_n X (dcg dc_X0_fillTrial 24 rfl) rfl rfl ?_
      obtain ⟨a9, e10, hf⟩ := gs_some hf
      first | subst e10 | (try rw [e10])
      obtain ⟨⟨hk12, hb11⟩, hf⟩ := gd_some hf
      refine p_iald X (dcg dc_X0_fillTrial 25 rfl) hk12 (vp_of_inb hb11) ?_
      obtain ⟨a13, e14, hf⟩ := gs_some hf
      first | subst e14 | (try rw [e14])
      obtain ⟨hk15, hf⟩ := gd_some hf
      obtain ⟨z16, hz16, hf⟩ := bd_some hf
      refine p_callV (As := [_]) X ml_X0_79 (dcg dc_X0_fillTrial 26 rfl) rfl rfl hk15 (wX8_add hG hz16) (by decide) (room4 (Nat.le_of_ble_eq_true rfl)) (Nat.le_refl _) (Nat.le_refl _) ?_
      rintro _ u9 ⟨rfl, e9⟩; have e9 := e9.symm; subst e9
      refine p_pick [0, 1, 2] ?_
      exact wX0_fillTrial_b45 X hG hnm hf k0 kf
noncomputable def fX0_fillTrial_l9 (v0 : Nat) (v1 : Int32) (v2 : Int32) (h : PH) : Option PH := wh (fun z : (Int32 × PH) => fX0_fillTrial_c9 v0 v1 (z.1) (z.2)) (v2, h)
set_option maxRecDepth 100000 in
theorem mX0_fillTrial_l9 {v0 : Nat} {v1 : Int32} {v2 : Int32} {h : PH} {r : PH} (hf : fX0_fillTrial_l9 v0 v1 v2 h = some r) : eqz h (hX r) (hV r) := by
  unfold fX0_fillTrial_l9 at hf
  refine wh_ind (P := fun z => eqz (z.2) (hX r) (hV r)) (fun z x0 hs i1 i2 => ?_) _ hf
  obtain ⟨c0, cf⟩ := mX0_fillTrial_c9 (v0 := v0) (v1 := v1) (v2 := z.1) (h := z.2) hs
  rcases hxx : x0 with zz | zz
  · exact eqz_tr (c0 zz hxx) (i1 zz hxx)
  · have ee := i2 zz hxx; subst ee; exact cf zz hxx
set_option maxRecDepth 100000 in
theorem wX0_fillTrial_l9 {E : PE} {p : Program} {l : Launch} {e : Env} {s : State} {m : MethodId} {args : Array Value} {below : List Frame} {meth : Method} {c : Code} (X : Cx E p l e (rmv 1 0 0) s m args below meth c RX0 cX0_fillTrial 3 (none)) (hG : Gs E l) (hnm : meth.name = yX0_fillTrial.name) {v0 : Nat} {v1 : Int32} {v2 : Int32} {h : PH} {r : PH} (hf : fX0_fillTrial_l9 v0 v1 v2 h = some r)  : PW E p l e (rmv 1 0 0) s m args below meth c 3 0 0 (MQ below (QG E (fun v u => v = none ∧ u = r)) args s 0 0 (pA E)) h 9 [(0, some (.ref v0)), (1, some (.int v1)), (2, some (.int v2))] [] := by
  unfold fX0_fillTrial_l9 at hf
  refine wh_ind (P := fun z => PW E p l e (rmv 1 0 0) s m args below meth c 3 0 0 (MQ below (QG E (fun v u => v = none ∧ u = r)) args s 0 0 (pA E)) (z.2) 9 [(0, some (.ref v0)), (1, some (.int v1)), (2, some (.int (z.1)))] []) (fun z x0 hs i1 i2 => ?_) _ hf
  exact wX0_fillTrial_c9 (r := r) (v0 := v0) (v1 := v1) (v2 := z.1) (h := z.2) X hG hnm hs i1  i2
noncomputable def fX0_fillTrial (v0 : Nat) (v1 : Int32) (h : PH) : Option PH :=
  gd (hK h v0 = 0) (gs (hR h 0 v0 2) (fun a2 =>
  gd (hK h a2 = 8) (bd (fX8_clear a2 h) (fun z5 =>
  fX0_fillTrial_l9 v0 v1 (0 : Int32) z5))))
set_option maxRecDepth 100000 in
theorem mX0_fillTrial {v0 : Nat} {v1 : Int32} {h : PH} {r : PH} (hf : fX0_fillTrial v0 v1 h = some r) : eqz h (hX r) (hV r) := by
  unfold fX0_fillTrial at hf
  have hle := eqz_rf h
  obtain ⟨hk1, hf⟩ := gd_some hf
  obtain ⟨a2, e3, hf⟩ := gs_some hf
  obtain ⟨hk4, hf⟩ := gd_some hf
  obtain ⟨z5, hz5, hf⟩ := bd_some hf
  have hle := eqz_rt (mX8_clear hz5) hle
  exact eqz_rt (mX0_fillTrial_l9 hf) hle
set_option maxRecDepth 100000 in
theorem wX0_fillTrial {E : PE} {l : Launch} (hG : Gs E l) {v0 : Nat} {v1 : Int32} {h : PH} {r : PH} (hf : fX0_fillTrial v0 v1 h = some r) : Ct E l 1 0 0 yX0_fillTrial cX0_fillTrial 3 (none) [.ref v0, .int v1] h (fun v u => v = none ∧ u = r) := by
  refine ct_of hG (by decide) (Nat.le_of_ble_eq_true rfl) ?_
  intro p e s m args below meth c X hnm
  show PW E p l e _ s m args below meth c _ 0 0 _ h 0 [(0, some (.ref v0)), (1, some (.int v1))] []
  unfold fX0_fillTrial at hf
  refine p_aload_n X (dcg dc_X0_fillTrial 0 rfl) rfl rfl ?_
  obtain ⟨hk1, hf⟩ := gd_some hf
  refine p_getR X fl_X0_18 rfl (by decide) (dcg dc_X0_fillTrial 1 rfl) hk1 ?_
  obtain ⟨a2, e3, hf⟩ := gs_some hf
  first | subst e3 | (try rw [e3])
  obtain ⟨hk4, hf⟩ := gd_some hf
  obtain ⟨z5, hz5, hf⟩ := bd_some hf
  refine p_callV (As := []) X ml_X0_76 (dcg dc_X0_fillTrial 2 rfl) rfl rfl hk4 (wX8_clear hG hz5) (by decide) (room4 (Nat.le_of_ble_eq_true rfl)) (Nat.le_refl _) (Nat.le_refl _) ?_
  rintro _ u9 ⟨rfl, e9⟩; have e9 := e9.symm; subst e9
  refine p_iconst (v := 0) X (dcg dc_X0_fillTrial 3 rfl) (by decide) ?_
  refine p_istore_n X (dcg dc_X0_fillTrial 4 rfl) rfl (by decide) rfl ?_
  refine p_pick [0, 1, 2] ?_
  exact wX0_fillTrial_l9 X hG hnm hf 
theorem dc_X4_isSimple : decs cX4_isSimple [(0, .aload_n 0, 1), (1, .getfield 9, 3), (4, .iconst 3, 1), (5, .if_icmp .gt 7, 3), (8, .iconst 1, 1), (9, .goto 4, 3), (12, .iconst 0, 1), (13, .ireturn, 1)] = true := by decide +kernel
noncomputable def fX4_isSimple_b13 (t0 : Int32) (h : PH) : Option Int32 :=
  gd (t0 &&& 1 = t0) (some (t0))
set_option maxRecDepth 100000 in
theorem wX4_isSimple_b13 {E : PE} {p : Program} {l : Launch} {e : Env} {s : State} {m : MethodId} {args : Array Value} {below : List Frame} {meth : Method} {c : Code} (X : Cx E p l e (rmv 0 0 0) s m args below meth c RX4 cX4_isSimple 1 (some .boolean)) (hG : Gs E l) (hnm : meth.name = yX4_isSimple.name) {t0 : Int32} {h : PH} {r : Int32} (hf : fX4_isSimple_b13 t0 h = some r)  : PW E p l e (rmv 0 0 0) s m args below meth c 1 0 0 (MQ below (QG E (fun v u => v = some (.int r) ∧ u = h)) args s 0 0 (pA E)) h 13 [] [.int t0] := by
  unfold fX4_isSimple_b13 at hf
  obtain ⟨hg2, hf⟩ := gd_some hf
  have er := Option.some.inj hf
  subst er
  exact p_zret X rfl (congrArg Value.int hg2) (dcg dc_X4_isSimple 7 rfl) ⟨rfl, rfl⟩ (Nat.le_refl _) (Nat.le_refl _)
noncomputable def fX4_isSimple (v0 : Nat) (h : PH) : Option Int32 :=
  gd (hK h v0 = 4) (if ((3 : Int32) < (hI h 4 v0 0)) then (fX4_isSimple_b13 (0 : Int32) h) else
  fX4_isSimple_b13 (1 : Int32) h)
set_option maxRecDepth 100000 in
theorem wX4_isSimple {E : PE} {l : Launch} (hG : Gs E l) {v0 : Nat} {h : PH} {r : Int32} (hf : fX4_isSimple v0 h = some r) : Ct E l 0 0 0 yX4_isSimple cX4_isSimple 1 (some .boolean) [.ref v0] h (fun v u => v = some (.int r) ∧ u = h) := by
  refine ct_of hG (by decide) (Nat.le_of_ble_eq_true rfl) ?_
  intro p e s m args below meth c X hnm
  show PW E p l e _ s m args below meth c _ 0 0 _ h 0 [(0, some (.ref v0))] []
  unfold fX4_isSimple at hf
  refine p_aload_n X (dcg dc_X4_isSimple 0 rfl) rfl rfl ?_
  obtain ⟨hk1, hf⟩ := gd_some hf
  refine p_getI X fl_X4_9 rfl (by decide) (dcg dc_X4_isSimple 1 rfl) hk1 ?_
  refine p_iconst (v := 3) X (dcg dc_X4_isSimple 2 rfl) (by decide) ?_
  refine p_icmp_gt (tgt := 12) X (dcg dc_X4_isSimple 3 rfl) (by decide) (fun q => ?_) (fun q => ?_)
  · have hf := if_t q hf
    refine p_iconst (v := 0) X (dcg dc_X4_isSimple 6 rfl) (by decide) ?_
    refine p_pick [] ?_
    exact wX4_isSimple_b13 X hG hnm hf 
  · have hf := if_f q hf
    refine p_iconst (v := 1) X (dcg dc_X4_isSimple 4 rfl) (by decide) ?_
    refine p_goto (tgt := 13) X (dcg dc_X4_isSimple 5 rfl) (by decide) ?_
    refine p_pick [] ?_
    exact wX4_isSimple_b13 X hG hnm hf 
theorem dc_X8_countWord : decs cX8_countWord [(0, .iconst 0, 1), (1, .istore_n 2, 1), (2, .iconst 0, 1), (3, .istore_n 3, 1), (4, .iload_n 3, 1), (5, .aload_n 0, 1), (6, .getfield 15, 3), (9, .if_icmp .ge 22, 3), (12, .aload_n 0, 1), (13, .getfield 11, 3), (16, .iload_n 3, 1), (17, .iaload, 1), (18, .iload_n 1, 1), (19, .if_icmp .ne 6, 3), (22, .iinc 2 1, 3), (25, .iinc 3 1, 3), (28, .goto (-24), 3), (31, .iload_n 2, 1), (32, .ireturn, 1)] = true := by decide +kernel
noncomputable def fX8_countWord_b25 (v0 : Nat) (v1 : Int32) (v2 : Int32) (v3 : Int32) (h : PH) : Option ((Int32 × Int32) ⊕ Int32) :=
  some (.inl (v2, (v3 + 1)))
set_option maxRecDepth 100000 in
theorem wX8_countWord_b25 {E : PE} {p : Program} {l : Launch} {e : Env} {s : State} {m : MethodId} {args : Array Value} {below : List Frame} {meth : Method} {c : Code} (X : Cx E p l e (rmv 0 0 0) s m args below meth c RX8 cX8_countWord 4 (some .int)) (hG : Gs E l) (hnm : meth.name = yX8_countWord.name) {v0 : Nat} {v1 : Int32} {v2 : Int32} {v3 : Int32} {h : PH} {r : Int32} {x : ((Int32 × Int32) ⊕ Int32)} (hf : fX8_countWord_b25 v0 v1 v2 v3 h = some x) (k0 : ∀ z : (Int32 × Int32), x = .inl z → PW E p l e (rmv 0 0 0) s m args below meth c 4 0 0 (MQ below (QG E (fun v u => v = some (.int r) ∧ u = h)) args s 0 0 (pA E)) h 4 [(0, some (.ref v0)), (1, some (.int v1)), (2, some (.int (z.1))), (3, some (.int (z.2)))] []) (kf : ∀ z : Int32, x = .inr z → z = r) : PW E p l e (rmv 0 0 0) s m args below meth c 4 0 0 (MQ below (QG E (fun v u => v = some (.int r) ∧ u = h)) args s 0 0 (pA E)) h 25 [(0, some (.ref v0)), (1, some (.int v1)), (2, some (.int v2)), (3, some (.int v3))] [] := by
  unfold fX8_countWord_b25 at hf
  refine p_iinc (v := 1) X (dcg dc_X8_countWord 15 rfl) rfl (by decide) (by decide) rfl ?_
  refine p_goto (tgt := 4) X (dcg dc_X8_countWord 16 rfl) (by decide) ?_
  refine p_pick [0, 1, 2, 3] ?_
  exact k0 _ (Option.some.inj hf).symm
noncomputable def fX8_countWord_c4 (v0 : Nat) (v1 : Int32) (v2 : Int32) (v3 : Int32) (h : PH) : Option ((Int32 × Int32) ⊕ Int32) :=
  gd (hK h v0 = 8) (if ((hI h 8 v0 1) ≤ v3) then (mr (some (v2))) else
  gs (hR h 8 v0 0) (fun a4 =>
  gd (hK h a4 = 20 ∧ inb v3 (hN h a4)) (if (¬ (hI h 20 a4 (Int32.toNatClampNeg v3)) = v1) then (fX8_countWord_b25 v0 v1 v2 v3 h) else
  fX8_countWord_b25 v0 v1 (v2 + 1) v3 h)))
set_option maxRecDepth 100000 in
theorem wX8_countWord_c4 {E : PE} {p : Program} {l : Launch} {e : Env} {s : State} {m : MethodId} {args : Array Value} {below : List Frame} {meth : Method} {c : Code} (X : Cx E p l e (rmv 0 0 0) s m args below meth c RX8 cX8_countWord 4 (some .int)) (hG : Gs E l) (hnm : meth.name = yX8_countWord.name) {v0 : Nat} {v1 : Int32} {v2 : Int32} {v3 : Int32} {h : PH} {r : Int32} {x : ((Int32 × Int32) ⊕ Int32)} (hf : fX8_countWord_c4 v0 v1 v2 v3 h = some x) (k0 : ∀ z : (Int32 × Int32), x = .inl z → PW E p l e (rmv 0 0 0) s m args below meth c 4 0 0 (MQ below (QG E (fun v u => v = some (.int r) ∧ u = h)) args s 0 0 (pA E)) h 4 [(0, some (.ref v0)), (1, some (.int v1)), (2, some (.int (z.1))), (3, some (.int (z.2)))] []) (kf : ∀ z : Int32, x = .inr z → z = r) : PW E p l e (rmv 0 0 0) s m args below meth c 4 0 0 (MQ below (QG E (fun v u => v = some (.int r) ∧ u = h)) args s 0 0 (pA E)) h 4 [(0, some (.ref v0)), (1, some (.int v1)), (2, some (.int v2)), (3, some (.int v3))] [] := by
  unfold fX8_countWord_c4 at hf
  refine p_iload_n X (dcg dc_X8_countWord 4 rfl) rfl rfl ?_
  refine p_aload_n X (dcg dc_X8_countWord 5 rfl) rfl rfl ?_
  obtain ⟨hk1, hf⟩ := gd_some hf
  refine p_getI X fl_X8_15 rfl (by decide) (dcg dc_X8_countWord 6 rfl) hk1 ?_
  refine p_icmp_ge (tgt := 31) X (dcg dc_X8_countWord 7 rfl) (by decide) (fun q => ?_) (fun q => ?_)
  · have hf := if_t q hf
    obtain ⟨y2, hf, hy3⟩ := mr_some hf
    have hy3f := kf y2 hy3
    subst hy3f
    refine p_iload_n X (dcg dc_X8_countWord 17 rfl) rfl rfl ?_
    have er := Option.some.inj hf
    subst er
    exact p_iret X rfl (dcg dc_X8_countWord 18 rfl) ⟨rfl, rfl⟩ (Nat.le_refl _) (Nat.le_refl _)
  · have hf := if_f q hf
    refine p_aload_n X (dcg dc_X8_countWord 8 rfl) rfl rfl ?_
    refine p_getR X fl_X8_11 rfl (by decide) (dcg dc_X8_countWord 9 rfl) hk1 ?_
    refine p_iload_n X (dcg dc_X8_countWord 10 rfl) rfl rfl ?_
    obtain ⟨a4, e5, hf⟩ := gs_some hf
    first | subst e5 | (try rw [e5])
    obtain ⟨⟨hk7, hb6⟩, hf⟩ := gd_some hf
    refine p_iald X (dcg dc_X8_countWord 11 rfl) hk7 (vp_of_inb hb6) ?_
    refine p_iload_n X (dcg dc_X8_countWord 12 rfl) rfl rfl ?_
    refine p_icmp_ne (tgt := 25) X (dcg dc_X8_countWord 13 rfl) (by decide) (fun q => ?_) (fun q => ?_)
    · have hf := if_t q hf
      refine p_pick [0, 1, 2, 3] ?_
      exact wX8_countWord_b25 X hG hnm hf k0 kf
    · have hf := if_f q hf
      refine p_iinc (v := 1) X (dcg dc_X8_countWord 14 rfl) rfl (by decide) (by decide) rfl ?_
      refine p_pick [0, 1, 2, 3] ?_
      exact wX8_countWord_b25 X hG hnm hf k0 kf
noncomputable def fX8_countWord_l4 (v0 : Nat) (v1 : Int32) (v2 : Int32) (v3 : Int32) (h : PH) : Option Int32 := wh (fun z : (Int32 × Int32) => fX8_countWord_c4 v0 v1 (z.1) (z.2) h) (v2, v3)
set_option maxRecDepth 100000 in
theorem wX8_countWord_l4 {E : PE} {p : Program} {l : Launch} {e : Env} {s : State} {m : MethodId} {args : Array Value} {below : List Frame} {meth : Method} {c : Code} (X : Cx E p l e (rmv 0 0 0) s m args below meth c RX8 cX8_countWord 4 (some .int)) (hG : Gs E l) (hnm : meth.name = yX8_countWord.name) {v0 : Nat} {v1 : Int32} {v2 : Int32} {v3 : Int32} {h : PH} {r : Int32} (hf : fX8_countWord_l4 v0 v1 v2 v3 h = some r)  : PW E p l e (rmv 0 0 0) s m args below meth c 4 0 0 (MQ below (QG E (fun v u => v = some (.int r) ∧ u = h)) args s 0 0 (pA E)) h 4 [(0, some (.ref v0)), (1, some (.int v1)), (2, some (.int v2)), (3, some (.int v3))] [] := by
  unfold fX8_countWord_l4 at hf
  refine wh_ind (P := fun z => PW E p l e (rmv 0 0 0) s m args below meth c 4 0 0 (MQ below (QG E (fun v u => v = some (.int r) ∧ u = h)) args s 0 0 (pA E)) h 4 [(0, some (.ref v0)), (1, some (.int v1)), (2, some (.int (z.1))), (3, some (.int (z.2)))] []) (fun z x0 hs i1 i2 => ?_) _ hf
  exact wX8_countWord_c4 (r := r) (v0 := v0) (v1 := v1) (v2 := z.1) (v3 := z.2) (h := h) X hG hnm hs i1  i2
noncomputable def fX8_countWord (v0 : Nat) (v1 : Int32) (h : PH) : Option Int32 :=
  fX8_countWord_l4 v0 v1 (0 : Int32) (0 : Int32) h
set_option maxRecDepth 100000 in
theorem wX8_countWord {E : PE} {l : Launch} (hG : Gs E l) {v0 : Nat} {v1 : Int32} {h : PH} {r : Int32} (hf : fX8_countWord v0 v1 h = some r) : Ct E l 0 0 0 yX8_countWord cX8_countWord 4 (some .int) [.ref v0, .int v1] h (fun v u => v = some (.int r) ∧ u = h) := by
  refine ct_of hG (by decide) (Nat.le_of_ble_eq_true rfl) ?_
  intro p e s m args below meth c X hnm
  show PW E p l e _ s m args below meth c _ 0 0 _ h 0 [(0, some (.ref v0)), (1, some (.int v1))] []
  unfold fX8_countWord at hf
  refine p_iconst (v := 0) X (dcg dc_X8_countWord 0 rfl) (by decide) ?_
  refine p_istore_n X (dcg dc_X8_countWord 1 rfl) rfl (by decide) rfl ?_
  refine p_iconst (v := 0) X (dcg dc_X8_countWord 2 rfl) (by decide) ?_
  refine p_istore_n X (dcg dc_X8_countWord 3 rfl) rfl (by decide) rfl ?_
  refine p_pick [0, 1, 2, 3] ?_
  exact wX8_countWord_l4 X hG hnm hf 
theorem dc_X10_isBeginning : decs cX10_isBeginning [(0, .iload_n 1, 1), (1, .istore_n 2, 1), (2, .iload_n 2, 1), (3, .ifCond .le 18, 3), (6, .iload_n 2, 1), (7, .iload_n 0, 1), (8, .if_icmp .ne 5, 3), (11, .iconst 1, 1), (12, .ireturn, 1), (13, .iload_n 2, 1), (14, .bipush 27, 2), (16, .idiv, 1), (17, .istore_n 2, 1), (18, .goto (-16), 3), (21, .iconst 0, 1), (22, .ireturn, 1)] = true := by decide +kernel
noncomputable def fX10_isBeginning_c2 (v0 : Int32) (v2 : Int32) : Option ((Int32) ⊕ Int32) :=
  if (v2 ≤ 0) then (mr (some ((0 : Int32)))) else
  if (¬ v2 = v0) then (some (.inl ((v2 / (27 : Int32))))) else
  mr (some ((1 : Int32)))
set_option maxRecDepth 100000 in
theorem wX10_isBeginning_c2 {E : PE} {p : Program} {l : Launch} {e : Env} {s : State} {m : MethodId} {args : Array Value} {below : List Frame} {meth : Method} {c : Code} (X : Cx E p l e (rmv 0 0 0) s m args below meth c RX10 cX10_isBeginning 3 (some .boolean)) (hG : Gs E l) (hnm : meth.name = yX10_isBeginning.name) {v0 : Int32} {v2 : Int32} {h : PH} {r : Int32} {x : ((Int32) ⊕ Int32)} (hf : fX10_isBeginning_c2 v0 v2 = some x) (k0 : ∀ z : (Int32), x = .inl z → PW E p l e (rmv 0 0 0) s m args below meth c 3 0 0 (MQ below (QG E (fun v u => v = some (.int r) ∧ u = h)) args s 0 0 (pA E)) h 2 [(0, some (.int v0)), (2, some (.int (z)))] []) (kf : ∀ z : Int32, x = .inr z → z = r) : PW E p l e (rmv 0 0 0) s m args below meth c 3 0 0 (MQ below (QG E (fun v u => v = some (.int r) ∧ u = h)) args s 0 0 (pA E)) h 2 [(0, some (.int v0)), (2, some (.int v2))] [] := by
  unfold fX10_isBeginning_c2 at hf
  refine p_iload_n X (dcg dc_X10_isBeginning 2 rfl) rfl rfl ?_
  refine p_if_le (tgt := 21) X (dcg dc_X10_isBeginning 3 rfl) (by decide) (fun q => ?_) (fun q => ?_)
  · have hf := if_t q hf
    obtain ⟨y1, hf, hy2⟩ := mr_some hf
    have hy2f := kf y1 hy2
    subst hy2f
    refine p_iconst (v := 0) X (dcg dc_X10_isBeginning 14 rfl) (by decide) ?_
    have er := Option.some.inj hf
    subst er
    exact p_zret X rfl rfl (dcg dc_X10_isBeginning 15 rfl) ⟨rfl, rfl⟩ (Nat.le_refl _) (Nat.le_refl _)
  · have hf := if_f q hf
    refine p_iload_n X (dcg dc_X10_isBeginning 4 rfl) rfl rfl ?_
    refine p_iload_n X (dcg dc_X10_isBeginning 5 rfl) rfl rfl ?_
    refine p_icmp_ne (tgt := 13) X (dcg dc_X10_isBeginning 6 rfl) (by decide) (fun q => ?_) (fun q => ?_)
    · have hf := if_t q hf
      refine p_iload_n X (dcg dc_X10_isBeginning 9 rfl) rfl rfl ?_
      refine p_bipush (v := 27) X (dcg dc_X10_isBeginning 10 rfl) (by decide) ?_
      refine p_idiv X (dcg dc_X10_isBeginning 11 rfl) (by decide) ?_
      refine p_istore_n X (dcg dc_X10_isBeginning 12 rfl) rfl (by decide) rfl ?_
      refine p_goto (tgt := 2) X (dcg dc_X10_isBeginning 13 rfl) (by decide) ?_
      refine p_pick [0, 2] ?_
      exact k0 _ (Option.some.inj hf).symm
    · have hf := if_f q hf
      obtain ⟨y3, hf, hy4⟩ := mr_some hf
      have hy4f := kf y3 hy4
      subst hy4f
      refine p_iconst (v := 1) X (dcg dc_X10_isBeginning 7 rfl) (by decide) ?_
      have er := Option.some.inj hf
      subst er
      exact p_zret X rfl rfl (dcg dc_X10_isBeginning 8 rfl) ⟨rfl, rfl⟩ (Nat.le_refl _) (Nat.le_refl _)
noncomputable def fX10_isBeginning_l2 (v0 : Int32) (v2 : Int32) : Option Int32 := wh (fun z : (Int32) => fX10_isBeginning_c2 v0 (z)) (v2)
set_option maxRecDepth 100000 in
theorem wX10_isBeginning_l2 {E : PE} {p : Program} {l : Launch} {e : Env} {s : State} {m : MethodId} {args : Array Value} {below : List Frame} {meth : Method} {c : Code} (X : Cx E p l e (rmv 0 0 0) s m args below meth c RX10 cX10_isBeginning 3 (some .boolean)) (hG : Gs E l) (hnm : meth.name = yX10_isBeginning.name) {v0 : Int32} {v2 : Int32} {h : PH} {r : Int32} (hf : fX10_isBeginning_l2 v0 v2 = some r)  : PW E p l e (rmv 0 0 0) s m args below meth c 3 0 0 (MQ below (QG E (fun v u => v = some (.int r) ∧ u = h)) args s 0 0 (pA E)) h 2 [(0, some (.int v0)), (2, some (.int v2))] [] := by
  unfold fX10_isBeginning_l2 at hf
  refine wh_ind (P := fun z => PW E p l e (rmv 0 0 0) s m args below meth c 3 0 0 (MQ below (QG E (fun v u => v = some (.int r) ∧ u = h)) args s 0 0 (pA E)) h 2 [(0, some (.int v0)), (2, some (.int (z)))] []) (fun z x0 hs i1 i2 => ?_) _ hf
  exact wX10_isBeginning_c2 (r := r) (v0 := v0) (v2 := z) (h := h) X hG hnm hs i1  i2
noncomputable def fX10_isBeginning (v0 : Int32) (v1 : Int32) : Option Int32 :=
  fX10_isBeginning_l2 v0 v1
set_option maxRecDepth 100000 in
theorem wX10_isBeginning {E : PE} {l : Launch} (hG : Gs E l) {v0 : Int32} {v1 : Int32} {h : PH} {r : Int32} (hf : fX10_isBeginning v0 v1 = some r) : Ct E l 0 0 0 yX10_isBeginning cX10_isBeginning 3 (some .boolean) [.int v0, .int v1] h (fun v u => v = some (.int r) ∧ u = h) := by
  refine ct_of hG (by decide) (Nat.le_of_ble_eq_true rfl) ?_
  intro p e s m args below meth c X hnm
  show PW E p l e _ s m args below meth c _ 0 0 _ h 0 [(0, some (.int v0)), (1, some (.int v1))] []
  unfold fX10_isBeginning at hf
  refine p_iload_n X (dcg dc_X10_isBeginning 0 rfl) rfl rfl ?_
  refine p_istore_n X (dcg dc_X10_isBeginning 1 rfl) rfl (by decide) rfl ?_
  refine p_pick [0, 2] ?_
  exact wX10_isBeginning_l2 X hG hnm hf 
theorem dc_X8_countBeginning : decs cX8_countBeginning [(0, .iconst 0, 1), (1, .istore_n 2, 1), (2, .iconst 0, 1), (3, .istore_n 3, 1), (4, .iload_n 3, 1), (5, .aload_n 0, 1), (6, .getfield 15, 3), (9, .if_icmp .ge 25, 3), (12, .iload_n 1, 1), (13, .aload_n 0, 1), (14, .getfield 11, 3), (17, .iload_n 3, 1), (18, .iaload, 1), (19, .invokestatic 28, 3), (22, .ifCond .eq 6, 3), (25, .iinc 2 1, 3), (28, .iinc 3 1, 3), (31, .goto (-27), 3), (34, .iload_n 2, 1), (35, .ireturn, 1)] = true := by decide +kernel
noncomputable def fX8_countBeginning_b28 (v0 : Nat) (v1 : Int32) (v2 : Int32) (v3 : Int32) (h : PH) : Option ((Int32 × Int32) ⊕ Int32) :=
  some (.inl (v2, (v3 + 1)))
set_option maxRecDepth 100000 in
theorem wX8_countBeginning_b28 {E : PE} {p : Program} {l : Launch} {e : Env} {s : State} {m : MethodId} {args : Array Value} {below : List Frame} {meth : Method} {c : Code} (X : Cx E p l e (rmv 1 0 0) s m args below meth c RX8 cX8_countBeginning 4 (some .int)) (hG : Gs E l) (hnm : meth.name = yX8_countBeginning.name) {v0 : Nat} {v1 : Int32} {v2 : Int32} {v3 : Int32} {h : PH} {r : Int32} {x : ((Int32 × Int32) ⊕ Int32)} (hf : fX8_countBeginning_b28 v0 v1 v2 v3 h = some x) (k0 : ∀ z : (Int32 × Int32), x = .inl z → PW E p l e (rmv 1 0 0) s m args below meth c 4 0 0 (MQ below (QG E (fun v u => v = some (.int r) ∧ u = h)) args s 0 0 (pA E)) h 4 [(0, some (.ref v0)), (1, some (.int v1)), (2, some (.int (z.1))), (3, some (.int (z.2)))] []) (kf : ∀ z : Int32, x = .inr z → z = r) : PW E p l e (rmv 1 0 0) s m args below meth c 4 0 0 (MQ below (QG E (fun v u => v = some (.int r) ∧ u = h)) args s 0 0 (pA E)) h 28 [(0, some (.ref v0)), (1, some (.int v1)), (2, some (.int v2)), (3, some (.int v3))] [] := by
  unfold fX8_countBeginning_b28 at hf
  refine p_iinc (v := 1) X (dcg dc_X8_countBeginning 16 rfl) rfl (by decide) (by decide) rfl ?_
  refine p_goto (tgt := 4) X (dcg dc_X8_countBeginning 17 rfl) (by decide) ?_
  refine p_pick [0, 1, 2, 3] ?_
  exact k0 _ (Option.some.inj hf).symm
noncomputable def fX8_countBeginning_c4 (v0 : Nat) (v1 : Int32) (v2 : Int32) (v3 : Int32) (h : PH) : Option ((Int32 × Int32) ⊕ Int32) :=
  gd (hK h v0 = 8) (if ((hI h 8 v0 1) ≤ v3) then (mr (some (v2))) else
  gs (hR h 8 v0 0) (fun a4 =>
  gd (hK h a4 = 20 ∧ inb v3 (hN h a4)) (bd (fX10_isBeginning v1 (hI h 20 a4 (Int32.toNatClampNeg v3))) (fun z8 =>
  if (z8 = 0) then (fX8_countBeginning_b28 v0 v1 v2 v3 h) else
  fX8_countBeginning_b28 v0 v1 (v2 + 1) v3 h))))
set_option maxRecDepth 100000 in
theorem wX8_countBeginning_c4 {E : PE} {p : Program} {l : Launch} {e : Env} {s : State} {m : MethodId} {args : Array Value} {below : List Frame} {meth : Method} {c : Code} (X : Cx E p l e (rmv 1 0 0) s m args below meth c RX8 cX8_countBeginning 4 (some .int)) (hG : Gs E l) (hnm : meth.name = yX8_countBeginning.name) {v0 : Nat} {v1 : Int32} {v2 : Int32} {v3 : Int32} {h : PH} {r : Int32} {x : ((Int32 × Int32) ⊕ Int32)} (hf : fX8_countBeginning_c4 v0 v1 v2 v3 h = some x) (k0 : ∀ z : (Int32 × Int32), x = .inl z → PW E p l e (rmv 1 0 0) s m args below meth c 4 0 0 (MQ below (QG E (fun v u => v = some (.int r) ∧ u = h)) args s 0 0 (pA E)) h 4 [(0, some (.ref v0)), (1, some (.int v1)), (2, some (.int (z.1))), (3, some (.int (z.2)))] []) (kf : ∀ z : Int32, x = .inr z → z = r) : PW E p l e (rmv 1 0 0) s m args below meth c 4 0 0 (MQ below (QG E (fun v u => v = some (.int r) ∧ u = h)) args s 0 0 (pA E)) h 4 [(0, some (.ref v0)), (1, some (.int v1)), (2, some (.int v2)), (3, some (.int v3))] [] := by
  unfold fX8_countBeginning_c4 at hf
  refine p_iload_n X (dcg dc_X8_countBeginning 4 rfl) rfl rfl ?_
  refine p_aload_n X (dcg dc_X8_countBeginning 5 rfl) rfl rfl ?_
  obtain ⟨hk1, hf⟩ := gd_some hf
  refine p_getI X fl_X8_15 rfl (by decide) (dcg dc_X8_countBeginning 6 rfl) hk1 ?_
  refine p_icmp_ge (tgt := 34) X (dcg dc_X8_countBeginning 7 rfl) (by decide) (fun q => ?_) (fun q => ?_)
  · have hf := if_t q hf
    obtain ⟨y2, hf, hy3⟩ := mr_some hf
    have hy3f := kf y2 hy3
    subst hy3f
    refine p_iload_n X (dcg dc_X8_countBeginning 18 rfl) rfl rfl ?_
    have er := Option.some.inj hf
    subst er
    exact p_iret X rfl (dcg dc_X8_countBeginning 19 rfl) ⟨rfl, rfl⟩ (Nat.le_refl _) (Nat.le_refl _)
  · have hf := if_f q hf
    refine p_iload_n X (dcg dc_X8_countBeginning 8 rfl) rfl rfl ?_
    refine p_aload_n X (dcg dc_X8_countBeginning 9 rfl) rfl rfl ?_
    refine p_getR X fl_X8_11 rfl (by decide) (dcg dc_X8_countBeginning 10 rfl) hk1 ?_
    refine p_iload_n X (dcg dc_X8_countBeginning 11 rfl) rfl rfl ?_
    obtain ⟨a4, e5, hf⟩ := gs_some hf
    first | subst e5 | (try rw [e5])
    obtain ⟨⟨hk7, hb6⟩, hf⟩ := gd_some hf
    refine p_iald X (dcg dc_X8_countBeginning 12 rfl) hk7 (vp_of_inb hb6) ?_
    obtain ⟨z8, hz8, hf⟩ := bd_some hf
    refine p_callS (As := [_, _]) X ml_X8_28 (dcg dc_X8_countBeginning 13 rfl) rfl rfl  (wX10_isBeginning hG hz8) (by decide) (room4 (Nat.le_of_ble_eq_true rfl)) (Nat.le_refl _) (Nat.le_refl _) ?_
    rintro _ u9 ⟨rfl, e9⟩; have e9 := e9.symm; subst e9
    refine p_if_eq (tgt := 28) X (dcg dc_X8_countBeginning 14 rfl) (by decide) (fun q => ?_) (fun q => ?_)
    · have hf := if_t q hf
      refine p_pick [0, 1, 2, 3] ?_
      exact wX8_countBeginning_b28 X hG hnm hf k0 kf
    · have hf := if_f q hf
      refine p_iinc (v := 1) X (dcg dc_X8_countBeginning 15 rfl) rfl (by decide) (by decide) rfl ?_
      refine p_pick [0, 1, 2, 3] ?_
      exact wX8_countBeginning_b28 X hG hnm hf k0 kf
noncomputable def fX8_countBeginning_l4 (v0 : Nat) (v1 : Int32) (v2 : Int32) (v3 : Int32) (h : PH) : Option Int32 := wh (fun z : (Int32 × Int32) => fX8_countBeginning_c4 v0 v1 (z.1) (z.2) h) (v2, v3)
set_option maxRecDepth 100000 in
theorem wX8_countBeginning_l4 {E : PE} {p : Program} {l : Launch} {e : Env} {s : State} {m : MethodId} {args : Array Value} {below : List Frame} {meth : Method} {c : Code} (X : Cx E p l e (rmv 1 0 0) s m args below meth c RX8 cX8_countBeginning 4 (some .int)) (hG : Gs E l) (hnm : meth.name = yX8_countBeginning.name) {v0 : Nat} {v1 : Int32} {v2 : Int32} {v3 : Int32} {h : PH} {r : Int32} (hf : fX8_countBeginning_l4 v0 v1 v2 v3 h = some r)  : PW E p l e (rmv 1 0 0) s m args below meth c 4 0 0 (MQ below (QG E (fun v u => v = some (.int r) ∧ u = h)) args s 0 0 (pA E)) h 4 [(0, some (.ref v0)), (1, some (.int v1)), (2, some (.int v2)), (3, some (.int v3))] [] := by
  unfold fX8_countBeginning_l4 at hf
  refine wh_ind (P := fun z => PW E p l e (rmv 1 0 0) s m args below meth c 4 0 0 (MQ below (QG E (fun v u => v = some (.int r) ∧ u = h)) args s 0 0 (pA E)) h 4 [(0, some (.ref v0)), (1, some (.int v1)), (2, some (.int (z.1))), (3, some (.int (z.2)))] []) (fun z x0 hs i1 i2 => ?_) _ hf
  exact wX8_countBeginning_c4 (r := r) (v0 := v0) (v1 := v1) (v2 := z.1) (v3 := z.2) (h := h) X hG hnm hs i1  i2
noncomputable def fX8_countBeginning (v0 : Nat) (v1 : Int32) (h : PH) : Option Int32 :=
  fX8_countBeginning_l4 v0 v1 (0 : Int32) (0 : Int32) h
set_option maxRecDepth 100000 in
theorem wX8_countBeginning {E : PE} {l : Launch} (hG : Gs E l) {v0 : Nat} {v1 : Int32} {h : PH} {r : Int32} (hf : fX8_countBeginning v0 v1 h = some r) : Ct E l 1 0 0 yX8_countBeginning cX8_countBeginning 4 (some .int) [.ref v0, .int v1] h (fun v u => v = some (.int r) ∧ u = h) := by
  refine ct_of hG (by decide) (Nat.le_of_ble_eq_true rfl) ?_
  intro p e s m args below meth c X hnm
  show PW E p l e _ s m args below meth c _ 0 0 _ h 0 [(0, some (.ref v0)), (1, some (.int v1))] []
  unfold fX8_countBeginning at hf
  refine p_iconst (v := 0) X (dcg dc_X8_countBeginning 0 rfl) (by decide) ?_
  refine p_istore_n X (dcg dc_X8_countBeginning 1 rfl) rfl (by decide) rfl ?_
  refine p_iconst (v := 0) X (dcg dc_X8_countBeginning 2 rfl) (by decide) ?_
  refine p_istore_n X (dcg dc_X8_countBeginning 3 rfl) rfl (by decide) rfl ?_
  refine p_pick [0, 1, 2, 3] ?_
  exact wX8_countBeginning_l4 X hG hnm hf 
theorem dc_X8_countNear : decs cX8_countNear [(0, .iconst 0, 1), (1, .istore 4, 2), (3, .iconst 0, 1), (4, .istore 5, 2), (6, .iload 5, 2), (8, .aload_n 0, 1), (9, .getfield 15, 3), (12, .if_icmp .ge 74, 3), (15, .aload_n 0, 1), (16, .getfield 11, 3), (19, .iload 5, 2), (21, .iaload, 1), (22, .iload_n 1, 1), (23, .if_icmp .eq 6, 3), (26, .goto 54, 3), (29, .iconst 0, 1), (30, .istore 6, 2), (32, .iload 6, 2), (34, .aload_n 0, 1), (35, .getfield 15, 3), (38, .if_icmp .ge 42, 3), (41, .iload 6, 2), (43, .iload 5, 2), (45, .if_icmp .eq 29, 3), (48, .aload_n 0, 1), (49, .getfield 11, 3), (52, .iload 6, 2), (54, .iaload, 1), (55, .iload_n 2, 1), (56, .if_icmp .ne 18, 3), (59, .iload 5, 2), (61, .iload 6, 2), (63, .isub, 1), (64, .invokestatic 34, 3), (67, .iload_n 3, 1), (68, .if_icmp .gt 6, 3), (71, .iinc 4 1, 3), (74, .iinc 6 1, 3), (77, .goto (-45), 3), (80, .iinc 5 1, 3), (83, .goto (-77), 3), (86, .iload 4, 2), (88, .ireturn, 1)] = true := by decide +kernel
noncomputable def fX8_countNear_b80 (v0 : Nat) (v1 : Int32) (v2 : Int32) (v3 : Int32) (v4 : Int32) (v5 : Int32) (h : PH) : Option ((Int32 × Int32) ⊕ Int32) :=
  some (.inl (v4, (v5 + 1)))
set_option maxRecDepth 100000 in
theorem wX8_countNear_b80 {E : PE} {p : Program} {l : Launch} {e : Env} {s : State} {m : MethodId} {args : Array Value} {below : List Frame} {meth : Method} {c : Code} (X : Cx E p l e (rmv 1 0 0) s m args below meth c RX8 cX8_countNear 7 (some .int)) (hG : Gs E l) (hnm : meth.name = yX8_countNear.name) {v0 : Nat} {v1 : Int32} {v2 : Int32} {v3 : Int32} {v4 : Int32} {v5 : Int32} {h : PH} {r : Int32} {x : ((Int32 × Int32) ⊕ Int32)} (hf : fX8_countNear_b80 v0 v1 v2 v3 v4 v5 h = some x) (k0 : ∀ z : (Int32 × Int32), x = .inl z → PW E p l e (rmv 1 0 0) s m args below meth c 7 0 0 (MQ below (QG E (fun v u => v = some (.int r) ∧ u = h)) args s 0 0 (pA E)) h 6 [(0, some (.ref v0)), (1, some (.int v1)), (2, some (.int v2)), (3, some (.int v3)), (4, some (.int (z.1))), (5, some (.int (z.2)))] []) (kf : ∀ z : Int32, x = .inr z → z = r) : PW E p l e (rmv 1 0 0) s m args below meth c 7 0 0 (MQ below (QG E (fun v u => v = some (.int r) ∧ u = h)) args s 0 0 (pA E)) h 80 [(0, some (.ref v0)), (1, some (.int v1)), (2, some (.int v2)), (3, some (.int v3)), (4, some (.int v4)), (5, some (.int v5))] [] := by
  unfold fX8_countNear_b80 at hf
  refine p_iinc (v := 1) X (dcg dc_X8_countNear 39 rfl) rfl (by decide) (by decide) rfl ?_
  refine p_goto (tgt := 6) X (dcg dc_X8_countNear 40 rfl) (by decide) ?_
  refine p_pick [0, 1, 2, 3, 4, 5] ?_
  exact k0 _ (Option.some.inj hf).symm
noncomputable def fX8_countNear_b74 (v0 : Nat) (v1 : Int32) (v2 : Int32) (v3 : Int32) (v4 : Int32) (v5 : Int32) (v6 : Int32) (h : PH) : Option ((Int32 × Int32) ⊕ ((Int32 × Int32) ⊕ Int32)) :=
  some (.inl (v4, (v6 + 1)))
set_option maxRecDepth 100000 in
theorem wX8_countNear_b74 {E : PE} {p : Program} {l : Launch} {e : Env} {s : State} {m : MethodId} {args : Array Value} {below : List Frame} {meth : Method} {c : Code} (X : Cx E p l e (rmv 1 0 0) s m args below meth c RX8 cX8_countNear 7 (some .int)) (hG : Gs E l) (hnm : meth.name = yX8_countNear.name) {v0 : Nat} {v1 : Int32} {v2 : Int32} {v3 : Int32} {v4 : Int32} {v5 : Int32} {v6 : Int32} {h : PH} {r : Int32} {x : ((Int32 × Int32) ⊕ ((Int32 × Int32) ⊕ Int32))} (hf : fX8_countNear_b74 v0 v1 v2 v3 v4 v5 v6 h = some x) (k0 : ∀ z : (Int32 × Int32), x = .inl z → PW E p l e (rmv 1 0 0) s m args below meth c 7 0 0 (MQ below (QG E (fun v u => v = some (.int r) ∧ u = h)) args s 0 0 (pA E)) h 32 [(0, some (.ref v0)), (1, some (.int v1)), (2, some (.int v2)), (3, some (.int v3)), (4, some (.int (z.1))), (5, some (.int v5)), (6, some (.int (z.2)))] []) (k1 : ∀ z : (Int32 × Int32), x = .inr (.inl z) → PW E p l e (rmv 1 0 0) s m args below meth c 7 0 0 (MQ below (QG E (fun v u => v = some (.int r) ∧ u = h)) args s 0 0 (pA E)) h 6 [(0, some (.ref v0)), (1, some (.int v1)), (2, some (.int v2)), (3, some (.int v3)), (4, some (.int (z.1))), (5, some (.int (z.2)))] []) (kf : ∀ z : Int32, x = .inr (.inr z) → z = r) : PW E p l e (rmv 1 0 0) s m args below meth c 7 0 0 (MQ below (QG E (fun v u => v = some (.int r) ∧ u = h)) args s 0 0 (pA E)) h 74 [(0, some (.ref v0)), (1, some (.int v1)), (2, some (.int v2)), (3, some (.int v3)), (4, some (.int v4)), (5, some (.int v5)), (6, some (.int v6))] [] := by
  unfold fX8_countNear_b74 at hf
  refine p_iinc (v := 1) X (dcg dc_X8_countNear 37 rfl) rfl (by decide) (by decide) rfl ?_
  refine p_goto (tgt := 32) X (dcg dc_X8_countNear 38 rfl) (by decide) ?_
  refine p_pick [0, 1, 2, 3, 4, 5, 6] ?_
  exact k0 _ (Option.some.inj hf).symm
noncomputable def fX8_countNear_c32 (v0 : Nat) (v1 : Int32) (v2 : Int32) (v3 : Int32) (v4 : Int32) (v5 : Int32) (v6 : Int32) (h : PH) : Option ((Int32 × Int32) ⊕ ((Int32 × Int32) ⊕ Int32)) :=
  gd (hK h v0 = 8) (if ((hI h 8 v0 1) ≤ v6) then (mr (fX8_countNear_b80 v0 v1 v2 v3 v4 v5 h)) else
  if (v6 = v5) then (fX8_countNear_b74 v0 v1 v2 v3 v4 v5 v6 h) else
  gs (hR h 8 v0 0) (fun a11 =>
  gd (hK h a11 = 20 ∧ inb v6 (hN h a11)) (if (¬ (hI h 20 a11 (Int32.toNatClampNeg v6)) = v2) then (fX8_countNear_b74 v0 v1 v2 v3 v4 v5 v6 h) else
  if (v3 < (if 0 ≤ (v5 - v6) then (v5 - v6) else 0 - (v5 - v6))) then (fX8_countNear_b74 v0 v1 v2 v3 v4 v5 v6 h) else
  fX8_countNear_b74 v0 v1 v2 v3 (v4 + 1) v5 v6 h)))
set_option maxRecDepth 100000 in
theorem wX8_countNear_c32 {E : PE} {p : Program} {l : Launch} {e : Env} {s : State} {m : MethodId} {args : Array Value} {below : List Frame} {meth : Method} {c : Code} (X : Cx E p l e (rmv 1 0 0) s m args below meth c RX8 cX8_countNear 7 (some .int)) (hG : Gs E l) (hnm : meth.name = yX8_countNear.name) {v0 : Nat} {v1 : Int32} {v2 : Int32} {v3 : Int32} {v4 : Int32} {v5 : Int32} {v6 : Int32} {h : PH} {r : Int32} {x : ((Int32 × Int32) ⊕ ((Int32 × Int32) ⊕ Int32))} (hf : fX8_countNear_c32 v0 v1 v2 v3 v4 v5 v6 h = some x) (k0 : ∀ z : (Int32 × Int32), x = .inl z → PW E p l e (rmv 1 0 0) s m args below meth c 7 0 0 (MQ below (QG E (fun v u => v = some (.int r) ∧ u = h)) args s 0 0 (pA E)) h 32 [(0, some (.ref v0)), (1, some (.int v1)), (2, some (.int v2)), (3, some (.int v3)), (4, some (.int (z.1))), (5, some (.int v5)), (6, some (.int (z.2)))] []) (k1 : ∀ z : (Int32 × Int32), x = .inr (.inl z) → PW E p l e (rmv 1 0 0) s m args below meth c 7 0 0 (MQ below (QG E (fun v u => v = some (.int r) ∧ u = h)) args s 0 0 (pA E)) h 6 [(0, some (.ref v0)), (1, some (.int v1)), (2, some (.int v2)), (3, some (.int v3)), (4, some (.int (z.1))), (5, some (.int (z.2)))] []) (kf : ∀ z : Int32, x = .inr (.inr z) → z = r) : PW E p l e (rmv 1 0 0) s m args below meth c 7 0 0 (MQ below (QG E (fun v u => v = some (.int r) ∧ u = h)) args s 0 0 (pA E)) h 32 [(0, some (.ref v0)), (1, some (.int v1)), (2, some (.int v2)), (3, some (.int v3)), (4, some (.int v4)), (5, some (.int v5)), (6, some (.int v6))] [] := by
  unfold fX8_countNear_c32 at hf
  refine p_iload X (dcg dc_X8_countNear 17 rfl) rfl ?_
  refine p_aload_n X (dcg dc_X8_countNear 18 rfl) rfl rfl ?_
  obtain ⟨hk8, hf⟩ := gd_some hf
  refine p_getI X fl_X8_15 rfl (by decide) (dcg dc_X8_countNear 19 rfl) hk8 ?_
  refine p_icmp_ge (tgt := 80) X (dcg dc_X8_countNear 20 rfl) (by decide) (fun q => ?_) (fun q => ?_)
  · have hf := if_t q hf
    obtain ⟨y9, hf, hy10⟩ := mr_some hf
    refine p_pick [0, 1, 2, 3, 4, 5] ?_
    exact wX8_countNear_b80 X hG hnm hf (fun z0 e0 => k1 z0 (hy10.trans (congrArg Sum.inr e0))) (fun z0 e0 => kf z0 (hy10.trans (congrArg Sum.inr e0)))
  · have hf := if_f q hf
    refine p_iload X (dcg dc_X8_countNear 21 rfl) rfl ?_
    refine p_iload X (dcg dc_X8_countNear 22 rfl) rfl ?_
    refine p_icmp_eq (tgt := 74) X (dcg dc_X8_countNear 23 rfl) (by decide) (fun q => ?_) (fun q => ?_)
    · have hf := if_t q hf
      refine p_pick [0, 1, 2, 3, 4, 5, 6] ?_
      exact wX8_countNear_b74 X hG hnm hf k0 k1 kf
    · have hf := if_f q hf
      refine p_aload_n X (dcg dc_X8_countNear 24 rfl) rfl rfl ?_
      refine p_getR X fl_X8_11 rfl (by decide) (dcg dc_X8_countNear 25 rfl) hk8 ?_
      refine p_iload X (dcg dc_X8_countNear 26 rfl) rfl ?_
      obtain ⟨a11, e12, hf⟩ := gs_some hf
      first | subst e12 | (try rw [e12])
      obtain ⟨⟨hk14, hb13⟩, hf⟩ := gd_some hf
      refine p_iald X (dcg dc_X8_countNear 27 rfl) hk14 (vp_of_inb hb13) ?_
      refine p_iload_n X (dcg dc_X8_countNear 28 rfl) rfl rfl ?_
      refine p_icmp_ne (tgt := 74) X (dcg dc_X8_countNear 29 rfl) (by decide) (fun q => ?_) (fun q => ?_)
      · have hf := if_t q hf
        refine p_pick [0, 1, 2, 3, 4, 5, 6] ?_
        exact wX8_countNear_b74 X hG hnm hf k0 k1 kf
      · have hf := if_f q hf
        refine p_iload X (dcg dc_X8_countNear 30 rfl) rfl ?_
        refine p_iload X (dcg dc_X8_countNear 31 rfl) rfl ?_
        refine p_isub X (dcg dc_X8_countNear 32 rfl) ?_
        refine p_mabs X tw_958 tw_959 tw_123 tw_960 (dcg dc_X8_countNear 33 rfl) (Nat.le_of_ble_eq_true rfl) (Nat.le_trans (Nat.add_le_add_right (room4 (Nat.le_of_ble_eq_true rfl)) 13) (Nat.le_of_ble_eq_true rfl)) (Nat.le_refl _) (Nat.le_refl _) (fun ls hl => X.2.2.1.trans hl.1.symm) ?_
        refine p_iload_n X (dcg dc_X8_countNear 34 rfl) rfl rfl ?_
        refine p_icmp_gt (tgt := 74) X (dcg dc_X8_countNear 35 rfl) (by decide) (fun q => ?_) (fun q => ?_)
        · have hf := if_t q hf
          refine p_pick [0, 1, 2, 3, 4, 5, 6] ?_
          exact wX8_countNear_b74 X hG hnm hf k0 k1 kf
        · have hf := if_f q hf
          refine p_iinc (v := 1) X (dcg dc_X8_countNear 36 rfl) rfl (by decide) (by decide) rfl ?_
          refine p_pick [0, 1, 2, 3, 4, 5, 6] ?_
          exact wX8_countNear_b74 X hG hnm hf k0 k1 kf
noncomputable def fX8_countNear_l32 (v0 : Nat) (v1 : Int32) (v2 : Int32) (v3 : Int32) (v4 : Int32) (v5 : Int32) (v6 : Int32) (h : PH) : Option ((Int32 × Int32) ⊕ Int32) := wh (fun z : (Int32 × Int32) => fX8_countNear_c32 v0 v1 v2 v3 (z.1) v5 (z.2) h) (v4, v6)
set_option maxRecDepth 100000 in
theorem wX8_countNear_l32 {E : PE} {p : Program} {l : Launch} {e : Env} {s : State} {m : MethodId} {args : Array Value} {below : List Frame} {meth : Method} {c : Code} (X : Cx E p l e (rmv 1 0 0) s m args below meth c RX8 cX8_countNear 7 (some .int)) (hG : Gs E l) (hnm : meth.name = yX8_countNear.name) {v0 : Nat} {v1 : Int32} {v2 : Int32} {v3 : Int32} {v4 : Int32} {v5 : Int32} {v6 : Int32} {h : PH} {r : Int32} {x : ((Int32 × Int32) ⊕ Int32)} (hf : fX8_countNear_l32 v0 v1 v2 v3 v4 v5 v6 h = some x) (k0 : ∀ z : (Int32 × Int32), x = .inl z → PW E p l e (rmv 1 0 0) s m args below meth c 7 0 0 (MQ below (QG E (fun v u => v = some (.int r) ∧ u = h)) args s 0 0 (pA E)) h 6 [(0, some (.ref v0)), (1, some (.int v1)), (2, some (.int v2)), (3, some (.int v3)), (4, some (.int (z.1))), (5, some (.int (z.2)))] []) (kf : ∀ z : Int32, x = .inr z → z = r) : PW E p l e (rmv 1 0 0) s m args below meth c 7 0 0 (MQ below (QG E (fun v u => v = some (.int r) ∧ u = h)) args s 0 0 (pA E)) h 32 [(0, some (.ref v0)), (1, some (.int v1)), (2, some (.int v2)), (3, some (.int v3)), (4, some (.int v4)), (5, some (.int v5)), (6, some (.int v6))] [] := by
  unfold fX8_countNear_l32 at hf
  refine wh_ind (P := fun z => PW E p l e (rmv 1 0 0) s m args below meth c 7 0 0 (MQ below (QG E (fun v u => v = some (.int r) ∧ u = h)) args s 0 0 (pA E)) h 32 [(0, some (.ref v0)), (1, some (.int v1)), (2, some (.int v2)), (3, some (.int v3)), (4, some (.int (z.1))), (5, some (.int v5)), (6, some (.int (z.2)))] []) (fun z x0 hs i1 i2 => ?_) _ hf
  exact wX8_countNear_c32 (r := r) (v0 := v0) (v1 := v1) (v2 := v2) (v3 := v3) (v4 := z.1) (v5 := v5) (v6 := z.2) (h := h) X hG hnm hs i1 (fun z1 e1 => k0 z1 (i2 _ e1).symm) (fun z1 e1 => kf z1 (i2 _ e1).symm)
noncomputable def fX8_countNear_c6 (v0 : Nat) (v1 : Int32) (v2 : Int32) (v3 : Int32) (v4 : Int32) (v5 : Int32) (h : PH) : Option ((Int32 × Int32) ⊕ Int32) :=
  gd (hK h v0 = 8) (if ((hI h 8 v0 1) ≤ v5) then (mr (some (v4))) else
  gs (hR h 8 v0 0) (fun a4 =>
  gd (hK h a4 = 20 ∧ inb v5 (hN h a4)) (if ((hI h 20 a4 (Int32.toNatClampNeg v5)) = v1) then (fX8_countNear_l32 v0 v1 v2 v3 v4 v5 (0 : Int32) h) else
  fX8_countNear_b80 v0 v1 v2 v3 v4 v5 h)))
set_option maxRecDepth 100000 in
theorem wX8_countNear_c6 {E : PE} {p : Program} {l : Launch} {e : Env} {s : State} {m : MethodId} {args : Array Value} {below : List Frame} {meth : Method} {c : Code} (X : Cx E p l e (rmv 1 0 0) s m args below meth c RX8 cX8_countNear 7 (some .int)) (hG : Gs E l) (hnm : meth.name = yX8_countNear.name) {v0 : Nat} {v1 : Int32} {v2 : Int32} {v3 : Int32} {v4 : Int32} {v5 : Int32} {h : PH} {r : Int32} {x : ((Int32 × Int32) ⊕ Int32)} (hf : fX8_countNear_c6 v0 v1 v2 v3 v4 v5 h = some x) (k0 : ∀ z : (Int32 × Int32), x = .inl z → PW E p l e (rmv 1 0 0) s m args below meth c 7 0 0 (MQ below (QG E (fun v u => v = some (.int r) ∧ u = h)) args s 0 0 (pA E)) h 6 [(0, some (.ref v0)), (1, some (.int v1)), (2, some (.int v2)), (3, some (.int v3)), (4, some (.int (z.1))), (5, some (.int (z.2)))] []) (kf : ∀ z : Int32, x = .inr z → z = r) : PW E p l e (rmv 1 0 0) s m args below meth c 7 0 0 (MQ below (QG E (fun v u => v = some (.int r) ∧ u = h)) args s 0 0 (pA E)) h 6 [(0, some (.ref v0)), (1, some (.int v1)), (2, some (.int v2)), (3, some (.int v3)), (4, some (.int v4)), (5, some (.int v5))] [] := by
  unfold fX8_countNear_c6 at hf
  refine p_iload X (dcg dc_X8_countNear 4 rfl) rfl ?_
  refine p_aload_n X (dcg dc_X8_countNear 5 rfl) rfl rfl ?_
  obtain ⟨hk1, hf⟩ := gd_some hf
  refine p_getI X fl_X8_15 rfl (by decide) (dcg dc_X8_countNear 6 rfl) hk1 ?_
  refine p_icmp_ge (tgt := 86) X (dcg dc_X8_countNear 7 rfl) (by decide) (fun q => ?_) (fun q => ?_)
  · have hf := if_t q hf
    obtain ⟨y2, hf, hy3⟩ := mr_some hf
    have hy3f := kf y2 hy3
    subst hy3f
    refine p_iload X (dcg dc_X8_countNear 41 rfl) rfl ?_
    have er := Option.some.inj hf
    subst er
    exact p_iret X rfl (dcg dc_X8_countNear 42 rfl) ⟨rfl, rfl⟩ (Nat.le_refl _) (Nat.le_refl _)
  · have hf := if_f q hf
    refine p_aload_n X (dcg dc_X8_countNear 8 rfl) rfl rfl ?_
    refine p_getR X fl_X8_11 rfl (by decide) (dcg dc_X8_countNear 9 rfl) hk1 ?_
    refine p_iload X (dcg dc_X8_countNear 10 rfl) rfl ?_
    obtain ⟨a4, e5, hf⟩ := gs_some hf
    first | subst e5 | (try rw [e5])
    obtain ⟨⟨hk7, hb6⟩, hf⟩ := gd_some hf
    refine p_iald X (dcg dc_X8_countNear 11 rfl) hk7 (vp_of_inb hb6) ?_
    refine p_iload_n X (dcg dc_X8_countNear 12 rfl) rfl rfl ?_
    refine p_icmp_eq (tgt := 29) X (dcg dc_X8_countNear 13 rfl) (by decide) (fun q => ?_) (fun q => ?_)
    · have hf := if_t q hf
      refine p_iconst (v := 0) X (dcg dc_X8_countNear 15 rfl) (by decide) ?_
      refine p_istore X (dcg dc_X8_countNear 16 rfl) (by decide) rfl ?_
      refine p_pick [0, 1, 2, 3, 4, 5, 6] ?_
      exact wX8_countNear_l32 X hG hnm hf k0 kf
    · have hf := if_f q hf
      refine p_goto (tgt := 80) X (dcg dc_X8_countNear 14 rfl) (by decide) ?_
      refine p_pick [0, 1, 2, 3, 4, 5] ?_
      exact wX8_countNear_b80 X hG hnm hf k0 kf
noncomputable def fX8_countNear_l6 (v0 : Nat) (v1 : Int32) (v2 : Int32) (v3 : Int32) (v4 : Int32) (v5 : Int32) (h : PH) : Option Int32 := wh (fun z : (Int32 × Int32) => fX8_countNear_c6 v0 v1 v2 v3 (z.1) (z.2) h) (v4, v5)
set_option maxRecDepth 100000 in
theorem wX8_countNear_l6 {E : PE} {p : Program} {l : Launch} {e : Env} {s : State} {m : MethodId} {args : Array Value} {below : List Frame} {meth : Method} {c : Code} (X : Cx E p l e (rmv 1 0 0) s m args below meth c RX8 cX8_countNear 7 (some .int)) (hG : Gs E l) (hnm : meth.name = yX8_countNear.name) {v0 : Nat} {v1 : Int32} {v2 : Int32} {v3 : Int32} {v4 : Int32} {v5 : Int32} {h : PH} {r : Int32} (hf : fX8_countNear_l6 v0 v1 v2 v3 v4 v5 h = some r)  : PW E p l e (rmv 1 0 0) s m args below meth c 7 0 0 (MQ below (QG E (fun v u => v = some (.int r) ∧ u = h)) args s 0 0 (pA E)) h 6 [(0, some (.ref v0)), (1, some (.int v1)), (2, some (.int v2)), (3, some (.int v3)), (4, some (.int v4)), (5, some (.int v5))] [] := by
  unfold fX8_countNear_l6 at hf
  refine wh_ind (P := fun z => PW E p l e (rmv 1 0 0) s m args below meth c 7 0 0 (MQ below (QG E (fun v u => v = some (.int r) ∧ u = h)) args s 0 0 (pA E)) h 6 [(0, some (.ref v0)), (1, some (.int v1)), (2, some (.int v2)), (3, some (.int v3)), (4, some (.int (z.1))), (5, some (.int (z.2)))] []) (fun z x0 hs i1 i2 => ?_) _ hf
  exact wX8_countNear_c6 (r := r) (v0 := v0) (v1 := v1) (v2 := v2) (v3 := v3) (v4 := z.1) (v5 := z.2) (h := h) X hG hnm hs i1  i2
noncomputable def fX8_countNear (v0 : Nat) (v1 : Int32) (v2 : Int32) (v3 : Int32) (h : PH) : Option Int32 :=
  fX8_countNear_l6 v0 v1 v2 v3 (0 : Int32) (0 : Int32) h
set_option maxRecDepth 100000 in
theorem wX8_countNear {E : PE} {l : Launch} (hG : Gs E l) {v0 : Nat} {v1 : Int32} {v2 : Int32} {v3 : Int32} {h : PH} {r : Int32} (hf : fX8_countNear v0 v1 v2 v3 h = some r) : Ct E l 1 0 0 yX8_countNear cX8_countNear 7 (some .int) [.ref v0, .int v1, .int v2, .int v3] h (fun v u => v = some (.int r) ∧ u = h) := by
  refine ct_of hG (by decide) (Nat.le_of_ble_eq_true rfl) ?_
  intro p e s m args below meth c X hnm
  show PW E p l e _ s m args below meth c _ 0 0 _ h 0 [(0, some (.ref v0)), (1, some (.int v1)), (2, some (.int v2)), (3, some (.int v3))] []
  unfold fX8_countNear at hf
  refine p_iconst (v := 0) X (dcg dc_X8_countNear 0 rfl) (by decide) ?_
  refine p_istore X (dcg dc_X8_countNear 1 rfl) (by decide) rfl ?_
  refine p_iconst (v := 0) X (dcg dc_X8_countNear 2 rfl) (by decide) ?_
  refine p_istore X (dcg dc_X8_countNear 3 rfl) (by decide) rfl ?_
  refine p_pick [0, 1, 2, 3, 4, 5] ?_
  exact wX8_countNear_l6 X hG hnm hf 
theorem dc_X8_isRowAt : decs cX8_isRowAt [(0, .iconst 0, 1), (1, .istore_n 3, 1), (2, .iload_n 3, 1), (3, .aload_n 1, 1), (4, .arraylength, 1), (5, .if_icmp .ge 35, 3), (8, .iload_n 2, 1), (9, .iload_n 3, 1), (10, .iadd, 1), (11, .aload_n 0, 1), (12, .getfield 15, 3), (15, .if_icmp .ge 17, 3), (18, .aload_n 0, 1), (19, .getfield 11, 3), (22, .iload_n 2, 1), (23, .iload_n 3, 1), (24, .iadd, 1), (25, .iaload, 1), (26, .aload_n 1, 1), (27, .iload_n 3, 1), (28, .iaload, 1), (29, .if_icmp .eq 5, 3), (32, .iconst 0, 1), (33, .ireturn, 1), (34, .iinc 3 1, 3), (37, .goto (-35), 3), (40, .iconst 1, 1), (41, .ireturn, 1)] = true := by decide +kernel
noncomputable def fX8_isRowAt_b32  (h : PH) : Option Int32 :=
  some ((0 : Int32))
set_option maxRecDepth 100000 in
theorem wX8_isRowAt_b32 {E : PE} {p : Program} {l : Launch} {e : Env} {s : State} {m : MethodId} {args : Array Value} {below : List Frame} {meth : Method} {c : Code} (X : Cx E p l e (rmv 0 0 0) s m args below meth c RX8 cX8_isRowAt 4 (some .boolean)) (hG : Gs E l) (hnm : meth.name = yX8_isRowAt.name)  {h : PH} {r : Int32} (hf : fX8_isRowAt_b32  h = some r)  : PW E p l e (rmv 0 0 0) s m args below meth c 4 0 0 (MQ below (QG E (fun v u => v = some (.int r) ∧ u = h)) args s 0 0 (pA E)) h 32 [] [] := by
  unfold fX8_isRowAt_b32 at hf
  refine p_iconst (v := 0) X (dcg dc_X8_isRowAt 22 rfl) (by decide) ?_
  have er := Option.some.inj hf
  subst er
  exact p_zret X rfl rfl (dcg dc_X8_isRowAt 23 rfl) ⟨rfl, rfl⟩ (Nat.le_refl _) (Nat.le_refl _)
noncomputable def fX8_isRowAt_c2 (v0 : Nat) (v1 : Option Nat) (v2 : Int32) (v3 : Int32) (h : PH) : Option ((Int32) ⊕ Int32) :=
  gs v1 (fun a1 =>
  gd (hK h a1 = 20) (if ((nI (hN h a1)) ≤ v3) then (mr (some ((1 : Int32)))) else
  gd (hK h v0 = 8) (if ((hI h 8 v0 1) ≤ (v2 + v3)) then (mr (fX8_isRowAt_b32  h)) else
  gs (hR h 8 v0 0) (fun a9 =>
  gd (hK h a9 = 20 ∧ inb (v2 + v3) (hN h a9)) (gd (inb v3 (hN h a1)) (if ((hI h 20 a9 (Int32.toNatClampNeg (v2 + v3))) = (hI h 20 a1 (Int32.toNatClampNeg v3))) then (some (.inl ((v3 + 1)))) else
  mr (fX8_isRowAt_b32  h)))))))
set_option maxRecDepth 100000 in
theorem wX8_isRowAt_c2 {E : PE} {p : Program} {l : Launch} {e : Env} {s : State} {m : MethodId} {args : Array Value} {below : List Frame} {meth : Method} {c : Code} (X : Cx E p l e (rmv 0 0 0) s m args below meth c RX8 cX8_isRowAt 4 (some .boolean)) (hG : Gs E l) (hnm : meth.name = yX8_isRowAt.name) {v0 : Nat} {v1 : Option Nat} {v2 : Int32} {v3 : Int32} {h : PH} {r : Int32} {x : ((Int32) ⊕ Int32)} (hf : fX8_isRowAt_c2 v0 v1 v2 v3 h = some x) (k0 : ∀ z : (Int32), x = .inl z → PW E p l e (rmv 0 0 0) s m args below meth c 4 0 0 (MQ below (QG E (fun v u => v = some (.int r) ∧ u = h)) args s 0 0 (pA E)) h 2 [(0, some (.ref v0)), (1, some (va_rf v1)), (2, some (.int v2)), (3, some (.int (z)))] []) (kf : ∀ z : Int32, x = .inr z → z = r) : PW E p l e (rmv 0 0 0) s m args below meth c 4 0 0 (MQ below (QG E (fun v u => v = some (.int r) ∧ u = h)) args s 0 0 (pA E)) h 2 [(0, some (.ref v0)), (1, some (va_rf v1)), (2, some (.int v2)), (3, some (.int v3))] [] := by
  unfold fX8_isRowAt_c2 at hf
  refine p_iload_n X (dcg dc_X8_isRowAt 2 rfl) rfl rfl ?_
  refine p_aloadq_n X (dcg dc_X8_isRowAt 3 rfl) rfl rfl ?_
  obtain ⟨a1, e2, hf⟩ := gs_some hf
  first | subst e2 | (try rw [e2])
  obtain ⟨hk3, hf⟩ := gd_some hf
  refine p_alen20 X (dcg dc_X8_isRowAt 4 rfl) hk3 ?_
  refine p_icmp_ge (tgt := 40) X (dcg dc_X8_isRowAt 5 rfl) (by decide) (fun q => ?_) (fun q => ?_)
  · have hf := if_t q hf
    obtain ⟨y4, hf, hy5⟩ := mr_some hf
    have hy5f := kf y4 hy5
    subst hy5f
    refine p_iconst (v := 1) X (dcg dc_X8_isRowAt 26 rfl) (by decide) ?_
    have er := Option.some.inj hf
    subst er
    exact p_zret X rfl rfl (dcg dc_X8_isRowAt 27 rfl) ⟨rfl, rfl⟩ (Nat.le_refl _) (Nat.le_refl _)
  · have hf := if_f q hf
    refine p_iload_n X (dcg dc_X8_isRowAt 6 rfl) rfl rfl ?_
    refine p_iload_n X (dcg dc_X8_isRowAt 7 rfl) rfl rfl ?_
    refine p_iadd X (dcg dc_X8_isRowAt 8 rfl) ?_
    refine p_aload_n X (dcg dc_X8_isRowAt 9 rfl) rfl rfl ?_
    obtain ⟨hk6, hf⟩ := gd_some hf
    refine p_getI X fl_X8_15 rfl (by decide) (dcg dc_X8_isRowAt 10 rfl) hk6 ?_
    refine p_icmp_ge (tgt := 32) X (dcg dc_X8_isRowAt 11 rfl) (by decide) (fun q => ?_) (fun q => ?_)
    · have hf := if_t q hf
      obtain ⟨y7, hf, hy8⟩ := mr_some hf
      have hy8f := kf y7 hy8
      subst hy8f
      refine p_pick [] ?_
      exact wX8_isRowAt_b32 X hG hnm hf 
    · have hf := if_f q hf
      refine p_aload_n X (dcg dc_X8_isRowAt 12 rfl) rfl rfl ?_
      refine p_getR X fl_X8_11 rfl (by decide) (dcg dc_X8_isRowAt 13 rfl) hk6 ?_
      refine p_iload_n X (dcg dc_X8_isRowAt 14 rfl) rfl rfl ?_
      refine p_iload_n X (dcg dc_X8_isRowAt 15 rfl) rfl rfl ?_
      refine p_iadd X (dcg dc_X8_isRowAt 16 rfl) ?_
      obtain ⟨a9, e10, hf⟩ := gs_some hf
      first | subst e10 | (try rw [e10])
      obtain ⟨⟨hk12, hb11⟩, hf⟩ := gd_some hf
      refine p_iald X (dcg dc_X8_isRowAt 17 rfl) hk12 (vp_of_inb hb11) ?_
      refine p_aload_n X (dcg dc_X8_isRowAt 18 rfl) rfl rfl ?_
      refine p_iload_n X (dcg dc_X8_isRowAt 19 rfl) rfl rfl ?_
      obtain ⟨hb13, hf⟩ := gd_some hf
      refine p_iald X (dcg dc_X8_isRowAt 20 rfl) hk3 (vp_of_inb hb13) ?_
      refine p_icmp_eq (tgt := 34) X (dcg dc_X8_isRowAt 21 rfl) (by decide) (fun q => ?_) (fun q => ?_)
      · have hf := if_t q hf
        refine p_iinc (v := 1) X (dcg dc_X8_isRowAt 24 rfl) rfl (by decide) (by decide) rfl ?_
        refine p_goto (tgt := 2) X (dcg dc_X8_isRowAt 25 rfl) (by decide) ?_
        refine p_pick [0, 1, 2, 3] ?_
        exact k0 _ (Option.some.inj hf).symm
      · have hf := if_f q hf
        obtain ⟨y14, hf, hy15⟩ := mr_some hf
        have hy15f := kf y14 hy15
        subst hy15f
        refine p_pick [] ?_
        exact wX8_isRowAt_b32 X hG hnm hf 
noncomputable def fX8_isRowAt_l2 (v0 : Nat) (v1 : Option Nat) (v2 : Int32) (v3 : Int32) (h : PH) : Option Int32 := wh (fun z : (Int32) => fX8_isRowAt_c2 v0 v1 v2 (z) h) (v3)
set_option maxRecDepth 100000 in
theorem wX8_isRowAt_l2 {E : PE} {p : Program} {l : Launch} {e : Env} {s : State} {m : MethodId} {args : Array Value} {below : List Frame} {meth : Method} {c : Code} (X : Cx E p l e (rmv 0 0 0) s m args below meth c RX8 cX8_isRowAt 4 (some .boolean)) (hG : Gs E l) (hnm : meth.name = yX8_isRowAt.name) {v0 : Nat} {v1 : Option Nat} {v2 : Int32} {v3 : Int32} {h : PH} {r : Int32} (hf : fX8_isRowAt_l2 v0 v1 v2 v3 h = some r)  : PW E p l e (rmv 0 0 0) s m args below meth c 4 0 0 (MQ below (QG E (fun v u => v = some (.int r) ∧ u = h)) args s 0 0 (pA E)) h 2 [(0, some (.ref v0)), (1, some (va_rf v1)), (2, some (.int v2)), (3, some (.int v3))] [] := by
  unfold fX8_isRowAt_l2 at hf
  refine wh_ind (P := fun z => PW E p l e (rmv 0 0 0) s m args below meth c 4 0 0 (MQ below (QG E (fun v u => v = some (.int r) ∧ u = h)) args s 0 0 (pA E)) h 2 [(0, some (.ref v0)), (1, some (va_rf v1)), (2, some (.int v2)), (3, some (.int (z)))] []) (fun z x0 hs i1 i2 => ?_) _ hf
  exact wX8_isRowAt_c2 (r := r) (v0 := v0) (v1 := v1) (v2 := v2) (v3 := z) (h := h) X hG hnm hs i1  i2
noncomputable def fX8_isRowAt (v0 : Nat) (v1 : Option Nat) (v2 : Int32) (h : PH) : Option Int32 :=
  fX8_isRowAt_l2 v0 v1 v2 (0 : Int32) h
set_option maxRecDepth 100000 in
theorem wX8_isRowAt {E : PE} {l : Launch} (hG : Gs E l) {v0 : Nat} {v1 : Option Nat} {v2 : Int32} {h : PH} {r : Int32} (hf : fX8_isRowAt v0 v1 v2 h = some r) : Ct E l 0 0 0 yX8_isRowAt cX8_isRowAt 4 (some .boolean) [.ref v0, va_rf v1, .int v2] h (fun v u => v = some (.int r) ∧ u = h) := by
  refine ct_of hG (by decide) (by simp [lg_sl, cat_rf, cat_r, cat_i, cat_l, cat_d, cat_f]) ?_
  intro p e s m args below meth c X hnm
  rw [show pargs 0 [.ref v0, va_rf v1, .int v2] = [(0, some (.ref v0)), (1, some (va_rf v1)), (2, some (.int v2))] from by simp [pargs, cat_rf, cat_r, cat_i, cat_l, cat_d, cat_f]]
  unfold fX8_isRowAt at hf
  refine p_iconst (v := 0) X (dcg dc_X8_isRowAt 0 rfl) (by decide) ?_
  refine p_istore_n X (dcg dc_X8_isRowAt 1 rfl) rfl (by decide) rfl ?_
  refine p_pick [0, 1, 2, 3] ?_
  exact wX8_isRowAt_l2 X hG hnm hf 
theorem dc_X8_countRow : decs cX8_countRow [(0, .iconst 0, 1), (1, .istore_n 2, 1), (2, .iconst 0, 1), (3, .istore_n 3, 1), (4, .iload_n 3, 1), (5, .aload_n 1, 1), (6, .arraylength, 1), (7, .iadd, 1), (8, .aload_n 0, 1), (9, .getfield 15, 3), (12, .if_icmp .gt 21, 3), (15, .aload_n 0, 1), (16, .aload_n 1, 1), (17, .iload_n 3, 1), (18, .invokevirtual 40, 3), (21, .ifCond .eq 6, 3), (24, .iinc 2 1, 3), (27, .iinc 3 1, 3), (30, .goto (-26), 3), (33, .iload_n 2, 1), (34, .ireturn, 1)] = true := by decide +kernel
noncomputable def fX8_countRow_b27 (v0 : Nat) (v1 : Option Nat) (v2 : Int32) (v3 : Int32) (h : PH) : Option ((Int32 × Int32) ⊕ Int32) :=
  some (.inl (v2, (v3 + 1)))
set_option maxRecDepth 100000 in
theorem wX8_countRow_b27 {E : PE} {p : Program} {l : Launch} {e : Env} {s : State} {m : MethodId} {args : Array Value} {below : List Frame} {meth : Method} {c : Code} (X : Cx E p l e (rmv 1 0 0) s m args below meth c RX8 cX8_countRow 4 (some .int)) (hG : Gs E l) (hnm : meth.name = yX8_countRow.name) {v0 : Nat} {v1 : Option Nat} {v2 : Int32} {v3 : Int32} {h : PH} {r : Int32} {x : ((Int32 × Int32) ⊕ Int32)} (hf : fX8_countRow_b27 v0 v1 v2 v3 h = some x) (k0 : ∀ z : (Int32 × Int32), x = .inl z → PW E p l e (rmv 1 0 0) s m args below meth c 4 0 0 (MQ below (QG E (fun v u => v = some (.int r) ∧ u = h)) args s 0 0 (pA E)) h 4 [(0, some (.ref v0)), (1, some (va_rf v1)), (2, some (.int (z.1))), (3, some (.int (z.2)))] []) (kf : ∀ z : Int32, x = .inr z → z = r) : PW E p l e (rmv 1 0 0) s m args below meth c 4 0 0 (MQ below (QG E (fun v u => v = some (.int r) ∧ u = h)) args s 0 0 (pA E)) h 27 [(0, some (.ref v0)), (1, some (va_rf v1)), (2, some (.int v2)), (3, some (.int v3))] [] := by
  unfold fX8_countRow_b27 at hf
  refine p_iinc (v := 1) X (dcg dc_X8_countRow 17 rfl) rfl (by decide) (by decide) rfl ?_
  refine p_goto (tgt := 4) X (dcg dc_X8_countRow 18 rfl) (by decide) ?_
  refine p_pick [0, 1, 2, 3] ?_
  exact k0 _ (Option.some.inj hf).symm
noncomputable def fX8_countRow_c4 (v0 : Nat) (v1 : Option Nat) (v2 : Int32) (v3 : Int32) (h : PH) : Option ((Int32 × Int32) ⊕ Int32) :=
  gs v1 (fun a1 =>
  gd (hK h a1 = 20) (gd (hK h v0 = 8) (if ((hI h 8 v0 1) < (v3 + (nI (hN h a1)))) then (mr (some (v2))) else
  bd (fX8_isRowAt v0 (some a1) v3 h) (fun z7 =>
  if (z7 = 0) then (fX8_countRow_b27 v0 (some a1) v2 v3 h) else
  fX8_countRow_b27 v0 (some a1) (v2 + 1) v3 h))))
set_option maxRecDepth 100000 in
theorem wX8_countRow_c4 {E : PE} {p : Program} {l : Launch} {e : Env} {s : State} {m : MethodId} {args : Array Value} {below : List Frame} {meth : Method} {c : Code} (X : Cx E p l e (rmv 1 0 0) s m args below meth c RX8 cX8_countRow 4 (some .int)) (hG : Gs E l) (hnm : meth.name = yX8_countRow.name) {v0 : Nat} {v1 : Option Nat} {v2 : Int32} {v3 : Int32} {h : PH} {r : Int32} {x : ((Int32 × Int32) ⊕ Int32)} (hf : fX8_countRow_c4 v0 v1 v2 v3 h = some x) (k0 : ∀ z : (Int32 × Int32), x = .inl z → PW E p l e (rmv 1 0 0) s m args below meth c 4 0 0 (MQ below (QG E (fun v u => v = some (.int r) ∧ u = h)) args s 0 0 (pA E)) h 4 [(0, some (.ref v0)), (1, some (va_rf v1)), (2, some (.int (z.1))), (3, some (.int (z.2)))] []) (kf : ∀ z : Int32, x = .inr z → z = r) : PW E p l e (rmv 1 0 0) s m args below meth c 4 0 0 (MQ below (QG E (fun v u => v = some (.int r) ∧ u = h)) args s 0 0 (pA E)) h 4 [(0, some (.ref v0)), (1, some (va_rf v1)), (2, some (.int v2)), (3, some (.int v3))] [] := by
  unfold fX8_countRow_c4 at hf
  refine p_iload_n X (dcg dc_X8_countRow 4 rfl) rfl rfl ?_
  refine p_aloadq_n X (dcg dc_X8_countRow 5 rfl) rfl rfl ?_
  obtain ⟨a1, e2, hf⟩ := gs_some hf
  first | subst e2 | (try rw [e2])
  obtain ⟨hk3, hf⟩ := gd_some hf
  refine p_alen20 X (dcg dc_X8_countRow 6 rfl) hk3 ?_
  refine p_iadd X (dcg dc_X8_countRow 7 rfl) ?_
  refine p_aload_n X (dcg dc_X8_countRow 8 rfl) rfl rfl ?_
  obtain ⟨hk4, hf⟩ := gd_some hf
  refine p_getI X fl_X8_15 rfl (by decide) (dcg dc_X8_countRow 9 rfl) hk4 ?_
  refine p_icmp_gt (tgt := 33) X (dcg dc_X8_countRow 10 rfl) (by decide) (fun q => ?_) (fun q => ?_)
  · have hf := if_t q hf
    obtain ⟨y5, hf, hy6⟩ := mr_some hf
    have hy6f := kf y5 hy6
    subst hy6f
    refine p_iload_n X (dcg dc_X8_countRow 19 rfl) rfl rfl ?_
    have er := Option.some.inj hf
    subst er
    exact p_iret X rfl (dcg dc_X8_countRow 20 rfl) ⟨rfl, rfl⟩ (Nat.le_refl _) (Nat.le_refl _)
  · have hf := if_f q hf
    refine p_aload_n X (dcg dc_X8_countRow 11 rfl) rfl rfl ?_
    refine p_aload_n X (dcg dc_X8_countRow 12 rfl) rfl rfl ?_
    refine p_iload_n X (dcg dc_X8_countRow 13 rfl) rfl rfl ?_
    obtain ⟨z7, hz7, hf⟩ := bd_some hf
    refine p_callV (As := [va_rf (some _), _]) X ml_X8_40 (dcg dc_X8_countRow 14 rfl) rfl rfl hk4 (wX8_isRowAt hG hz7) (by decide) (room4 (Nat.le_of_ble_eq_true rfl)) (Nat.le_refl _) (Nat.le_refl _) ?_
    rintro _ u9 ⟨rfl, e9⟩; have e9 := e9.symm; subst e9
    refine p_if_eq (tgt := 27) X (dcg dc_X8_countRow 15 rfl) (by decide) (fun q => ?_) (fun q => ?_)
    · have hf := if_t q hf
      refine p_pick [0, 1, 2, 3] ?_
      exact wX8_countRow_b27 X hG hnm hf k0 kf
    · have hf := if_f q hf
      refine p_iinc (v := 1) X (dcg dc_X8_countRow 16 rfl) rfl (by decide) (by decide) rfl ?_
      refine p_pick [0, 1, 2, 3] ?_
      exact wX8_countRow_b27 X hG hnm hf k0 kf
noncomputable def fX8_countRow_l4 (v0 : Nat) (v1 : Option Nat) (v2 : Int32) (v3 : Int32) (h : PH) : Option Int32 := wh (fun z : (Int32 × Int32) => fX8_countRow_c4 v0 v1 (z.1) (z.2) h) (v2, v3)
set_option maxRecDepth 100000 in
theorem wX8_countRow_l4 {E : PE} {p : Program} {l : Launch} {e : Env} {s : State} {m : MethodId} {args : Array Value} {below : List Frame} {meth : Method} {c : Code} (X : Cx E p l e (rmv 1 0 0) s m args below meth c RX8 cX8_countRow 4 (some .int)) (hG : Gs E l) (hnm : meth.name = yX8_countRow.name) {v0 : Nat} {v1 : Option Nat} {v2 : Int32} {v3 : Int32} {h : PH} {r : Int32} (hf : fX8_countRow_l4 v0 v1 v2 v3 h = some r)  : PW E p l e (rmv 1 0 0) s m args below meth c 4 0 0 (MQ below (QG E (fun v u => v = some (.int r) ∧ u = h)) args s 0 0 (pA E)) h 4 [(0, some (.ref v0)), (1, some (va_rf v1)), (2, some (.int v2)), (3, some (.int v3))] [] := by
  unfold fX8_countRow_l4 at hf
  refine wh_ind (P := fun z => PW E p l e (rmv 1 0 0) s m args below meth c 4 0 0 (MQ below (QG E (fun v u => v = some (.int r) ∧ u = h)) args s 0 0 (pA E)) h 4 [(0, some (.ref v0)), (1, some (va_rf v1)), (2, some (.int (z.1))), (3, some (.int (z.2)))] []) (fun z x0 hs i1 i2 => ?_) _ hf
  exact wX8_countRow_c4 (r := r) (v0 := v0) (v1 := v1) (v2 := z.1) (v3 := z.2) (h := h) X hG hnm hs i1  i2
noncomputable def fX8_countRow (v0 : Nat) (v1 : Option Nat) (h : PH) : Option Int32 :=
  fX8_countRow_l4 v0 v1 (0 : Int32) (0 : Int32) h
set_option maxRecDepth 100000 in
theorem wX8_countRow {E : PE} {l : Launch} (hG : Gs E l) {v0 : Nat} {v1 : Option Nat} {h : PH} {r : Int32} (hf : fX8_countRow v0 v1 h = some r) : Ct E l 1 0 0 yX8_countRow cX8_countRow 4 (some .int) [.ref v0, va_rf v1] h (fun v u => v = some (.int r) ∧ u = h) := by
  refine ct_of hG (by decide) (by simp [lg_sl, cat_rf, cat_r, cat_i, cat_l, cat_d, cat_f]) ?_
  intro p e s m args below meth c X hnm
  rw [show pargs 0 [.ref v0, va_rf v1] = [(0, some (.ref v0)), (1, some (va_rf v1))] from by simp [pargs, cat_rf, cat_r, cat_i, cat_l, cat_d, cat_f]]
  unfold fX8_countRow at hf
  refine p_iconst (v := 0) X (dcg dc_X8_countRow 0 rfl) (by decide) ?_
  refine p_istore_n X (dcg dc_X8_countRow 1 rfl) rfl (by decide) (nwq (k := 1) rfl) ?_
  refine p_iconst (v := 0) X (dcg dc_X8_countRow 2 rfl) (by decide) ?_
  refine p_istore_n X (dcg dc_X8_countRow 3 rfl) rfl (by decide) rfl ?_
  refine p_pick [0, 1, 2, 3] ?_
  exact wX8_countRow_l4 X hG hnm hf 
theorem dc_X4_countMeetings : decs cX4_countMeetings [(0, .aload_n 0, 1), (1, .getfield 9, 3), (4, .tableswitch 80 0 3 #[32, 42, 52, 71], 32), (36, .aload_n 1, 1), (37, .aload_n 0, 1), (38, .iconst 0, 1), (39, .invokevirtual 43, 3), (42, .invokevirtual 47, 3), (45, .ireturn, 1), (46, .aload_n 1, 1), (47, .aload_n 0, 1), (48, .iconst 0, 1), (49, .invokevirtual 43, 3), (52, .invokevirtual 52, 3), (55, .ireturn, 1), (56, .aload_n 1, 1), (57, .aload_n 0, 1), (58, .iconst 0, 1), (59, .invokevirtual 43, 3), (62, .aload_n 0, 1), (63, .iconst 1, 1), (64, .invokevirtual 43, 3), (67, .aload_n 0, 1), (68, .getfield 19, 3), (71, .invokevirtual 55, 3), (74, .ireturn, 1), (75, .aload_n 1, 1), (76, .aload_n 0, 1), (77, .getfield 15, 3), (80, .invokevirtual 59, 3), (83, .ireturn, 1), (84, .iconst 0, 1), (85, .ireturn, 1)] = true := by decide +kernel
noncomputable def fX4_countMeetings (v0 : Nat) (v1 : Option Nat) (h : PH) : Option Int32 :=
  gd (hK h v0 = 4) (if (hI h 4 v0 0) = 0 then (bd (fX4_soughtAt v0 (0 : Int32) h) (fun z2 =>
  gs v1 (fun a3 =>
  gd (hK h a3 = 8) (bd (fX8_countWord a3 z2 h) (fun z6 =>
  some (z6)))))) else
  if (hI h 4 v0 0) = 1 then (bd (fX4_soughtAt v0 (0 : Int32) h) (fun z7 =>
  gs v1 (fun a8 =>
  gd (hK h a8 = 8) (bd (fX8_countBeginning a8 z7 h) (fun z11 =>
  some (z11)))))) else
  if (hI h 4 v0 0) = 2 then (bd (fX4_soughtAt v0 (0 : Int32) h) (fun z12 =>
  bd (fX4_soughtAt v0 (1 : Int32) h) (fun z13 =>
  gs v1 (fun a14 =>
  gd (hK h a14 = 8) (bd (fX8_countNear a14 z12 z13 (hI h 4 v0 2) h) (fun z17 =>
  some (z17))))))) else
  if (hI h 4 v0 0) = 3 then (gs v1 (fun a18 =>
  gd (hK h a18 = 8) (bd (fX8_countRow a18 (hR h 4 v0 1) h) (fun z21 =>
  some (z21))))) else
  some ((0 : Int32)))
set_option maxRecDepth 100000 in
theorem wX4_countMeetings {E : PE} {l : Launch} (hG : Gs E l) {v0 : Nat} {v1 : Option Nat} {h : PH} {r : Int32} (hf : fX4_countMeetings v0 v1 h = some r) : Ct E l 2 0 0 yX4_countMeetings cX4_countMeetings 2 (some .int) [.ref v0, va_rf v1] h (fun v u => v = some (.int r) ∧ u = h) := by
  refine ct_of hG (by decide) (by simp [lg_sl, cat_rf, cat_r, cat_i, cat_l, cat_d, cat_f]) ?_
  intro p e s m args below meth c X hnm
  rw [show pargs 0 [.ref v0, va_rf v1] = [(0, some (.ref v0)), (1, some (va_rf v1))] from by simp [pargs, cat_rf, cat_r, cat_i, cat_l, cat_d, cat_f]]
  unfold fX4_countMeetings at hf
  refine p_aload_n X (dcg dc_X4_countMeetings 0 rfl) rfl rfl ?_
  obtain ⟨hk1, hf⟩ := gd_some hf
  refine p_getI X fl_X4_9 rfl (by decide) (dcg dc_X4_countMeetings 1 rfl) hk1 ?_
  by_cases hq0 : (hI h 4 v0 0) = 0
  · have hf := if_t hq0 hf
    refine p_tableK (k := 0) (tgt := 36) X (dcg dc_X4_countMeetings 2 rfl) (by decide) hq0 (by decide) (by decide) (by decide) ?_
    refine p_aloadq_n X (dcg dc_X4_countMeetings 3 rfl) rfl rfl ?_
    refine p_aload_n X (dcg dc_X4_countMeetings 4 rfl) rfl rfl ?_
    refine p_iconst (v := 0) X (dcg dc_X4_countMeetings 5 rfl) (by decide) ?_
    obtain ⟨z2, hz2, hf⟩ := bd_some hf
    refine p_callV (As := [_]) X ml_X4_43 (dcg dc_X4_countMeetings 6 rfl) rfl rfl hk1 (wX4_soughtAt hG hz2) (by decide) (room4 (Nat.le_of_ble_eq_true rfl)) (Nat.le_refl _) (Nat.le_refl _) ?_
    rintro _ u9 ⟨rfl, e9⟩; have e9 := e9.symm; subst e9
    obtain ⟨a3, e4, hf⟩ := gs_some hf
    first | subst e4 | (try rw [e4])
    obtain ⟨hk5, hf⟩ := gd_some hf
    obtain ⟨z6, hz6, hf⟩ := bd_some hf
    refine p_callV (As := [_]) X ml_X4_47 (dcg dc_X4_countMeetings 7 rfl) rfl rfl hk5 (wX8_countWord hG hz6) (by decide) (room4 (Nat.le_of_ble_eq_true rfl)) (Nat.le_refl _) (Nat.le_refl _) ?_
    rintro _ u9 ⟨rfl, e9⟩; have e9 := e9.symm; subst e9
    have er := Option.some.inj hf
    subst er
    exact p_iret X rfl (dcg dc_X4_countMeetings 8 rfl) ⟨rfl, rfl⟩ (Nat.le_refl _) (Nat.le_refl _)
  · have hf := if_f hq0 hf
    by_cases hq1 : (hI h 4 v0 0) = 1
    · have hf := if_t hq1 hf
      refine p_tableK (k := 1) (tgt := 46) X (dcg dc_X4_countMeetings 2 rfl) (by decide) hq1 (by decide) (by decide) (by decide) ?_
      refine p_aloadq_n X (dcg dc_X4_countMeetings 9 rfl) rfl rfl ?_
      refine p_aload_n X (dcg dc_X4_countMeetings 10 rfl) rfl rfl ?_
      refine p_iconst (v := 0) X (dcg dc_X4_countMeetings 11 rfl) (by decide) ?_
      obtain ⟨z7, hz7, hf⟩ := bd_some hf
      refine p_callV (As := [_]) X ml_X4_43 (dcg dc_X4_countMeetings 12 rfl) rfl rfl hk1 (wX4_soughtAt hG hz7) (by decide) (room4 (Nat.le_of_ble_eq_true rfl)) (Nat.le_refl _) (Nat.le_refl _) ?_
      rintro _ u9 ⟨rfl, e9⟩; have e9 := e9.symm; subst e9
      obtain ⟨a8, e9, hf⟩ := gs_some hf
      first | subst e9 | (try rw [e9])
      obtain ⟨hk10, hf⟩ := gd_some hf
      obtain ⟨z11, hz11, hf⟩ := bd_some hf
      refine p_callV (As := [_]) X ml_X4_52 (dcg dc_X4_countMeetings 13 rfl) rfl rfl hk10 (wX8_countBeginning hG hz11) (by decide) (room4 (Nat.le_of_ble_eq_true rfl)) (Nat.le_refl _) (Nat.le_refl _) ?_
      rintro _ u9 ⟨rfl, e9⟩; have e9 := e9.symm; subst e9
      have er := Option.some.inj hf
      subst er
      exact p_iret X rfl (dcg dc_X4_countMeetings 14 rfl) ⟨rfl, rfl⟩ (Nat.le_refl _) (Nat.le_refl _)
    · have hf := if_f hq1 hf
      by_cases hq2 : (hI h 4 v0 0) = 2
      · have hf := if_t hq2 hf
        refine p_tableK (k := 2) (tgt := 56) X (dcg dc_X4_countMeetings 2 rfl) (by decide) hq2 (by decide) (by decide) (by decide) ?_
        refine p_aloadq_n X (dcg dc_X4_countMeetings 15 rfl) rfl rfl ?_
        refine p_aload_n X (dcg dc_X4_countMeetings 16 rfl) rfl rfl ?_
        refine p_iconst (v := 0) X (dcg dc_X4_countMeetings 17 rfl) (by decide) ?_
        obtain ⟨z12, hz12, hf⟩ := bd_some hf
        refine p_callV (As := [_]) X ml_X4_43 (dcg dc_X4_countMeetings 18 rfl) rfl rfl hk1 (wX4_soughtAt hG hz12) (by decide) (room4 (Nat.le_of_ble_eq_true rfl)) (Nat.le_refl _) (Nat.le_refl _) ?_
        rintro _ u9 ⟨rfl, e9⟩; have e9 := e9.symm; subst e9
        refine p_aload_n X (dcg dc_X4_countMeetings 19 rfl) rfl rfl ?_
        refine p_iconst (v := 1) X (dcg dc_X4_countMeetings 20 rfl) (by decide) ?_
        obtain ⟨z13, hz13, hf⟩ := bd_some hf
        refine p_callV (As := [_]) X ml_X4_43 (dcg dc_X4_countMeetings 21 rfl) rfl rfl hk1 (wX4_soughtAt hG hz13) (by decide) (room4 (Nat.le_of_ble_eq_true rfl)) (Nat.le_refl _) (Nat.le_refl _) ?_
        rintro _ u9 ⟨rfl, e9⟩; have e9 := e9.symm; subst e9
        refine p_aload_n X (dcg dc_X4_countMeetings 22 rfl) rfl rfl ?_
        refine p_getI X fl_X4_19 rfl (by decide) (dcg dc_X4_countMeetings 23 rfl) hk1 ?_
        obtain ⟨a14, e15, hf⟩ := gs_some hf
        first | subst e15 | (try rw [e15])
        obtain ⟨hk16, hf⟩ := gd_some hf
        obtain ⟨z17, hz17, hf⟩ := bd_some hf
        refine p_callV (As := [_, _, _]) X ml_X4_55 (dcg dc_X4_countMeetings 24 rfl) rfl rfl hk16 (wX8_countNear hG hz17) (by decide) (room4 (Nat.le_of_ble_eq_true rfl)) (Nat.le_refl _) (Nat.le_refl _) ?_
        rintro _ u9 ⟨rfl, e9⟩; have e9 := e9.symm; subst e9
        have er := Option.some.inj hf
        subst er
        exact p_iret X rfl (dcg dc_X4_countMeetings 25 rfl) ⟨rfl, rfl⟩ (Nat.le_refl _) (Nat.le_refl _)
      · have hf := if_f hq2 hf
        by_cases hq3 : (hI h 4 v0 0) = 3
        · have hf := if_t hq3 hf
          refine p_tableK (k := 3) (tgt := 75) X (dcg dc_X4_countMeetings 2 rfl) (by decide) hq3 (by decide) (by decide) (by decide) ?_
          refine p_aloadq_n X (dcg dc_X4_countMeetings 26 rfl) rfl rfl ?_
          refine p_aload_n X (dcg dc_X4_countMeetings 27 rfl) rfl rfl ?_
          refine p_getR X fl_X4_15 rfl (by decide) (dcg dc_X4_countMeetings 28 rfl) hk1 ?_
          obtain ⟨a18, e19, hf⟩ := gs_some hf
          first | subst e19 | (try rw [e19])
          obtain ⟨hk20, hf⟩ := gd_some hf
          obtain ⟨z21, hz21, hf⟩ := bd_some hf
          refine p_callV (As := [va_rf _]) X ml_X4_59 (dcg dc_X4_countMeetings 29 rfl) rfl rfl hk20 (wX8_countRow hG hz21) (by decide) (room4 (Nat.le_of_ble_eq_true rfl)) (Nat.le_refl _) (Nat.le_refl _) ?_
          rintro _ u9 ⟨rfl, e9⟩; have e9 := e9.symm; subst e9
          have er := Option.some.inj hf
          subst er
          exact p_iret X rfl (dcg dc_X4_countMeetings 30 rfl) ⟨rfl, rfl⟩ (Nat.le_refl _) (Nat.le_refl _)
        · have hf := if_f hq3 hf
          refine p_tableD (ks := [0, 1, 2, 3]) (tgt := 84) X (dcg dc_X4_countMeetings 2 rfl) (by decide) (by simp [hq0, hq1, hq2, hq3]) (by decide) ?_
          refine p_iconst (v := 0) X (dcg dc_X4_countMeetings 31 rfl) (by decide) ?_
          have er := Option.some.inj hf
          subst er
          exact p_iret X rfl (dcg dc_X4_countMeetings 32 rfl) ⟨rfl, rfl⟩ (Nat.le_refl _) (Nat.le_refl _)
