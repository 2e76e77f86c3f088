/-! methods of the program (by program: wip/whole/gen2.py) -/
theorem dc_X5_forgetLatest : decs cX5_forgetLatest [(0, .aload_n 0, 1), (1, .getfield 19, 3), (4, .ifCond .le 13, 3), (7, .aload_n 0, 1), (8, .dup, 1), (9, .getfield 19, 3), (12, .iconst 1, 1), (13, .isub, 1), (14, .putfield 19, 3), (17, .return_, 1)] = true := by decide +kernel
noncomputable def fX5_forgetLatest_b17  (h : PH) : Option PH :=
  some (h)
set_option maxRecDepth 100000 in
theorem mX5_forgetLatest_b17  {h : PH} {r : PH} (hf : fX5_forgetLatest_b17  h = some r) : eqz h (hX r) (hV r) := by
  unfold fX5_forgetLatest_b17 at hf
  have hle := eqz_rf h
  have ee := Option.some.inj hf; subst ee; exact hle
set_option maxRecDepth 100000 in
theorem wX5_forgetLatest_b17 {E : PE} {p : Program} {l : Launch} {e : Env} {s : State} {m : MethodId} {args : Array Value} {below : List Frame} {meth : Method} {c : Code} (X : Cx E p l e (rmv 0 0 0) s m args below meth c RX5 cX5_forgetLatest 1 (none)) (hG : Gs E l) (hnm : meth.name = yX5_forgetLatest.name)  {h : PH} {r : PH} (hf : fX5_forgetLatest_b17  h = some r)  : PW E p l e (rmv 0 0 0) s m args below meth c 1 0 0 (MQ below (QG E (fun v u => v = none ∧ u = r)) args s 0 0 (pA E)) h 17 [] [] := by
  unfold fX5_forgetLatest_b17 at hf
  have er := Option.some.inj hf
  subst er
  exact p_vret X rfl (dcg dc_X5_forgetLatest 9 rfl) ⟨rfl, rfl⟩ (Nat.le_refl _) (Nat.le_refl _)
noncomputable def fX5_forgetLatest (v0 : Nat) (h : PH) : Option PH :=
  gd (hK h v0 = 5) (if ((hI h 5 v0 3) ≤ 0) then (fX5_forgetLatest_b17  h) else
  lt (sI h 5 v0 3 ((hI h 5 v0 3) - (1 : Int32))) (fun h2 =>
  fX5_forgetLatest_b17  h2))
set_option maxRecDepth 100000 in
theorem mX5_forgetLatest {v0 : Nat} {h : PH} {r : PH} (hf : fX5_forgetLatest v0 h = some r) : eqz h (hX r) (hV r) := by
  unfold fX5_forgetLatest at hf
  have hle := eqz_rf h
  obtain ⟨hk1, hf⟩ := gd_some hf
  rcases ite_or hf with ⟨q, hf⟩ | ⟨q, hf⟩
  · have hf := if_t q hf
    exact eqz_rt (mX5_forgetLatest_b17 hf) hle
  · have hf := if_f q hf
    obtain ⟨h2, rfl, hf⟩ := lt_some hf
    exact eqz_rt (mX5_forgetLatest_b17 hf) hle
set_option maxRecDepth 100000 in
theorem wX5_forgetLatest {E : PE} {l : Launch} (hG : Gs E l) {v0 : Nat} {h : PH} {r : PH} (hf : fX5_forgetLatest v0 h = some r) : Ct E l 0 0 0 yX5_forgetLatest cX5_forgetLatest 1 (none) [.ref v0] h (fun v u => v = none ∧ u = r) := by
  refine ct_of hG (by decide) (Nat.le_of_ble_eq_true rfl) ?_
  intro p e s m args below meth c X hnm
  show PW E p l e _ s m args below meth c _ 0 0 _ h 0 [(0, some (.ref v0))] []
  unfold fX5_forgetLatest at hf
  refine p_aload_n X (dcg dc_X5_forgetLatest 0 rfl) rfl rfl ?_
  obtain ⟨hk1, hf⟩ := gd_some hf
  refine p_getI X fl_X5_19 rfl (by decide) (dcg dc_X5_forgetLatest 1 rfl) hk1 ?_
  refine p_if_le (tgt := 17) X (dcg dc_X5_forgetLatest 2 rfl) (by decide) (fun q => ?_) (fun q => ?_)
  · have hf := if_t q hf
    refine p_pick [] ?_
    exact wX5_forgetLatest_b17 X hG hnm hf 
  · have hf := if_f q hf
    refine p_aload_n X (dcg dc_X5_forgetLatest 3 rfl) rfl rfl ?_
    refine p_dup X (dcg dc_X5_forgetLatest 4 rfl) rfl ?_
    refine p_getI X fl_X5_19 rfl (by decide) (dcg dc_X5_forgetLatest 5 rfl) hk1 ?_
    refine p_iconst (v := 1) X (dcg dc_X5_forgetLatest 6 rfl) (by decide) ?_
    refine p_isub X (dcg dc_X5_forgetLatest 7 rfl) ?_
    refine p_putI X fl_X5_19 rfl (by decide) (fun q hq => by cases hq; rfl) rfl rfl (dcg dc_X5_forgetLatest 8 rfl) hk1 ?_
    obtain ⟨h2, rfl, hf⟩ := lt_some hf
    refine p_pick [] ?_
    exact wX5_forgetLatest_b17 X hG hnm hf 
theorem dc_X6_init : decs cX6_init [(0, .aload_n 0, 1), (1, .invokespecial 3, 3), (4, .aload_n 0, 1), (5, .bipush 20, 2), (7, .newarray .int, 2), (9, .putfield 11, 3), (12, .aload_n 0, 1), (13, .aload_n 1, 1), (14, .putfield 15, 3), (17, .return_, 1)] = true := by decide +kernel
noncomputable def fX6_init_b9 (v0 : Nat) (v1 : Option Nat) (t0 : Nat) (t1 : Nat) (h : PH) : Option PH :=
  gd (hK h t0 = 6) (lt (sR h 6 t0 1 (some t1)) (fun h3 =>
  gd (hK h3 v0 = 6) (lt (sR h3 6 v0 0 v1) (fun h5 =>
  some (h5)))))
set_option maxRecDepth 100000 in
theorem mX6_init_b9 {v0 : Nat} {v1 : Option Nat} {t0 : Nat} {t1 : Nat} {h : PH} {r : PH} (hf : fX6_init_b9 v0 v1 t0 t1 h = some r) : lez h (hX r) (hV r) := by
  unfold fX6_init_b9 at hf
  have hle := lez_rf h
  obtain ⟨hk2, hf⟩ := gd_some hf
  obtain ⟨h3, rfl, hf⟩ := lt_some hf
  obtain ⟨hk4, hf⟩ := gd_some hf
  obtain ⟨h5, rfl, hf⟩ := lt_some hf
  have ee := Option.some.inj hf; subst ee; exact hle
set_option maxRecDepth 100000 in
theorem wX6_init_b9 {E : PE} {p : Program} {l : Launch} {e : Env} {s : State} {m : MethodId} {args : Array Value} {below : List Frame} {meth : Method} {c : Code} {X0 V0 MC MS uc us : Nat} (X : Cx E p l e (rmv 1 MC MS) s m args below meth c RX6 cX6_init 2 (none)) (hG : Gs E l) (hnm : meth.name = yX6_init.name) {v0 : Nat} {v1 : Option Nat} {t0 : Nat} {t1 : Nat} {h : PH} {r : PH} (hM : MC + X0 = (hX r)) (hN : MS + V0 = (hV r)) (hu : uc + X0 = hX h) (hv : us + V0 = hV h) (hf : fX6_init_b9 v0 v1 t0 t1 h = some r)  : PW E p l e (rmv 1 MC MS) s m args below meth c 2 uc us (MQ below (QG E (fun v u => v = none ∧ u = r)) args s MC MS (pA E)) h 9 [(0, some (.ref v0)), (1, some (va_rf v1))] [.ref t1, .ref t0] := by
  have hm1 : lez h (hX r) (hV r) := mX6_init_b9 hf
  have hcm : uc ≤ MC := (by have o0 := hm1.1; have o1 := hM; have o2 := hu; (try simp only [hX_sI, hX_sR, hX_sL, hX_sD, hX_sIa, hX_sRa, hV_sI, hV_sR, hV_sL, hV_sD, hV_sIa, hV_sRa, hX_new, hV_new] at o0 o1 o2 ⊢); omega)
  have hsm : us ≤ MS := (by have o0 := hm1.2; have o1 := hN; have o2 := hv; (try simp only [hX_sI, hX_sR, hX_sL, hX_sD, hX_sIa, hX_sRa, hV_sI, hV_sR, hV_sL, hV_sD, hV_sIa, hV_sRa, hX_new, hV_new] at o0 o1 o2 ⊢); omega)
  clear hm1
  unfold fX6_init_b9 at hf
  obtain ⟨hk2, hf⟩ := gd_some hf
  refine p_putRf (v := some _) X fl_X6_11 rfl (by decide) (fun q hq => by cases hq; exact ⟨rfl, rfl⟩) hnm (nar_rf _ (by decide)) (fit_rf _ (by decide)) (dcg dc_X6_init 5 rfl) hk2 ?_
  obtain ⟨h3, rfl, hf⟩ := lt_some hf
  refine p_aload_n X (dcg dc_X6_init 6 rfl) rfl rfl ?_
  refine p_aloadq_n X (dcg dc_X6_init 7 rfl) rfl rfl ?_
  obtain ⟨hk4, hf⟩ := gd_some hf
  refine p_putRf X fl_X6_15 rfl (by decide) (fun q hq => by cases hq; exact ⟨rfl, rfl⟩) hnm (nar_rf _ (by decide)) (fit_rf _ (by decide)) (dcg dc_X6_init 8 rfl) hk4 ?_
  obtain ⟨h5, rfl, hf⟩ := lt_some hf
  have er := Option.some.inj hf
  subst er
  exact p_vret X rfl (dcg dc_X6_init 9 rfl) ⟨rfl, rfl⟩ hcm hsm
noncomputable def fX6_init_b0 (v0 : Nat) (v1 : Option Nat) (h : PH) : Option PH :=
  gd (¬ (20 : Int32) < 0 ∧ (Int32.toNatClampNeg (20 : Int32)) ≤ 1000000) (fX6_init_b9 v0 v1 v0 (hX h) (hnew h 20 (Int32.toNatClampNeg (20 : Int32))))
set_option maxRecDepth 100000 in
theorem mX6_init_b0 {v0 : Nat} {v1 : Option Nat} {h : PH} {r : PH} (hf : fX6_init_b0 v0 v1 h = some r) : lez h (hX r) (hV r) := by
  unfold fX6_init_b0 at hf
  have hle := lez_rf h
  obtain ⟨hg1, hf⟩ := gd_some hf
  have hle := lez_nw (c := 20) (n := (Int32.toNatClampNeg (20 : Int32))) hle
  exact lez_rt (mX6_init_b9 hf) hle
set_option maxRecDepth 100000 in
theorem wX6_init_b0 {E : PE} {p : Program} {l : Launch} {e : Env} {s : State} {m : MethodId} {args : Array Value} {below : List Frame} {meth : Method} {c : Code} {X0 V0 MC MS uc us : Nat} (X : Cx E p l e (rmv 1 MC MS) s m args below meth c RX6 cX6_init 2 (none)) (hG : Gs E l) (hnm : meth.name = yX6_init.name) {v0 : Nat} {v1 : Option Nat} {h : PH} {r : PH} (hM : MC + X0 = (hX r)) (hN : MS + V0 = (hV r)) (hu : uc + X0 = hX h) (hv : us + V0 = hV h) (hf : fX6_init_b0 v0 v1 h = some r)  : PW E p l e (rmv 1 MC MS) s m args below meth c 2 uc us (MQ below (QG E (fun v u => v = none ∧ u = r)) args s MC MS (pA E)) h 0 [(0, some (.ref v0)), (1, some (va_rf v1))] [] := by
  have hm1 : lez h (hX r) (hV r) := mX6_init_b0 hf
  have hcm : uc ≤ MC := (by have o0 := hm1.1; have o1 := hM; have o2 := hu; (try simp only [hX_sI, hX_sR, hX_sL, hX_sD, hX_sIa, hX_sRa, hV_sI, hV_sR, hV_sL, hV_sD, hV_sIa, hV_sRa, hX_new, hV_new] at o0 o1 o2 ⊢); omega)
  have hsm : us ≤ MS := (by have o0 := hm1.2; have o1 := hN; have o2 := hv; (try simp only [hX_sI, hX_sR, hX_sL, hX_sD, hX_sIa, hX_sRa, hV_sI, hV_sR, hV_sL, hV_sD, hV_sIa, hV_sRa, hX_new, hV_new] at o0 o1 o2 ⊢); omega)
  clear hm1
  unfold fX6_init_b0 at hf
  refine p_aload_n X (dcg dc_X6_init 0 rfl) rfl rfl ?_
  refine p_objinit X tw_174 tw_146 tw_147 (dcg dc_X6_init 1 rfl) (Nat.le_of_ble_eq_true rfl) (Nat.le_trans (Nat.add_le_add_right (room4 (Nat.le_of_ble_eq_true rfl)) 12) (Nat.le_of_ble_eq_true rfl)) (fun ls hl => hl.1.trans X.2.2.1.symm) ?_
  refine p_aload_n X (dcg dc_X6_init 2 rfl) rfl rfl ?_
  refine p_bipush (v := 20) X (dcg dc_X6_init 3 rfl) (by decide) ?_
  obtain ⟨hg1, hf⟩ := gd_some hf
  have hm1 : lez _ (hX r) (hV r) := mX6_init_b9 hf
  have hm2 := lez_new hm1
  refine p_newa20 X tw_168 (dcg dc_X6_init 4 rfl) hg1.1 hg1.2 (show uc + 1 ≤ MC from (by have o0 := hm2.1; have o1 := hM; have o2 := hu; (try simp only [hX_sI, hX_sR, hX_sL, hX_sD, hX_sIa, hX_sRa, hV_sI, hV_sR, hV_sL, hV_sD, hV_sIa, hV_sRa, hX_new, hV_new] at o0 o1 o2 ⊢); omega)) (show us + (Int32.toNatClampNeg (20 : Int32)) ≤ MS from (by have o0 := hm2.2; have o1 := hN; have o2 := hv; (try simp only [hX_sI, hX_sR, hX_sL, hX_sD, hX_sIa, hX_sRa, hV_sI, hV_sR, hV_sL, hV_sD, hV_sIa, hV_sRa, hX_new, hV_new] at o0 o1 o2 ⊢); omega)) ?_
  refine p_pick [0, 1] ?_
  exact wX6_init_b9 X hG hnm hM hN (by have o0 := hu; (try simp only [hX_sI, hX_sR, hX_sL, hX_sD, hX_sIa, hX_sRa, hV_sI, hV_sR, hV_sL, hV_sD, hV_sIa, hV_sRa, hX_new, hV_new] at o0 ⊢); omega) (by have o0 := hv; (try simp only [hX_sI, hX_sR, hX_sL, hX_sD, hX_sIa, hX_sRa, hV_sI, hV_sR, hV_sL, hV_sD, hV_sIa, hV_sRa, hX_new, hV_new] at o0 ⊢); omega) hf 
noncomputable def fX6_init (v0 : Nat) (v1 : Option Nat) (h : PH) : Option PH :=
  fX6_init_b0 v0 v1 h
set_option maxRecDepth 100000 in
theorem mX6_init {v0 : Nat} {v1 : Option Nat} {h : PH} {r : PH} (hf : fX6_init v0 v1 h = some r) : lez h (hX r) (hV r) := by
  unfold fX6_init at hf
  have hle := lez_rf h
  exact lez_rt (mX6_init_b0 hf) hle
set_option maxRecDepth 100000 in
theorem wX6_init {E : PE} {l : Launch} (hG : Gs E l) {v0 : Nat} {v1 : Option Nat} {h : PH} {r : PH} (hf : fX6_init v0 v1 h = some r) : Ct E l 1 ((hX r) - hX h) ((hV r) - hV h) yX6_init cX6_init 2 (none) [.ref v0, va_rf v1] h (fun v u => v = none ∧ u = r) := by
  have hmm := mX6_init hf
  refine ct_of hG (by decide) (by simp [lg_sl, cat_rf, cat_r, cat_i, cat_l, cat_d, cat_f]) ?_
  intro p e s m args below meth c X hnm
  rw [show pargs 0 [.ref v0, va_rf v1] = [(0, some (.ref v0)), (1, some (va_rf v1))] from by simp [pargs, cat_rf, cat_r, cat_i, cat_l, cat_d, cat_f]]
  unfold fX6_init at hf
  have hM := Nat.sub_add_cancel hmm.1
  have hN := Nat.sub_add_cancel hmm.2
  refine p_pick [0, 1] ?_
  exact wX6_init_b0 X hG hnm hM hN (Nat.zero_add _) (Nat.zero_add _) hf
theorem dc_X6_advanceWord : decs cX6_advanceWord [(0, .aload_n 0, 1), (1, .getfield 19, 3), (4, .aload_n 0, 1), (5, .getfield 15, 3), (8, .getfield 96, 3), (11, .if_icmp .ge 79, 3), (14, .aload_n 0, 1), (15, .getfield 15, 3), (18, .getfield 99, 3), (21, .aload_n 0, 1), (22, .getfield 19, 3), (25, .iaload, 1), (26, .bipush 97, 2), (28, .if_icmp .lt 62, 3), (31, .aload_n 0, 1), (32, .getfield 15, 3), (35, .getfield 99, 3), (38, .aload_n 0, 1), (39, .getfield 19, 3), (42, .iaload, 1), (43, .bipush 122, 2), (45, .if_icmp .gt 45, 3), (48, .aload_n 0, 1), (49, .aload_n 0, 1), (50, .getfield 83, 3), (53, .bipush 27, 2), (55, .imul, 1), (56, .aload_n 0, 1), (57, .getfield 15, 3), (60, .getfield 99, 3), (63, .aload_n 0, 1), (64, .getfield 19, 3), (67, .iaload, 1), (68, .iadd, 1), (69, .bipush 97, 2), (71, .isub, 1), (72, .iconst 1, 1), (73, .iadd, 1), (74, .putfield 83, 3), (77, .aload_n 0, 1), (78, .dup, 1), (79, .getfield 19, 3), (82, .iconst 1, 1), (83, .iadd, 1), (84, .putfield 19, 3), (87, .goto (-87), 3), (90, .aload_n 0, 1), (91, .dup, 1), (92, .getfield 23, 3), (95, .iconst 1, 1), (96, .iadd, 1), (97, .putfield 23, 3), (100, .aload_n 0, 1), (101, .getfield 19, 3), (104, .aload_n 0, 1), (105, .getfield 49, 3), (108, .isub, 1), (109, .bipush 6, 2), (111, .if_icmp .gt 16, 3), (114, .aload_n 0, 1), (115, .getfield 23, 3), (118, .bipush 20, 2), (120, .if_icmp .gt 7, 3), (123, .iconst 1, 1), (124, .goto 4, 3), (127, .iconst 0, 1), (128, .istore_n 1, 1), (129, .aload_n 0, 1), (130, .iload_n 1, 1), (131, .ifCond .eq 7, 3), (134, .iconst 2, 1), (135, .goto 4, 3), (138, .iconst 1, 1), (139, .putfield 36, 3), (142, .return_, 1)] = true := by decide +kernel
noncomputable def fX6_advanceWord_b139 (t0 : Option Nat) (t1 : Int32) (h : PH) : Option PH :=
  gs t0 (fun a7 =>
  gd (hK h a7 = 6) (lt (sI h 6 a7 3 t1) (fun h10 =>
  some (h10))))
set_option maxRecDepth 100000 in
theorem mX6_advanceWord_b139 {t0 : Option Nat} {t1 : Int32} {h : PH} {r : PH} (hf : fX6_advanceWord_b139 t0 t1 h = some r) : eqz h (hX r) (hV r) := by
  unfold fX6_advanceWord_b139 at hf
  have hle := eqz_rf h
  obtain ⟨a7, e8, hf⟩ := gs_some hf
  obtain ⟨hk9, hf⟩ := gd_some hf
  obtain ⟨h10, rfl, hf⟩ := lt_some hf
  have ee := Option.some.inj hf; subst ee; exact hle
set_option maxRecDepth 100000 in
theorem wX6_advanceWord_b139 {E : PE} {p : Program} {l : Launch} {e : Env} {s : State} {m : MethodId} {args : Array Value} {below : List Frame} {meth : Method} {c : Code} (X : Cx E p l e (rmv 0 0 0) s m args below meth c RX6 cX6_advanceWord 2 (none)) (hG : Gs E l) (hnm : meth.name = yX6_advanceWord.name) {t0 : Option Nat} {t1 : Int32} {h : PH} {r : PH} (hf : fX6_advanceWord_b139 t0 t1 h = some r)  : PW E p l e (rmv 0 0 0) s m args below meth c 2 0 0 (MQ below (QG E (fun v u => v = none ∧ u = r)) args s 0 0 (pA E)) h 139 [] [.int t1, va_rf t0] := by
  unfold fX6_advanceWord_b139 at hf
  obtain ⟨a7, e8, hf⟩ := gs_some hf
  first | subst e8 | (try rw [e8])
  obtain ⟨hk9, hf⟩ := gd_some hf
  refine p_putI X fl_X6_36 rfl (by decide) (fun q hq => by cases hq; rfl) rfl rfl (dcg dc_X6_advanceWord 73 rfl) hk9 ?_
  obtain ⟨h10, rfl, hf⟩ := lt_some hf
  have er := Option.some.inj hf
  subst er
  exact p_vret X rfl (dcg dc_X6_advanceWord 74 rfl) ⟨rfl, rfl⟩ (Nat.le_refl _) (Nat.le_refl _)
noncomputable def fX6_advanceWord_b128 (v0 : Nat) (t0 : Int32) (h : PH) : Option PH :=
  if (t0 = 0) then (fX6_advanceWord_b139 (some v0) (1 : Int32) h) else
  fX6_advanceWord_b139 (some v0) (2 : Int32) h
set_option maxRecDepth 100000 in
theorem mX6_advanceWord_b128 {v0 : Nat} {t0 : Int32} {h : PH} {r : PH} (hf : fX6_advanceWord_b128 v0 t0 h = some r) : eqz h (hX r) (hV r) := by
  unfold fX6_advanceWord_b128 at hf
  have hle := eqz_rf h
  rcases ite_or hf with ⟨q, hf⟩ | ⟨q, hf⟩
  · have hf := if_t q hf
    exact eqz_rt (mX6_advanceWord_b139 hf) hle
  · have hf := if_f q hf
    exact eqz_rt (mX6_advanceWord_b139 hf) hle
set_option maxRecDepth 100000 in
theorem wX6_advanceWord_b128 {E : PE} {p : Program} {l : Launch} {e : Env} {s : State} {m : MethodId} {args : Array Value} {below : List Frame} {meth : Method} {c : Code} (X : Cx E p l e (rmv 0 0 0) s m args below meth c RX6 cX6_advanceWord 2 (none)) (hG : Gs E l) (hnm : meth.name = yX6_advanceWord.name) {v0 : Nat} {t0 : Int32} {h : PH} {r : PH} (hf : fX6_advanceWord_b128 v0 t0 h = some r)  : PW E p l e (rmv 0 0 0) s m args below meth c 2 0 0 (MQ below (QG E (fun v u => v = none ∧ u = r)) args s 0 0 (pA E)) h 128 [(0, some (.ref v0))] [.int t0] := by
  unfold fX6_advanceWord_b128 at hf
  refine p_istore_n X (dcg dc_X6_advanceWord 66 rfl) rfl (by decide) rfl ?_
  refine p_aload_n X (dcg dc_X6_advanceWord 67 rfl) rfl rfl ?_
  refine p_iload_n X (dcg dc_X6_advanceWord 68 rfl) rfl rfl ?_
  refine p_if_eq (tgt := 138) X (dcg dc_X6_advanceWord 69 rfl) (by decide) (fun q => ?_) (fun q => ?_)
  · have hf := if_t q hf
    refine p_iconst (v := 1) X (dcg dc_X6_advanceWord 72 rfl) (by decide) ?_
    refine p_pick [] ?_
    exact wX6_advanceWord_b139 X hG hnm hf 
  · have hf := if_f q hf
    refine p_iconst (v := 2) X (dcg dc_X6_advanceWord 70 rfl) (by decide) ?_
    refine p_goto (tgt := 139) X (dcg dc_X6_advanceWord 71 rfl) (by decide) ?_
    refine p_pick [] ?_
    exact wX6_advanceWord_b139 X hG hnm hf 
noncomputable def fX6_advanceWord_b127 (v0 : Nat) (h : PH) : Option PH :=
  fX6_advanceWord_b128 v0 (0 : Int32) h
set_option maxRecDepth 100000 in
theorem mX6_advanceWord_b127 {v0 : Nat} {h : PH} {r : PH} (hf : fX6_advanceWord_b127 v0 h = some r) : eqz h (hX r) (hV r) := by
  unfold fX6_advanceWord_b127 at hf
  have hle := eqz_rf h
  exact eqz_rt (mX6_advanceWord_b128 hf) hle
set_option maxRecDepth 100000 in
theorem wX6_advanceWord_b127 {E : PE} {p : Program} {l : Launch} {e : Env} {s : State} {m : MethodId} {args : Array Value} {below : List Frame} {meth : Method} {c : Code} (X : Cx E p l e (rmv 0 0 0) s m args below meth c RX6 cX6_advanceWord 2 (none)) (hG : Gs E l) (hnm : meth.name = yX6_advanceWord.name) {v0 : Nat} {h : PH} {r : PH} (hf : fX6_advanceWord_b127 v0 h = some r)  : PW E p l e (rmv 0 0 0) s m args below meth c 2 0 0 (MQ below (QG E (fun v u => v = none ∧ u = r)) args s 0 0 (pA E)) h 127 [(0, some (.ref v0))] [] := by
  unfold fX6_advanceWord_b127 at hf
  refine p_iconst (v := 0) X (dcg dc_X6_advanceWord 65 rfl) (by decide) ?_
  refine p_pick [0] ?_
  exact wX6_advanceWord_b128 X hG hnm hf 
noncomputable def fX6_advanceWord_b90 (v0 : Nat) (h : PH) : Option PH :=
  gd (hK h v0 = 6) (lt (sI h 6 v0 6 ((hI h 6 v0 6) + (1 : Int32))) (fun h6 =>
  if ((6 : Int32) < ((hI h6 6 v0 2) - (hI h6 6 v0 4))) then (fX6_advanceWord_b127 v0 h6) else
  if ((20 : Int32) < (hI h6 6 v0 6)) then (fX6_advanceWord_b127 v0 h6) else
  fX6_advanceWord_b128 v0 (1 : Int32) h6))
set_option maxRecDepth 100000 in
theorem mX6_advanceWord_b90 {v0 : Nat} {h : PH} {r : PH} (hf : fX6_advanceWord_b90 v0 h = some r) : eqz h (hX r) (hV r) := by
  unfold fX6_advanceWord_b90 at hf
  have hle := eqz_rf h
  obtain ⟨hk5, hf⟩ := gd_some hf
  obtain ⟨h6, rfl, hf⟩ := lt_some hf
  rcases ite_or hf with ⟨q, hf⟩ | ⟨q, hf⟩
  · have hf := if_t q hf
    exact eqz_rt (mX6_advanceWord_b127 hf) hle
  · have hf := if_f q hf
    rcases ite_or hf with ⟨q, hf⟩ | ⟨q, hf⟩
    · have hf := if_t q hf
      exact eqz_rt (mX6_advanceWord_b127 hf) hle
    · have hf := if_f q hf
      exact eqz_rt (mX6_advanceWord_b128 hf) hle
set_option maxRecDepth 100000 in
theorem wX6_advanceWord_b90 {E : PE} {p : Program} {l : Launch} {e : Env} {s : State} {m : MethodId} {args : Array Value} {below : List Frame} {meth : Method} {c : Code} (X : Cx E p l e (rmv 0 0 0) s m args below meth c RX6 cX6_advanceWord 2 (none)) (hG : Gs E l) (hnm : meth.name = yX6_advanceWord.name) {v0 : Nat} {h : PH} {r : PH} (hf : fX6_advanceWord_b90 v0 h = some r)  : PW E p l e (rmv 0 0 0) s m args below meth c 2 0 0 (MQ below (QG E (fun v u => v = none ∧ u = r)) args s 0 0 (pA E)) h 90 [(0, some (.ref v0))] [] := by
  unfold fX6_advanceWord_b90 at hf
  refine p_aload_n X (dcg dc_X6_advanceWord 46 rfl) rfl rfl ?_
  refine p_dup X (dcg dc_X6_advanceWord 47 rfl) rfl ?_
  obtain ⟨hk5, hf⟩ := gd_some hf
  refine p_getI X fl_X6_23 rfl (by decide) (dcg dc_X6_advanceWord 48 rfl) hk5 ?_
  refine p_iconst (v := 1) X (dcg dc_X6_advanceWord 49 rfl) (by decide) ?_
  refine p_iadd X (dcg dc_X6_advanceWord 50 rfl) ?_
  refine p_putI X fl_X6_23 rfl (by decide) (fun q hq => by cases hq; rfl) rfl rfl (dcg dc_X6_advanceWord 51 rfl) hk5 ?_
  obtain ⟨h6, rfl, hf⟩ := lt_some hf
  refine p_aload_n X (dcg dc_X6_advanceWord 52 rfl) rfl rfl ?_
  refine p_getI X fl_X6_19 rfl (by decide) (dcg dc_X6_advanceWord 53 rfl) hk5 ?_
  refine p_aload_n X (dcg dc_X6_advanceWord 54 rfl) rfl rfl ?_
  refine p_getI X fl_X6_49 rfl (by decide) (dcg dc_X6_advanceWord 55 rfl) hk5 ?_
  refine p_isub X (dcg dc_X6_advanceWord 56 rfl) ?_
  refine p_bipush (v := 6) X (dcg dc_X6_advanceWord 57 rfl) (by decide) ?_
  refine p_icmp_gt (tgt := 127) X (dcg dc_X6_advanceWord 58 rfl) (by decide) (fun q => ?_) (fun q => ?_)
  · have hf := if_t q hf
    refine p_pick [0] ?_
    exact wX6_advanceWord_b127 X hG hnm hf 
  · have hf := if_f q hf
    refine p_aload_n X (dcg dc_X6_advanceWord 59 rfl) rfl rfl ?_
    refine p_getI X fl_X6_23 rfl (by decide) (dcg dc_X6_advanceWord 60 rfl) hk5 ?_
    refine p_bipush (v := 20) X (dcg dc_X6_advanceWord 61 rfl) (by decide) ?_
    refine p_icmp_gt (tgt := 127) X (dcg dc_X6_advanceWord 62 rfl) (by decide) (fun q => ?_) (fun q => ?_)
    · have hf := if_t q hf
      refine p_pick [0] ?_
      exact wX6_advanceWord_b127 X hG hnm hf 
    · have hf := if_f q hf
      refine p_iconst (v := 1) X (dcg dc_X6_advanceWord 63 rfl) (by decide) ?_
      refine p_goto (tgt := 128) X (dcg dc_X6_advanceWord 64 rfl) (by decide) ?_
      refine p_pick [0] ?_
      exact wX6_advanceWord_b128 X hG hnm hf 
noncomputable def fX6_advanceWord_c0 (v0 : Nat) (h : PH) : Option ((PH) ⊕ PH) :=
  gd (hK h v0 = 6) (gs (hR h 6 v0 0) (fun a2 =>
  gd (hK h a2 = 7) (if ((hI h 7 a2 1) ≤ (hI h 6 v0 2)) then (mr (fX6_advanceWord_b90 v0 h)) else
  gs (hR h 6 v0 0) (fun a13 =>
  gd (hK h a13 = 7) (gs (hR h 7 a13 0) (fun a16 =>
  gd (hK h a16 = 20 ∧ inb (hI h 6 v0 2) (hN h a16)) (if ((hI h 20 a16 (Int32.toNatClampNeg (hI h 6 v0 2))) < (97 : Int32)) then (mr (fX6_advanceWord_b90 v0 h)) else
  gs (hR h 6 v0 0) (fun a22 =>
  gd (hK h a22 = 7) (gs (hR h 7 a22 0) (fun a25 =>
  gd (hK h a25 = 20 ∧ inb (hI h 6 v0 2) (hN h a25)) (if ((122 : Int32) < (hI h 20 a25 (Int32.toNatClampNeg (hI h 6 v0 2)))) then (mr (fX6_advanceWord_b90 v0 h)) else
  gs (hR h 6 v0 0) (fun a31 =>
  gd (hK h a31 = 7) (gs (hR h 7 a31 0) (fun a34 =>
  gd (hK h a34 = 20 ∧ inb (hI h 6 v0 2) (hN h a34)) (lt (sI h 6 v0 5 (((((hI h 6 v0 5) * (27 : Int32)) + (hI h 20 a34 (Int32.toNatClampNeg (hI h 6 v0 2)))) - (97 : Int32)) + (1 : Int32))) (fun h38 =>
  lt (sI h38 6 v0 2 ((hI h38 6 v0 2) + (1 : Int32))) (fun h39 =>
  some (.inl (h39)))))))))))))))))))
set_option maxRecDepth 100000 in
theorem mX6_advanceWord_c0 {v0 : Nat} {h : PH} {x : ((PH) ⊕ PH)} (hf : fX6_advanceWord_c0 v0 h = some x) : (∀ w9 : (PH), x = .inl w9 → eqz h (hX (w9)) (hV (w9))) ∧ (∀ w9 : PH, x = .inr w9 → eqz h (hX w9) (hV w9)) := by
  unfold fX6_advanceWord_c0 at hf
  have hle := eqz_rf h
  obtain ⟨hk1, hf⟩ := gd_some hf
  obtain ⟨a2, e3, hf⟩ := gs_some hf
  obtain ⟨hk4, hf⟩ := gd_some hf
  rcases ite_or hf with ⟨q, hf⟩ | ⟨q, hf⟩
  · have hf := if_t q hf
    obtain ⟨y11, hfm, rfl⟩ := mr_some hf; have hf := hfm; clear hfm
    have cf := mX6_advanceWord_b90 hf
    exact ⟨(fun z e => nomatch e), (fun z e => by cases e <;> exact eqz_rt cf hle)⟩
  · have hf := if_f q hf
    obtain ⟨a13, e14, hf⟩ := gs_some hf
    obtain ⟨hk15, hf⟩ := gd_some hf
    obtain ⟨a16, e17, hf⟩ := gs_some hf
    obtain ⟨⟨hk19, hb18⟩, hf⟩ := gd_some hf
    rcases ite_or hf with ⟨q, hf⟩ | ⟨q, hf⟩
    · have hf := if_t q hf
      obtain ⟨y20, hfm, rfl⟩ := mr_some hf; have hf := hfm; clear hfm
      have cf := mX6_advanceWord_b90 hf
      exact ⟨(fun z e => nomatch e), (fun z e => by cases e <;> exact eqz_rt cf hle)⟩
    · have hf := if_f q hf
      obtain ⟨a22, e23, hf⟩ := gs_some hf
      obtain ⟨hk24, hf⟩ := gd_some hf
      obtain ⟨a25, e26, hf⟩ := gs_some hf
      obtain ⟨⟨hk28, hb27⟩, hf⟩ := gd_some hf
      rcases ite_or hf with ⟨q, hf⟩ | ⟨q, hf⟩
      · have hf := if_t q hf
        obtain ⟨y29, hfm, rfl⟩ := mr_some hf; have hf := hfm; clear hfm
        have cf := mX6_advanceWord_b90 hf
        exact ⟨(fun z e => nomatch e), (fun z e => by cases e <;> exact eqz_rt cf hle)⟩
      · have hf := if_f q hf
        obtain ⟨a31, e32, hf⟩ := gs_some hf
        obtain ⟨hk33, hf⟩ := gd_some hf
        obtain ⟨a34, e35, hf⟩ := gs_some hf
        obtain ⟨⟨hk37, hb36⟩, hf⟩ := gd_some hf
        obtain ⟨h38, rfl, hf⟩ := lt_some hf
        obtain ⟨h39, rfl, hf⟩ := lt_some hf
        have ee := Option.some.inj hf; subst ee
        exact ⟨(fun z e => by have ee := Sum.inl.inj (e); subst ee; exact hle), (fun z e => nomatch e)⟩
set_option maxRecDepth 100000 in
theorem wX6_advanceWord_c0 {E : PE} {p : Program} {l : Launch} {e : Env} {s : State} {m : MethodId} {args : Array Value} {below : List Frame} {meth : Method} {c : Code} (X : Cx E p l e (rmv 0 0 0) s m args below meth c RX6 cX6_advanceWord 2 (none)) (hG : Gs E l) (hnm : meth.name = yX6_advanceWord.name) {v0 : Nat} {h : PH} {r : PH} {x : ((PH) ⊕ PH)} (hf : fX6_advanceWord_c0 v0 h = some x) (k0 : ∀ z : (PH), x = .inl z → PW E p l e (rmv 0 0 0) s m args below meth c 2 0 0 (MQ below (QG E (fun v u => v = none ∧ u = r)) args s 0 0 (pA E)) (z) 0 [(0, some (.ref v0))] []) (kf : ∀ z : PH, x = .inr z → z = r) : PW E p l e (rmv 0 0 0) s m args below meth c 2 0 0 (MQ below (QG E (fun v u => v = none ∧ u = r)) args s 0 0 (pA E)) h 0 [(0, some (.ref v0))] [] := by
  unfold fX6_advanceWord_c0 at hf
  refine p_aload_n X (dcg dc_X6_advanceWord 0 rfl) rfl rfl ?_
  obtain ⟨hk1, hf⟩ := gd_some hf
  refine p_getI X fl_X6_19 rfl (by decide) (dcg dc_X6_advanceWord 1 rfl) hk1 ?_
  refine p_aload_n X (dcg dc_X6_advanceWord 2 rfl) rfl rfl ?_
  refine p_getR X fl_X6_15 rfl (by decide) (dcg dc_X6_advanceWord 3 rfl) hk1 ?_
  obtain ⟨a2, e3, hf⟩ := gs_some hf
  first | subst e3 | (try rw [e3])
  obtain ⟨hk4, hf⟩ := gd_some hf
  refine p_getIn X fl_X6_96 rfl (by decide) (dcg dc_X6_advanceWord 4 rfl) hk4 ?_
  refine p_icmp_ge (tgt := 90) X (dcg dc_X6_advanceWord 5 rfl) (by decide) (fun q => ?_) (fun q => ?_)
  · have hf := if_t q hf
    obtain ⟨y11, hf, hy12⟩ := mr_some hf
    have hy12f := kf y11 hy12
    subst hy12f
    refine p_pick [0] ?_
    exact wX6_advanceWord_b90 X hG hnm hf 
  · have hf := if_f q hf
    refine p_aload_n X (dcg dc_X6_advanceWord 6 rfl) rfl rfl ?_
    refine p_getR X fl_X6_15 rfl (by decide) (dcg dc_X6_advanceWord 7 rfl) hk1 ?_
    obtain ⟨a13, e14, hf⟩ := gs_some hf
    first | subst e14 | (try rw [e14])
    obtain ⟨hk15, hf⟩ := gd_some hf
    refine p_getRn X fl_X6_99 rfl (by decide) (dcg dc_X6_advanceWord 8 rfl) hk15 ?_
    refine p_aload_n X (dcg dc_X6_advanceWord 9 rfl) rfl rfl ?_
    refine p_getI X fl_X6_19 rfl (by decide) (dcg dc_X6_advanceWord 10 rfl) hk1 ?_
    obtain ⟨a16, e17, hf⟩ := gs_some hf
    first | subst e17 | (try rw [e17])
    obtain ⟨⟨hk19, hb18⟩, hf⟩ := gd_some hf
    refine p_iald X (dcg dc_X6_advanceWord 11 rfl) hk19 (vp_of_inb hb18) ?_
    refine p_bipush (v := 97) X (dcg dc_X6_advanceWord 12 rfl) (by decide) ?_
    refine p_icmp_lt (tgt := 90) X (dcg dc_X6_advanceWord 13 rfl) (by decide) (fun q => ?_) (fun q => ?_)
    · have hf := if_t q hf
      obtain ⟨y20, hf, hy21⟩ := mr_some hf
      have hy21f := kf y20 hy21
      subst hy21f
      refine p_pick [0] ?_
      exact wX6_advanceWord_b90 X hG hnm hf 
    · have hf := if_f q hf
      refine p_aload_n X (dcg dc_X6_advanceWord 14 rfl) rfl rfl ?_
      refine p_getR X fl_X6_15 rfl (by decide) (dcg dc_X6_advanceWord 15 rfl) hk1 ?_
      obtain ⟨a22, e23, hf⟩ := gs_some hf
      first | subst e23 | (try rw [e23])
      obtain ⟨hk24, hf⟩ := gd_some hf
      refine p_getRn X fl_X6_99 rfl (by decide) (dcg dc_X6_advanceWord 16 rfl) hk24 ?_
      refine p_aload_n X (dcg dc_X6_advanceWord 17 rfl) rfl rfl ?_
      refine p_getI X fl_X6_19 rfl (by decide) (dcg dc_X6_advanceWord 18 rfl) hk1 ?_
      obtain ⟨a25, e26, hf⟩ := gs_some hf
      first | subst e26 | (try rw [e26])
      obtain ⟨⟨hk28, hb27⟩, hf⟩ := gd_some hf
      refine p_iald X (dcg dc_X6_advanceWord 19 rfl) hk28 (vp_of_inb hb27) ?_
      refine p_bipush (v := 122) X (dcg dc_X6_advanceWord 20 rfl) (by decide) ?_
      refine p_icmp_gt (tgt := 90) X (dcg dc_X6_advanceWord 21 rfl) (by decide) (fun q => ?_) (fun q => ?_)
      · have hf := if_t q hf
        obtain ⟨y29, hf, hy30⟩ := mr_some hf
        have hy30f := kf y29 hy30
        subst hy30f
        refine p_pick [0] ?_
        exact wX6_advanceWord_b90 X hG hnm hf 
      · have hf := if_f q hf
        refine p_aload_n X (dcg dc_X6_advanceWord 22 rfl) rfl rfl ?_
        refine p_aload_n X (dcg dc_X6_advanceWord 23 rfl) rfl rfl ?_
        refine p_getI X fl_X6_83 rfl (by decide) (dcg dc_X6_advanceWord 24 rfl) hk1 ?_
        refine p_bipush (v := 27) X (dcg dc_X6_advanceWord 25 rfl) (by decide) ?_
        refine p_imul X (dcg dc_X6_advanceWord 26 rfl) ?_
        refine p_aload_n X (dcg dc_X6_advanceWord 27 rfl) rfl rfl ?_
        refine p_getR X fl_X6_15 rfl (by decide) (dcg dc_X6_advanceWord 28 rfl) hk1 ?_
        obtain ⟨a31, e32, hf⟩ := gs_some hf
        first | subst e32 | (try rw [e32])
        obtain ⟨hk33, hf⟩ := gd_some hf
        refine p_getRn X fl_X6_99 rfl (by decide) (dcg dc_X6_advanceWord 29 rfl) hk33 ?_
        refine p_aload_n X (dcg dc_X6_advanceWord 30 rfl) rfl rfl ?_
        refine p_getI X fl_X6_19 rfl (by decide) (dcg dc_X6_advanceWord 31 rfl) hk1 ?_
        obtain ⟨a34, e35, hf⟩ := gs_some hf
        first | subst e35 | (try rw [e35])
        obtain ⟨⟨hk37, hb36⟩, hf⟩ := gd_some hf
        refine p_iald X (dcg dc_X6_advanceWord 32 rfl) hk37 (vp_of_inb hb36) ?_
        refine p_iadd X (dcg dc_X6_advanceWord 33 rfl) ?_
        refine p_bipush (v := 97) X (dcg dc_X6_advanceWord 34 rfl) (by decide) ?_
        refine p_isub X (dcg dc_X6_advanceWord 35 rfl) ?_
        refine p_iconst (v := 1) X (dcg dc_X6_advanceWord 36 rfl) (by decide) ?_
        refine p_iadd X (dcg dc_X6_advanceWord 37 rfl) ?_
        refine p_putI X fl_X6_83 rfl (by decide) (fun q hq => by cases hq; rfl) rfl rfl (dcg dc_X6_advanceWord 38 rfl) hk1 ?_
        obtain ⟨h38, rfl, hf⟩ := lt_some hf
        refine p_aload_n X (dcg dc_X6_advanceWord 39 rfl) rfl rfl ?_
        refine p_dup X (dcg dc_X6_advanceWord 40 rfl) rfl ?_
        refine p_getI X fl_X6_19 rfl (by decide) (dcg dc_X6_advanceWord 41 rfl) hk1 ?_
        refine p_iconst (v := 1) X (dcg dc_X6_advanceWord 42 rfl) (by decide) ?_
        refine p_iadd X (dcg dc_X6_advanceWord 43 rfl) ?_
        refine p_putI X fl_X6_19 rfl (by decide) (fun q hq => by cases hq; rfl) rfl rfl (dcg dc_X6_advanceWord 44 rfl) hk1 ?_
        obtain ⟨h39, rfl, hf⟩ := lt_some hf
        refine p_goto (tgt := 0) X (dcg dc_X6_advanceWord 45 rfl) (by decide) ?_
        refine p_pick [0] ?_
        exact k0 _ (Option.some.inj hf).symm
noncomputable def fX6_advanceWord_l0 (v0 : Nat) (h : PH) : Option PH := wh (fun z : (PH) => fX6_advanceWord_c0 v0 (z)) (h)
set_option maxRecDepth 100000 in
theorem mX6_advanceWord_l0 {v0 : Nat} {h : PH} {r : PH} (hf : fX6_advanceWord_l0 v0 h = some r) : eqz h (hX r) (hV r) := by
  unfold fX6_advanceWord_l0 at hf
  refine wh_ind (P := fun z => eqz (z) (hX r) (hV r)) (fun z x0 hs i1 i2 => ?_) _ hf
  obtain ⟨c0, cf⟩ := mX6_advanceWord_c0 (v0 := v0) (h := z) hs
  rcases hxx : x0 with zz | zz
  · exact eqz_tr (c0 zz hxx) (i1 zz hxx)
  · have ee := i2 zz hxx; subst ee; exact cf zz hxx
set_option maxRecDepth 100000 in
theorem wX6_advanceWord_l0 {E : PE} {p : Program} {l : Launch} {e : Env} {s : State} {m : MethodId} {args : Array Value} {below : List Frame} {meth : Method} {c : Code} (X : Cx E p l e (rmv 0 0 0) s m args below meth c RX6 cX6_advanceWord 2 (none)) (hG : Gs E l) (hnm : meth.name = yX6_advanceWord.name) {v0 : Nat} {h : PH} {r : PH} (hf : fX6_advanceWord_l0 v0 h = some r)  : PW E p l e (rmv 0 0 0) s m args below meth c 2 0 0 (MQ below (QG E (fun v u => v = none ∧ u = r)) args s 0 0 (pA E)) h 0 [(0, some (.ref v0))] [] := by
  unfold fX6_advanceWord_l0 at hf
  refine wh_ind (P := fun z => PW E p l e (rmv 0 0 0) s m args below meth c 2 0 0 (MQ below (QG E (fun v u => v = none ∧ u = r)) args s 0 0 (pA E)) (z) 0 [(0, some (.ref v0))] []) (fun z x0 hs i1 i2 => ?_) _ hf
  exact wX6_advanceWord_c0 (r := r) (v0 := v0) (h := z) X hG hnm hs i1  i2
noncomputable def fX6_advanceWord (v0 : Nat) (h : PH) : Option PH :=
  fX6_advanceWord_l0 v0 h
set_option maxRecDepth 100000 in
theorem mX6_advanceWord {v0 : Nat} {h : PH} {r : PH} (hf : fX6_advanceWord v0 h = some r) : eqz h (hX r) (hV r) := by
  unfold fX6_advanceWord at hf
  have hle := eqz_rf h
  exact eqz_rt (mX6_advanceWord_l0 hf) hle
set_option maxRecDepth 100000 in
theorem wX6_advanceWord {E : PE} {l : Launch} (hG : Gs E l) {v0 : Nat} {h : PH} {r : PH} (hf : fX6_advanceWord v0 h = some r) : Ct E l 0 0 0 yX6_advanceWord cX6_advanceWord 2 (none) [.ref v0] h (fun v u => v = none ∧ u = r) := by
  refine ct_of hG (by decide) (Nat.le_of_ble_eq_true rfl) ?_
  intro p e s m args below meth c X hnm
  show PW E p l e _ s m args below meth c _ 0 0 _ h 0 [(0, some (.ref v0))] []
  unfold fX6_advanceWord at hf
  refine p_pick [0] ?_
  exact wX6_advanceWord_l0 X hG hnm hf
theorem dc_X6_advanceNumber : decs cX6_advanceNumber [(0, .aload_n 0, 1), (1, .getfield 19, 3), (4, .aload_n 0, 1), (5, .getfield 15, 3), (8, .getfield 96, 3), (11, .if_icmp .ge 77, 3), (14, .aload_n 0, 1), (15, .getfield 15, 3), (18, .getfield 99, 3), (21, .aload_n 0, 1), (22, .getfield 19, 3), (25, .iaload, 1), (26, .bipush 48, 2), (28, .if_icmp .lt 60, 3), (31, .aload_n 0, 1), (32, .getfield 15, 3), (35, .getfield 99, 3), (38, .aload_n 0, 1), (39, .getfield 19, 3), (42, .iaload, 1), (43, .bipush 57, 2), (45, .if_icmp .gt 43, 3), (48, .aload_n 0, 1), (49, .aload_n 0, 1), (50, .getfield 83, 3), (53, .bipush 10, 2), (55, .imul, 1), (56, .aload_n 0, 1), (57, .getfield 15, 3), (60, .getfield 99, 3), (63, .aload_n 0, 1), (64, .getfield 19, 3), (67, .iaload, 1), (68, .iadd, 1), (69, .bipush 48, 2), (71, .isub, 1), (72, .putfield 83, 3), (75, .aload_n 0, 1), (76, .dup, 1), (77, .getfield 19, 3), (80, .iconst 1, 1), (81, .iadd, 1), (82, .putfield 19, 3), (85, .goto (-85), 3), (88, .aload_n 0, 1), (89, .getfield 19, 3), (92, .aload_n 0, 1), (93, .getfield 49, 3), (96, .isub, 1), (97, .iconst 2, 1), (98, .if_icmp .gt 24, 3), (101, .aload_n 0, 1), (102, .getfield 83, 3), (105, .iconst 1, 1), (106, .if_icmp .lt 16, 3), (109, .aload_n 0, 1), (110, .getfield 83, 3), (113, .bipush 40, 2), (115, .if_icmp .gt 7, 3), (118, .iconst 1, 1), (119, .goto 4, 3), (122, .iconst 0, 1), (123, .istore_n 1, 1), (124, .aload_n 0, 1), (125, .iload_n 1, 1), (126, .ifCond .eq 7, 3), (129, .iconst 3, 1), (130, .goto 4, 3), (133, .iconst 1, 1), (134, .putfield 36, 3), (137, .return_, 1)] = true := by decide +kernel
noncomputable def fX6_advanceNumber_b134 (t0 : Option Nat) (t1 : Int32) (h : PH) : Option PH :=
  gs t0 (fun a6 =>
  gd (hK h a6 = 6) (lt (sI h 6 a6 3 t1) (fun h9 =>
  some (h9))))
set_option maxRecDepth 100000 in
theorem mX6_advanceNumber_b134 {t0 : Option Nat} {t1 : Int32} {h : PH} {r : PH} (hf : fX6_advanceNumber_b134 t0 t1 h = some r) : eqz h (hX r) (hV r) := by
  unfold fX6_advanceNumber_b134 at hf
  have hle := eqz_rf h
  obtain ⟨a6, e7, hf⟩ := gs_some hf
  obtain ⟨hk8, hf⟩ := gd_some hf
  obtain ⟨h9, rfl, hf⟩ := lt_some hf
  have ee := Option.some.inj hf; subst ee; exact hle
set_option maxRecDepth 100000 in
theorem wX6_advanceNumber_b134 {E : PE} {p : Program} {l : Launch} {e : Env} {s : State} {m : MethodId} {args : Array Value} {below : List Frame} {meth : Method} {c : Code} (X : Cx E p l e (rmv 0 0 0) s m args below meth c RX6 cX6_advanceNumber 2 (none)) (hG : Gs E l) (hnm : meth.name = yX6_advanceNumber.name) {t0 : Option Nat} {t1 : Int32} {h : PH} {r : PH} (hf : fX6_advanceNumber_b134 t0 t1 h = some r)  : PW E p l e (rmv 0 0 0) s m args below meth c 2 0 0 (MQ below (QG E (fun v u => v = none ∧ u = r)) args s 0 0 (pA E)) h 134 [] [.int t1, va_rf t0] := by
  unfold fX6_advanceNumber_b134 at hf
  obtain ⟨a6, e7, hf⟩ := gs_some hf
  first | subst e7 | (try rw [e7])
  obtain ⟨hk8, hf⟩ := gd_some hf
  refine p_putI X fl_X6_36 rfl (by decide) (fun q hq => by cases hq; rfl) rfl rfl (dcg dc_X6_advanceNumber 69 rfl) hk8 ?_
  obtain ⟨h9, rfl, hf⟩ := lt_some hf
  have er := Option.some.inj hf
  subst er
  exact p_vret X rfl (dcg dc_X6_advanceNumber 70 rfl) ⟨rfl, rfl⟩ (Nat.le_refl _) (Nat.le_refl _)
noncomputable def fX6_advanceNumber_b123 (v0 : Nat) (t0 : Int32) (h : PH) : Option PH :=
  if (t0 = 0) then (fX6_advanceNumber_b134 (some v0) (1 : Int32) h) else
  fX6_advanceNumber_b134 (some v0) (3 : Int32) h
set_option maxRecDepth 100000 in
theorem mX6_advanceNumber_b123 {v0 : Nat} {t0 : Int32} {h : PH} {r : PH} (hf : fX6_advanceNumber_b123 v0 t0 h = some r) : eqz h (hX r) (hV r) := by
  unfold fX6_advanceNumber_b123 at hf
  have hle := eqz_rf h
  rcases ite_or hf with ⟨q, hf⟩ | ⟨q, hf⟩
  · have hf := if_t q hf
    exact eqz_rt (mX6_advanceNumber_b134 hf) hle
  · have hf := if_f q hf
    exact eqz_rt (mX6_advanceNumber_b134 hf) hle
set_option maxRecDepth 100000 in
theorem wX6_advanceNumber_b123 {E : PE} {p : Program} {l : Launch} {e : Env} {s : State} {m : MethodId} {args : Array Value} {below : List Frame} {meth : Method} {c : Code} (X : Cx E p l e (rmv 0 0 0) s m args below meth c RX6 cX6_advanceNumber 2 (none)) (hG : Gs E l) (hnm : meth.name = yX6_advanceNumber.name) {v0 : Nat} {t0 : Int32} {h : PH} {r : PH} (hf : fX6_advanceNumber_b123 v0 t0 h = some r)  : PW E p l e (rmv 0 0 0) s m args below meth c 2 0 0 (MQ below (QG E (fun v u => v = none ∧ u = r)) args s 0 0 (pA E)) h 123 [(0, some (.ref v0))] [.int t0] := by
  unfold fX6_advanceNumber_b123 at hf
  refine p_istore_n X (dcg dc_X6_advanceNumber 62 rfl) rfl (by decide) rfl ?_
  refine p_aload_n X (dcg dc_X6_advanceNumber 63 rfl) rfl rfl ?_
  refine p_iload_n X (dcg dc_X6_advanceNumber 64 rfl) rfl rfl ?_
  refine p_if_eq (tgt := 133) X (dcg dc_X6_advanceNumber 65 rfl) (by decide) (fun q => ?_) (fun q => ?_)
  · have hf := if_t q hf
    refine p_iconst (v := 1) X (dcg dc_X6_advanceNumber 68 rfl) (by decide) ?_
    refine p_pick [] ?_
    exact wX6_advanceNumber_b134 X hG hnm hf 
  · have hf := if_f q hf
    refine p_iconst (v := 3) X (dcg dc_X6_advanceNumber 66 rfl) (by decide) ?_
    refine p_goto (tgt := 134) X (dcg dc_X6_advanceNumber 67 rfl) (by decide) ?_
    refine p_pick [] ?_
    exact wX6_advanceNumber_b134 X hG hnm hf 
noncomputable def fX6_advanceNumber_b122 (v0 : Nat) (h : PH) : Option PH :=
  fX6_advanceNumber_b123 v0 (0 : Int32) h
set_option maxRecDepth 100000 in
theorem mX6_advanceNumber_b122 {v0 : Nat} {h : PH} {r : PH} (hf : fX6_advanceNumber_b122 v0 h = some r) : eqz h (hX r) (hV r) := by
  unfold fX6_advanceNumber_b122 at hf
  have hle := eqz_rf h
  exact eqz_rt (mX6_advanceNumber_b123 hf) hle
set_option maxRecDepth 100000 in
theorem wX6_advanceNumber_b122 {E : PE} {p : Program} {l : Launch} {e : Env} {s : State} {m : MethodId} {args : Array Value} {below : List Frame} {meth : Method} {c : Code} (X : Cx E p l e (rmv 0 0 0) s m args below meth c RX6 cX6_advanceNumber 2 (none)) (hG : Gs E l) (hnm : meth.name = yX6_advanceNumber.name) {v0 : Nat} {h : PH} {r : PH} (hf : fX6_advanceNumber_b122 v0 h = some r)  : PW E p l e (rmv 0 0 0) s m args below meth c 2 0 0 (MQ below (QG E (fun v u => v = none ∧ u = r)) args s 0 0 (pA E)) h 122 [(0, some (.ref v0))] [] := by
  unfold fX6_advanceNumber_b122 at hf
  refine p_iconst (v := 0) X (dcg dc_X6_advanceNumber 61 rfl) (by decide) ?_
  refine p_pick [0] ?_
  exact wX6_advanceNumber_b123 X hG hnm hf 
noncomputable def fX6_advanceNumber_b88 (v0 : Nat) (h : PH) : Option PH :=
  gd (hK h v0 = 6) (if ((2 : Int32) < ((hI h 6 v0 2) - (hI h 6 v0 4))) then (fX6_advanceNumber_b122 v0 h) else
  if ((hI h 6 v0 5) < (1 : Int32)) then (fX6_advanceNumber_b122 v0 h) else
  if ((40 : Int32) < (hI h 6 v0 5)) then (fX6_advanceNumber_b122 v0 h) else
  fX6_advanceNumber_b123 v0 (1 : Int32) h)
set_option maxRecDepth 100000 in
theorem mX6_advanceNumber_b88 {v0 : Nat} {h : PH} {r : PH} (hf : fX6_advanceNumber_b88 v0 h = some r) : eqz h (hX r) (hV r) := by
  unfold fX6_advanceNumber_b88 at hf
  have hle := eqz_rf h
  obtain ⟨hk5, hf⟩ := gd_some hf
  rcases ite_or hf with ⟨q, hf⟩ | ⟨q, hf⟩
  · have hf := if_t q hf
    exact eqz_rt (mX6_advanceNumber_b122 hf) hle
  · have hf := if_f q hf
    rcases ite_or hf with ⟨q, hf⟩ | ⟨q, hf⟩
    · have hf := if_t q hf
      exact eqz_rt (mX6_advanceNumber_b122 hf) hle
    · have hf := if_f q hf
      rcases ite_or hf with ⟨q, hf⟩ | ⟨q, hf⟩
      · have hf := if_t q hf
        exact eqz_rt (mX6_advanceNumber_b122 hf) hle
      · have hf := if_f q hf
        exact eqz_rt (mX6_advanceNumber_b123 hf) hle
set_option maxRecDepth 100000 in
theorem wX6_advanceNumber_b88 {E : PE} {p : Program} {l : Launch} {e : Env} {s : State} {m : MethodId} {args : Array Value} {below : List Frame} {meth : Method} {c : Code} (X : Cx E p l e (rmv 0 0 0) s m args below meth c RX6 cX6_advanceNumber 2 (none)) (hG : Gs E l) (hnm : meth.name = yX6_advanceNumber.name) {v0 : Nat} {h : PH} {r : PH} (hf : fX6_advanceNumber_b88 v0 h = some r)  : PW E p l e (rmv 0 0 0) s m args below meth c 2 0 0 (MQ below (QG E (fun v u => v = none ∧ u = r)) args s 0 0 (pA E)) h 88 [(0, some (.ref v0))] [] := by
  unfold fX6_advanceNumber_b88 at hf
  refine p_aload_n X (dcg dc_X6_advanceNumber 44 rfl) rfl rfl ?_
  obtain ⟨hk5, hf⟩ := gd_some hf
  refine p_getI X fl_X6_19 rfl (by decide) (dcg dc_X6_advanceNumber 45 rfl) hk5 ?_
  refine p_aload_n X (dcg dc_X6_advanceNumber 46 rfl) rfl rfl ?_
  refine p_getI X fl_X6_49 rfl (by decide) (dcg dc_X6_advanceNumber 47 rfl) hk5 ?_
  refine p_isub X (dcg dc_X6_advanceNumber 48 rfl) ?_
  refine p_iconst (v := 2) X (dcg dc_X6_advanceNumber 49 rfl) (by decide) ?_
  refine p_icmp_gt (tgt := 122) X (dcg dc_X6_advanceNumber 50 rfl) (by decide) (fun q => ?_) (fun q => ?_)
  · have hf := if_t q hf
    refine p_pick [0] ?_
    exact wX6_advanceNumber_b122 X hG hnm hf 
  · have hf := if_f q hf
    refine p_aload_n X (dcg dc_X6_advanceNumber 51 rfl) rfl rfl ?_
    refine p_getI X fl_X6_83 rfl (by decide) (dcg dc_X6_advanceNumber 52 rfl) hk5 ?_
    refine p_iconst (v := 1) X (dcg dc_X6_advanceNumber 53 rfl) (by decide) ?_
    refine p_icmp_lt (tgt := 122) X (dcg dc_X6_advanceNumber 54 rfl) (by decide) (fun q => ?_) (fun q => ?_)
    · have hf := if_t q hf
      refine p_pick [0] ?_
      exact wX6_advanceNumber_b122 X hG hnm hf 
    · have hf := if_f q hf
      refine p_aload_n X (dcg dc_X6_advanceNumber 55 rfl) rfl rfl ?_
      refine p_getI X fl_X6_83 rfl (by decide) (dcg dc_X6_advanceNumber 56 rfl) hk5 ?_
      refine p_bipush (v := 40) X (dcg dc_X6_advanceNumber 57 rfl) (by decide) ?_
      refine p_icmp_gt (tgt := 122) X (dcg dc_X6_advanceNumber 58 rfl) (by decide) (fun q => ?_) (fun q => ?_)
      · have hf := if_t q hf
        refine p_pick [0] ?_
        exact wX6_advanceNumber_b122 X hG hnm hf 
      · have hf := if_f q hf
        refine p_iconst (v := 1) X (dcg dc_X6_advanceNumber 59 rfl) (by decide) ?_
        refine p_goto (tgt := 123) X (dcg dc_X6_advanceNumber 60 rfl) (by decide) ?_
        refine p_pick [0] ?_
        exact wX6_advanceNumber_b123 X hG hnm hf 
noncomputable def fX6_advanceNumber_c0 (v0 : Nat) (h : PH) : Option ((PH) ⊕ PH) :=
  gd (hK h v0 = 6) (gs (hR h 6 v0 0) (fun a2 =>
  gd (hK h a2 = 7) (if ((hI h 7 a2 1) ≤ (hI h 6 v0 2)) then (mr (fX6_advanceNumber_b88 v0 h)) else
  gs (hR h 6 v0 0) (fun a12 =>
  gd (hK h a12 = 7) (gs (hR h 7 a12 0) (fun a15 =>
  gd (hK h a15 = 20 ∧ inb (hI h 6 v0 2) (hN h a15)) (if ((hI h 20 a15 (Int32.toNatClampNeg (hI h 6 v0 2))) < (48 : Int32)) then (mr (fX6_advanceNumber_b88 v0 h)) else
  gs (hR h 6 v0 0) (fun a21 =>
  gd (hK h a21 = 7) (gs (hR h 7 a21 0) (fun a24 =>
  gd (hK h a24 = 20 ∧ inb (hI h 6 v0 2) (hN h a24)) (if ((57 : Int32) < (hI h 20 a24 (Int32.toNatClampNeg (hI h 6 v0 2)))) then (mr (fX6_advanceNumber_b88 v0 h)) else
  gs (hR h 6 v0 0) (fun a30 =>
  gd (hK h a30 = 7) (gs (hR h 7 a30 0) (fun a33 =>
  gd (hK h a33 = 20 ∧ inb (hI h 6 v0 2) (hN h a33)) (lt (sI h 6 v0 5 ((((hI h 6 v0 5) * (10 : Int32)) + (hI h 20 a33 (Int32.toNatClampNeg (hI h 6 v0 2)))) - (48 : Int32))) (fun h37 =>
  lt (sI h37 6 v0 2 ((hI h37 6 v0 2) + (1 : Int32))) (fun h38 =>
  some (.inl (h38)))))))))))))))))))
set_option maxRecDepth 100000 in
theorem mX6_advanceNumber_c0 {v0 : Nat} {h : PH} {x : ((PH) ⊕ PH)} (hf : fX6_advanceNumber_c0 v0 h = some x) : (∀ w9 : (PH), x = .inl w9 → eqz h (hX (w9)) (hV (w9))) ∧ (∀ w9 : PH, x = .inr w9 → eqz h (hX w9) (hV w9)) := by
  unfold fX6_advanceNumber_c0 at hf
  have hle := eqz_rf h
  obtain ⟨hk1, hf⟩ := gd_some hf
  obtain ⟨a2, e3, hf⟩ := gs_some hf
  obtain ⟨hk4, hf⟩ := gd_some hf
  rcases ite_or hf with ⟨q, hf⟩ | ⟨q, hf⟩
  · have hf := if_t q hf
    obtain ⟨y10, hfm, rfl⟩ := mr_some hf; have hf := hfm; clear hfm
    have cf := mX6_advanceNumber_b88 hf
    exact ⟨(fun z e => nomatch e), (fun z e => by cases e <;> exact eqz_rt cf hle)⟩
  · have hf := if_f q hf
    obtain ⟨a12, e13, hf⟩ := gs_some hf
    obtain ⟨hk14, hf⟩ := gd_some hf
    obtain ⟨a15, e16, hf⟩ := gs_some hf
    obtain ⟨⟨hk18, hb17⟩, hf⟩ := gd_some hf
    rcases ite_or hf with ⟨q, hf⟩ | ⟨q, hf⟩
    · have hf := if_t q hf
      obtain ⟨y19, hfm, rfl⟩ := mr_some hf; have hf := hfm; clear hfm
      have cf := mX6_advanceNumber_b88 hf
      exact ⟨(fun z e => nomatch e), (fun z e => by cases e <;> exact eqz_rt cf hle)⟩
    · have hf := if_f q hf
      obtain ⟨a21, e22, hf⟩ := gs_some hf
      obtain ⟨hk23, hf⟩ := gd_some hf
      obtain ⟨a24, e25, hf⟩ := gs_some hf
      obtain ⟨⟨hk27, hb26⟩, hf⟩ := gd_some hf
      rcases ite_or hf with ⟨q, hf⟩ | ⟨q, hf⟩
      · have hf := if_t q hf
        obtain ⟨y28, hfm, rfl⟩ := mr_some hf; have hf := hfm; clear hfm
        have cf := mX6_advanceNumber_b88 hf
        exact ⟨(fun z e => nomatch e), (fun z e => by cases e <;> exact eqz_rt cf hle)⟩
      · have hf := if_f q hf
        obtain ⟨a30, e31, hf⟩ := gs_some hf
        obtain ⟨hk32, hf⟩ := gd_some hf
        obtain ⟨a33, e34, hf⟩ := gs_some hf
        obtain ⟨⟨hk36, hb35⟩, hf⟩ := gd_some hf
        obtain ⟨h37, rfl, hf⟩ := lt_some hf
        obtain ⟨h38, rfl, hf⟩ := lt_some hf
        have ee := Option.some.inj hf; subst ee
        exact ⟨(fun z e => by have ee := Sum.inl.inj (e); subst ee; exact hle), (fun z e => nomatch e)⟩
set_option maxRecDepth 100000 in
theorem wX6_advanceNumber_c0 {E : PE} {p : Program} {l : Launch} {e : Env} {s : State} {m : MethodId} {args : Array Value} {below : List Frame} {meth : Method} {c : Code} (X : Cx E p l e (rmv 0 0 0) s m args below meth c RX6 cX6_advanceNumber 2 (none)) (hG : Gs E l) (hnm : meth.name = yX6_advanceNumber.name) {v0 : Nat} {h : PH} {r : PH} {x : ((PH) ⊕ PH)} (hf : fX6_advanceNumber_c0 v0 h = some x) (k0 : ∀ z : (PH), x = .inl z → PW E p l e (rmv 0 0 0) s m args below meth c 2 0 0 (MQ below (QG E (fun v u => v = none ∧ u = r)) args s 0 0 (pA E)) (z) 0 [(0, some (.ref v0))] []) (kf : ∀ z : PH, x = .inr z → z = r) : PW E p l e (rmv 0 0 0) s m args below meth c 2 0 0 (MQ below (QG E (fun v u => v = none ∧ u = r)) args s 0 0 (pA E)) h 0 [(0, some (.ref v0))] [] := by
  unfold fX6_advanceNumber_c0 at hf
  refine p_aload_n X (dcg dc_X6_advanceNumber 0 rfl) rfl rfl ?_
  obtain ⟨hk1, hf⟩ := gd_some hf
  refine p_getI X fl_X6_19 rfl (by decide) (dcg dc_X6_advanceNumber 1 rfl) hk1 ?_
  refine p_aload_n X (dcg dc_X6_advanceNumber 2 rfl) rfl rfl ?_
  refine p_getR X fl_X6_15 rfl (by decide) (dcg dc_X6_advanceNumber 3 rfl) hk1 ?_
  obtain ⟨a2, e3, hf⟩ := gs_some hf
  first | subst e3 | (try rw [e3])
  obtain ⟨hk4, hf⟩ := gd_some hf
  refine p_getIn X fl_X6_96 rfl (by decide) (dcg dc_X6_advanceNumber 4 rfl) hk4 ?_
  refine p_icmp_ge (tgt := 88) X (dcg dc_X6_advanceNumber 5 rfl) (by decide) (fun q => ?_) (fun q => ?_)
  · have hf := if_t q hf
    obtain ⟨y10, hf, hy11⟩ := mr_some hf
    have hy11f := kf y10 hy11
    subst hy11f
    refine p_pick [0] ?_
    exact wX6_advanceNumber_b88 X hG hnm hf 
  · have hf := if_f q hf
    refine p_aload_n X (dcg dc_X6_advanceNumber 6 rfl) rfl rfl ?_
    refine p_getR X fl_X6_15 rfl (by decide) (dcg dc_X6_advanceNumber 7 rfl) hk1 ?_
    obtain ⟨a12, e13, hf⟩ := gs_some hf
    first | subst e13 | (try rw [e13])
    obtain ⟨hk14, hf⟩ := gd_some hf
    refine p_getRn X fl_X6_99 rfl (by decide) (dcg dc_X6_advanceNumber 8 rfl) hk14 ?_
    refine p_aload_n X (dcg dc_X6_advanceNumber 9 rfl) rfl rfl ?_
    refine p_getI X fl_X6_19 rfl (by decide) (dcg dc_X6_advanceNumber 10 rfl) hk1 ?_
    obtain ⟨a15, e16, hf⟩ := gs_some hf
    first | subst e16 | (try rw [e16])
    obtain ⟨⟨hk18, hb17⟩, hf⟩ := gd_some hf
    refine p_iald X (dcg dc_X6_advanceNumber 11 rfl) hk18 (vp_of_inb hb17) ?_
    refine p_bipush (v := 48) X (dcg dc_X6_advanceNumber 12 rfl) (by decide) ?_
    refine p_icmp_lt (tgt := 88) X (dcg dc_X6_advanceNumber 13 rfl) (by decide) (fun q => ?_) (fun q => ?_)
    · have hf := if_t q hf
      obtain ⟨y19, hf, hy20⟩ := mr_some hf
      have hy20f := kf y19 hy20
      subst hy20f
      refine p_pick [0] ?_
      exact wX6_advanceNumber_b88 X hG hnm hf 
    · have hf := if_f q hf
      refine p_aload_n X (dcg dc_X6_advanceNumber 14 rfl) rfl rfl ?_
      refine p_getR X fl_X6_15 rfl (by decide) (dcg dc_X6_advanceNumber 15 rfl) hk1 ?_
      obtain ⟨a21, e22, hf⟩ := gs_some hf
      first | subst e22 | (try rw [e22])
      obtain ⟨hk23, hf⟩ := gd_some hf
      refine p_getRn X fl_X6_99 rfl (by decide) (dcg dc_X6_advanceNumber 16 rfl) hk23 ?_
      refine p_aload_n X (dcg dc_X6_advanceNumber 17 rfl) rfl rfl ?_
      refine p_getI X fl_X6_19 rfl (by decide) (dcg dc_X6_advanceNumber 18 rfl) hk1 ?_
      obtain ⟨a24, e25, hf⟩ := gs_some hf
      first | subst e25 | (try rw [e25])
      obtain ⟨⟨hk27, hb26⟩, hf⟩ := gd_some hf
      refine p_iald X (dcg dc_X6_advanceNumber 19 rfl) hk27 (vp_of_inb hb26) ?_
      refine p_bipush (v := 57) X (dcg dc_X6_advanceNumber 20 rfl) (by decide) ?_
      refine p_icmp_gt (tgt := 88) X (dcg dc_X6_advanceNumber 21 rfl) (by decide) (fun q => ?_) (fun q => ?_)
      · have hf := if_t q hf
        obtain ⟨y28, hf, hy29⟩ := mr_some hf
        have hy29f := kf y28 hy29
        subst hy29f
        refine p_pick [0] ?_
        exact wX6_advanceNumber_b88 X hG hnm hf 
      · have hf := if_f q hf
        refine p_aload_n X (dcg dc_X6_advanceNumber 22 rfl) rfl rfl ?_
        refine p_aload_n X (dcg dc_X6_advanceNumber 23 rfl) rfl rfl ?_
        refine p_getI X fl_X6_83 rfl (by decide) (dcg dc_X6_advanceNumber 24 rfl) hk1 ?_
        refine p_bipush (v := 10) X (dcg dc_X6_advanceNumber 25 rfl) (by decide) ?_
        refine p_imul X (dcg dc_X6_advanceNumber 26 rfl) ?_
        refine p_aload_n X (dcg dc_X6_advanceNumber 27 rfl) rfl rfl ?_
        refine p_getR X fl_X6_15 rfl (by decide) (dcg dc_X6_advanceNumber 28 rfl) hk1 ?_
        obtain ⟨a30, e31, hf⟩ := gs_some hf
        first | subst e31 | (try rw [e31])
        obtain ⟨hk32, hf⟩ := gd_some hf
        refine p_getRn X fl_X6_99 rfl (by decide) (dcg dc_X6_advanceNumber 29 rfl) hk32 ?_
        refine p_aload_n X (dcg dc_X6_advanceNumber 30 rfl) rfl rfl ?_
        refine p_getI X fl_X6_19 rfl (by decide) (dcg dc_X6_advanceNumber 31 rfl) hk1 ?_
        obtain ⟨a33, e34, hf⟩ := gs_some hf
        first | subst e34 | (try rw [e34])
        obtain ⟨⟨hk36, hb35⟩, hf⟩ := gd_some hf
        refine p_iald X (dcg dc_X6_advanceNumber 32 rfl) hk36 (vp_of_inb hb35) ?_
        refine p_iadd X (dcg dc_X6_advanceNumber 33 rfl) ?_
        refine p_bipush (v := 48) X (dcg dc_X6_advanceNumber 34 rfl) (by decide) ?_
        refine p_isub X (dcg dc_X6_advanceNumber 35 rfl) ?_
        refine p_putI X fl_X6_83 rfl (by decide) (fun q hq => by cases hq; rfl) rfl rfl (dcg dc_X6_advanceNumber 36 rfl) hk1 ?_
        obtain ⟨h37, rfl, hf⟩ := lt_some hf
        refine p_aload_n X (dcg dc_X6_advanceNumber 37 rfl) rfl rfl ?_
        refine p_dup X (dcg dc_X6_advanceNumber 38 rfl) rfl ?_
        refine p_getI X fl_X6_19 rfl (by decide) (dcg dc_X6_advanceNumber 39 rfl) hk1 ?_
        refine p_iconst (v := 1) X (dcg dc_X6_advanceNumber 40 rfl) (by decide) ?_
        refine p_iadd X (dcg dc_X6_advanceNumber 41 rfl) ?_
        refine p_putI X fl_X6_19 rfl (by decide) (fun q hq => by cases hq; rfl) rfl rfl (dcg dc_X6_advanceNumber 42 rfl) hk1 ?_
        obtain ⟨h38, rfl, hf⟩ := lt_some hf
        refine p_goto (tgt := 0) X (dcg dc_X6_advanceNumber 43 rfl) (by decide) ?_
        refine p_pick [0] ?_
        exact k0 _ (Option.some.inj hf).symm
noncomputable def fX6_advanceNumber_l0 (v0 : Nat) (h : PH) : Option PH := wh (fun z : (PH) => fX6_advanceNumber_c0 v0 (z)) (h)
set_option maxRecDepth 100000 in
theorem mX6_advanceNumber_l0 {v0 : Nat} {h : PH} {r : PH} (hf : fX6_advanceNumber_l0 v0 h = some r) : eqz h (hX r) (hV r) := by
  unfold fX6_advanceNumber_l0 at hf
  refine wh_ind (P := fun z => eqz (z) (hX r) (hV r)) (fun z x0 hs i1 i2 => ?_) _ hf
  obtain ⟨c0, cf⟩ := mX6_advanceNumber_c0 (v0 := v0) (h := z) hs
  rcases hxx : x0 with zz | zz
  · exact eqz_tr (c0 zz hxx) (i1 zz hxx)
  · have ee := i2 zz hxx; subst ee; exact cf zz hxx
set_option maxRecDepth 100000 in
theorem wX6_advanceNumber_l0 {E : PE} {p : Program} {l : Launch} {e : Env} {s : State} {m : MethodId} {args : Array Value} {below : List Frame} {meth : Method} {c : Code} (X : Cx E p l e (rmv 0 0 0) s m args below meth c RX6 cX6_advanceNumber 2 (none)) (hG : Gs E l) (hnm : meth.name = yX6_advanceNumber.name) {v0 : Nat} {h : PH} {r : PH} (hf : fX6_advanceNumber_l0 v0 h = some r)  : PW E p l e (rmv 0 0 0) s m args below meth c 2 0 0 (MQ below (QG E (fun v u => v = none ∧ u = r)) args s 0 0 (pA E)) h 0 [(0, some (.ref v0))] [] := by
  unfold fX6_advanceNumber_l0 at hf
  refine wh_ind (P := fun z => PW E p l e (rmv 0 0 0) s m args below meth c 2 0 0 (MQ below (QG E (fun v u => v = none ∧ u = r)) args s 0 0 (pA E)) (z) 0 [(0, some (.ref v0))] []) (fun z x0 hs i1 i2 => ?_) _ hf
  exact wX6_advanceNumber_c0 (r := r) (v0 := v0) (h := z) X hG hnm hs i1  i2
noncomputable def fX6_advanceNumber (v0 : Nat) (h : PH) : Option PH :=
  fX6_advanceNumber_l0 v0 h
set_option maxRecDepth 100000 in
theorem mX6_advanceNumber {v0 : Nat} {h : PH} {r : PH} (hf : fX6_advanceNumber v0 h = some r) : eqz h (hX r) (hV r) := by
  unfold fX6_advanceNumber at hf
  have hle := eqz_rf h
  exact eqz_rt (mX6_advanceNumber_l0 hf) hle
set_option maxRecDepth 100000 in
theorem wX6_advanceNumber {E : PE} {l : Launch} (hG : Gs E l) {v0 : Nat} {h : PH} {r : PH} (hf : fX6_advanceNumber v0 h = some r) : Ct E l 0 0 0 yX6_advanceNumber cX6_advanceNumber 2 (none) [.ref v0] h (fun v u => v = none ∧ u = r) := by
  refine ct_of hG (by decide) (Nat.le_of_ble_eq_true rfl) ?_
  intro p e s m args below meth c X hnm
  show PW E p l e _ s m args below meth c _ 0 0 _ h 0 [(0, some (.ref v0))] []
  unfold fX6_advanceNumber at hf
  refine p_pick [0] ?_
  exact wX6_advanceNumber_l0 X hG hnm hf
theorem dc_X6_isSign : decs cX6_isSign [(0, .iload_n 0, 1), (1, .lookupswitch 85 #[(33, 83), (38, 83), (40, 83), (41, 83), (42, 83), (91, 83), (93, 83), (124, 83), (126, 83)], 83), (84, .iconst 1, 1), (85, .ireturn, 1), (86, .iconst 0, 1), (87, .ireturn, 1)] = true := by decide +kernel
noncomputable def fX6_isSign_b84  : Option Int32 :=
  some ((1 : Int32))
set_option maxRecDepth 100000 in
theorem wX6_isSign_b84 {E : PE} {p : Program} {l : Launch} {e : Env} {s : State} {m : MethodId} {args : Array Value} {below : List Frame} {meth : Method} {c : Code} (X : Cx E p l e (rmv 0 0 0) s m args below meth c RX6 cX6_isSign 1 (some .boolean)) (hG : Gs E l) (hnm : meth.name = yX6_isSign.name)  {h : PH} {r : Int32} (hf : fX6_isSign_b84  = some r)  : PW E p l e (rmv 0 0 0) s m args below meth c 1 0 0 (MQ below (QG E (fun v u => v = some (.int r) ∧ u = h)) args s 0 0 (pA E)) h 84 [] [] := by
  unfold fX6_isSign_b84 at hf
  refine p_iconst (v := 1) X (dcg dc_X6_isSign 2 rfl) (by decide) ?_
  have er := Option.some.inj hf
  subst er
  exact p_zret X rfl rfl (dcg dc_X6_isSign 3 rfl) ⟨rfl, rfl⟩ (Nat.le_refl _) (Nat.le_refl _)
noncomputable def fX6_isSign (v0 : Int32) : Option Int32 :=
  if v0 = 33 then (fX6_isSign_b84 ) else
  if v0 = 38 then (fX6_isSign_b84 ) else
  if v0 = 40 then (fX6_isSign_b84 ) else
  if v0 = 41 then (fX6_isSign_b84 ) else
  if v0 = 42 then (fX6_isSign_b84 ) else
  if v0 = 91 then (fX6_isSign_b84 ) else
  if v0 = 93 then (fX6_isSign_b84 ) else
  if v0 = 124 then (fX6_isSign_b84 ) else
  if v0 = 126 then (fX6_isSign_b84 ) else
  some ((0 : Int32))
set_option maxRecDepth 100000 in
theorem wX6_isSign {E : PE} {l : Launch} (hG : Gs E l) {v0 : Int32} {h : PH} {r : Int32} (hf : fX6_isSign v0 = some r) : Ct E l 0 0 0 yX6_isSign cX6_isSign 1 (some .boolean) [.int v0] h (fun v u => v = some (.int r) ∧ u = h) := by
  refine ct_of hG (by decide) (Nat.le_of_ble_eq_true rfl) ?_
  intro p e s m args below meth c X hnm
  show PW E p l e _ s m args below meth c _ 0 0 _ h 0 [(0, some (.int v0))] []
  unfold fX6_isSign at hf
  refine p_iload_n X (dcg dc_X6_isSign 0 rfl) rfl rfl ?_
  by_cases hq33 : v0 = 33
  · have hf := if_t hq33 hf
    refine p_lookupK (k := 33) (tgt := 84) X (dcg dc_X6_isSign 1 rfl) (by decide) hq33 (by decide) (by decide) (by decide) ?_
    refine p_pick [] ?_
    exact wX6_isSign_b84 X hG hnm hf 
  · have hf := if_f hq33 hf
    by_cases hq38 : v0 = 38
    · have hf := if_t hq38 hf
      refine p_lookupK (k := 38) (tgt := 84) X (dcg dc_X6_isSign 1 rfl) (by decide) hq38 (by decide) (by decide) (by decide) ?_
      refine p_pick [] ?_
      exact wX6_isSign_b84 X hG hnm hf 
    · have hf := if_f hq38 hf
      by_cases hq40 : v0 = 40
      · have hf := if_t hq40 hf
        refine p_lookupK (k := 40) (tgt := 84) X (dcg dc_X6_isSign 1 rfl) (by decide) hq40 (by decide) (by decide) (by decide) ?_
        refine p_pick [] ?_
        exact wX6_isSign_b84 X hG hnm hf 
      · have hf := if_f hq40 hf
        by_cases hq41 : v0 = 41
        · have hf := if_t hq41 hf
          refine p_lookupK (k := 41) (tgt := 84) X (dcg dc_X6_isSign 1 rfl) (by decide) hq41 (by decide) (by decide) (by decide) ?_
          refine p_pick [] ?_
          exact wX6_isSign_b84 X hG hnm hf 
        · have hf := if_f hq41 hf
          by_cases hq42 : v0 = 42
          · have hf := if_t hq42 hf
            refine p_lookupK (k := 42) (tgt := 84) X (dcg dc_X6_isSign 1 rfl) (by decide) hq42 (by decide) (by decide) (by decide) ?_
            refine p_pick [] ?_
            exact wX6_isSign_b84 X hG hnm hf 
          · have hf := if_f hq42 hf
            by_cases hq91 : v0 = 91
            · have hf := if_t hq91 hf
              refine p_lookupK (k := 91) (tgt := 84) X (dcg dc_X6_isSign 1 rfl) (by decide) hq91 (by decide) (by decide) (by decide) ?_
              refine p_pick [] ?_
              exact wX6_isSign_b84 X hG hnm hf 
            · have hf := if_f hq91 hf
              by_cases hq93 : v0 = 93
              · have hf := if_t hq93 hf
                refine p_lookupK (k := 93) (tgt := 84) X (dcg dc_X6_isSign 1 rfl) (by decide) hq93 (by decide) (by decide) (by decide) ?_
                refine p_pick [] ?_
                exact wX6_isSign_b84 X hG hnm hf 
              · have hf := if_f hq93 hf
                by_cases hq124 : v0 = 124
                · have hf := if_t hq124 hf
                  refine p_lookupK (k := 124) (tgt := 84) X (dcg dc_X6_isSign 1 rfl) (by decide) hq124 (by decide) (by decide) (by decide) ?_
                  refine p_pick [] ?_
                  exact wX6_isSign_b84 X hG hnm hf 
                · have hf := if_f hq124 hf
                  by_cases hq126 : v0 = 126
                  · have hf := if_t hq126 hf
                    refine p_lookupK (k := 126) (tgt := 84) X (dcg dc_X6_isSign 1 rfl) (by decide) hq126 (by decide) (by decide) (by decide) ?_
                    refine p_pick [] ?_
                    exact wX6_isSign_b84 X hG hnm hf 
                  · have hf := if_f hq126 hf
                    refine p_lookupD (ks := [33, 38, 40, 41, 42, 91, 93, 124, 126]) (tgt := 86) X (dcg dc_X6_isSign 1 rfl) (by decide) (by simp [hq33, hq38, hq40, hq41, hq42, hq91, hq93, hq124, hq126]) (by decide) ?_
                    refine p_iconst (v := 0) X (dcg dc_X6_isSign 4 rfl) (by decide) ?_
                    have er := Option.some.inj hf
                    subst er
                    exact p_zret X rfl rfl (dcg dc_X6_isSign 5 rfl) ⟨rfl, rfl⟩ (Nat.le_refl _) (Nat.le_refl _)
theorem dc_X6_advance : decs cX6_advance [(0, .aload_n 0, 1), (1, .getfield 19, 3), (4, .aload_n 0, 1), (5, .getfield 15, 3), (8, .getfield 96, 3), (11, .if_icmp .ge 50, 3), (14, .aload_n 0, 1), (15, .getfield 15, 3), (18, .getfield 99, 3), (21, .aload_n 0, 1), (22, .getfield 19, 3), (25, .iaload, 1), (26, .bipush 32, 2), (28, .if_icmp .eq 20, 3), (31, .aload_n 0, 1), (32, .getfield 15, 3), (35, .getfield 99, 3), (38, .aload_n 0, 1), (39, .getfield 19, 3), (42, .iaload, 1), (43, .bipush 10, 2), (45, .if_icmp .ne 16, 3), (48, .aload_n 0, 1), (49, .dup, 1), (50, .getfield 19, 3), (53, .iconst 1, 1), (54, .iadd, 1), (55, .putfield 19, 3), (58, .goto (-58), 3), (61, .aload_n 0, 1), (62, .aload_n 0, 1), (63, .getfield 19, 3), (66, .putfield 49, 3), (69, .aload_n 0, 1), (70, .iconst 0, 1), (71, .putfield 83, 3), (74, .aload_n 0, 1), (75, .iconst 0, 1), (76, .putfield 36, 3), (79, .aload_n 0, 1), (80, .getfield 19, 3), (83, .aload_n 0, 1), (84, .getfield 15, 3), (87, .getfield 96, 3), (90, .if_icmp .lt 4, 3), (93, .return_, 1), (94, .aload_n 0, 1), (95, .getfield 15, 3), (98, .getfield 99, 3), (101, .aload_n 0, 1), (102, .getfield 19, 3), (105, .iaload, 1), (106, .istore_n 1, 1), (107, .iload_n 1, 1), (108, .bipush 97, 2), (110, .if_icmp .lt 16, 3), (113, .iload_n 1, 1), (114, .bipush 122, 2), (116, .if_icmp .gt 10, 3), (119, .aload_n 0, 1), (120, .invokevirtual 102, 3), (123, .goto 48, 3), (126, .iload_n 1, 1), (127, .bipush 48, 2), (129, .if_icmp .lt 16, 3), (132, .iload_n 1, 1), (133, .bipush 57, 2), (135, .if_icmp .gt 10, 3), (138, .aload_n 0, 1), (139, .invokevirtual 105, 3), (142, .goto 29, 3), (145, .aload_n 0, 1), (146, .iload_n 1, 1), (147, .invokestatic 108, 3), (150, .ifCond .eq 7, 3), (153, .iload_n 1, 1), (154, .goto 4, 3), (157, .iconst 1, 1), (158, .putfield 36, 3), (161, .aload_n 0, 1), (162, .dup, 1), (163, .getfield 19, 3), (166, .iconst 1, 1), (167, .iadd, 1), (168, .putfield 19, 3), (171, .return_, 1)] = true := by decide +kernel
noncomputable def fX6_advance_b171  (h : PH) : Option PH :=
  some (h)
set_option maxRecDepth 100000 in
theorem mX6_advance_b171  {h : PH} {r : PH} (hf : fX6_advance_b171  h = some r) : eqz h (hX r) (hV r) := by
  unfold fX6_advance_b171 at hf
  have hle := eqz_rf h
  have ee := Option.some.inj hf; subst ee; exact hle
set_option maxRecDepth 100000 in
theorem wX6_advance_b171 {E : PE} {p : Program} {l : Launch} {e : Env} {s : State} {m : MethodId} {args : Array Value} {below : List Frame} {meth : Method} {c : Code} (X : Cx E p l e (rmv 1 0 0) s m args below meth c RX6 cX6_advance 2 (none)) (hG : Gs E l) (hnm : meth.name = yX6_advance.name)  {h : PH} {r : PH} (hf : fX6_advance_b171  h = some r)  : PW E p l e (rmv 1 0 0) s m args below meth c 2 0 0 (MQ below (QG E (fun v u => v = none ∧ u = r)) args s 0 0 (pA E)) h 171 [] [] := by
  unfold fX6_advance_b171 at hf
  have er := Option.some.inj hf
  subst er
  exact p_vret X rfl (dcg dc_X6_advance 85 rfl) ⟨rfl, rfl⟩ (Nat.le_refl _) (Nat.le_refl _)
noncomputable def fX6_advance_b158 (v0 : Nat) (t0 : Option Nat) (t1 : Int32) (h : PH) : Option PH :=
  gs t0 (fun a20 =>
  gd (hK h a20 = 6) (lt (sI h 6 a20 3 t1) (fun h23 =>
  gd (hK h23 v0 = 6) (lt (sI h23 6 v0 2 ((hI h23 6 v0 2) + (1 : Int32))) (fun h25 =>
  fX6_advance_b171  h25)))))
set_option maxRecDepth 100000 in
theorem mX6_advance_b158 {v0 : Nat} {t0 : Option Nat} {t1 : Int32} {h : PH} {r : PH} (hf : fX6_advance_b158 v0 t0 t1 h = some r) : eqz h (hX r) (hV r) := by
  unfold fX6_advance_b158 at hf
  have hle := eqz_rf h
  obtain ⟨a20, e21, hf⟩ := gs_some hf
  obtain ⟨hk22, hf⟩ := gd_some hf
  obtain ⟨h23, rfl, hf⟩ := lt_some hf
  obtain ⟨hk24, hf⟩ := gd_some hf
  obtain ⟨h25, rfl, hf⟩ := lt_some hf
  exact eqz_rt (mX6_advance_b171 hf) hle
set_option maxRecDepth 100000 in
theorem wX6_advance_b158 {E : PE} {p : Program} {l : Launch} {e : Env} {s : State} {m : MethodId} {args : Array Value} {below : List Frame} {meth : Method} {c : Code} (X : Cx E p l e (rmv 1 0 0) s m args below meth c RX6 cX6_advance 2 (none)) (hG : Gs E l) (hnm : meth.name = yX6_advance.name) {v0 : Nat} {t0 : Option Nat} {t1 : Int32} {h : PH} {r : PH} (hf : fX6_advance_b158 v0 t0 t1 h = some r)  : PW E p l e (rmv 1 0 0) s m args below meth c 2 0 0 (MQ below (QG E (fun v u => v = none ∧ u = r)) args s 0 0 (pA E)) h 158 [(0, some (.ref v0))] [.int t1, va_rf t0] := by
  unfold fX6_advance_b158 at hf
  obtain ⟨a20, e21, hf⟩ := gs_some hf
  first | subst e21 | (try rw [e21])
  obtain ⟨hk22, hf⟩ := gd_some hf
  refine p_putI X fl_X6_36 rfl (by decide) (fun q hq => by cases hq; rfl) rfl rfl (dcg dc_X6_advance 78 rfl) hk22 ?_
  obtain ⟨h23, rfl, hf⟩ := lt_some hf
  refine p_aload_n X (dcg dc_X6_advance 79 rfl) rfl rfl ?_
  refine p_dup X (dcg dc_X6_advance 80 rfl) rfl ?_
  obtain ⟨hk24, hf⟩ := gd_some hf
  refine p_getI X fl_X6_19 rfl (by decide) (dcg dc_X6_advance 81 rfl) hk24 ?_
  refine p_iconst (v := 1) X (dcg dc_X6_advance 82 rfl) (by decide) ?_
  refine p_iadd X (dcg dc_X6_advance 83 rfl) ?_
  refine p_putI X fl_X6_19 rfl (by decide) (fun q hq => by cases hq; rfl) rfl rfl (dcg dc_X6_advance 84 rfl) hk24 ?_
  obtain ⟨h25, rfl, hf⟩ := lt_some hf
  refine p_pick [] ?_
  exact wX6_advance_b171 X hG hnm hf 
noncomputable def fX6_advance_b145 (v0 : Nat) (v1 : Int32) (h : PH) : Option PH :=
  bd (fX6_isSign v1) (fun z19 =>
  if (z19 = 0) then (fX6_advance_b158 v0 (some v0) (1 : Int32) h) else
  fX6_advance_b158 v0 (some v0) v1 h)
set_option maxRecDepth 100000 in
theorem mX6_advance_b145 {v0 : Nat} {v1 : Int32} {h : PH} {r : PH} (hf : fX6_advance_b145 v0 v1 h = some r) : eqz h (hX r) (hV r) := by
  unfold fX6_advance_b145 at hf
  have hle := eqz_rf h
  obtain ⟨z19, hz19, hf⟩ := bd_some hf
  rcases ite_or hf with ⟨q, hf⟩ | ⟨q, hf⟩
  · have hf := if_t q hf
    exact eqz_rt (mX6_advance_b158 hf) hle
  · have hf := if_f q hf
    exact eqz_rt (mX6_advance_b158 hf) hle
set_option maxRecDepth 100000 in
theorem wX6_advance_b145 {E : PE} {p : Program} {l : Launch} {e : Env} {s : State} {m : MethodId} {args : Array Value} {below : List Frame} {meth : Method} {c : Code} (X : Cx E p l e (rmv 1 0 0) s m args below meth c RX6 cX6_advance 2 (none)) (hG : Gs E l) (hnm : meth.name = yX6_advance.name) {v0 : Nat} {v1 : Int32} {h : PH} {r : PH} (hf : fX6_advance_b145 v0 v1 h = some r)  : PW E p l e (rmv 1 0 0) s m args below meth c 2 0 0 (MQ below (QG E (fun v u => v = none ∧ u = r)) args s 0 0 (pA E)) h 145 [(0, some (.ref v0)), (1, some (.int v1))] [] := by
  unfold fX6_advance_b145 at hf
  refine p_aload_n X (dcg dc_X6_advance 71 rfl) rfl rfl ?_
  refine p_iload_n X (dcg dc_X6_advance 72 rfl) rfl rfl ?_
  obtain ⟨z19, hz19, hf⟩ := bd_some hf
  refine p_callS (As := [_]) X ml_X6_108 (dcg dc_X6_advance 73 rfl) rfl rfl  (wX6_isSign hG hz19) (by decide) (room4 (Nat.le_of_ble_eq_true rfl)) (Nat.le_refl _) (Nat.le_refl _) ?_
  rintro _ u9 ⟨rfl, e9⟩; have e9 := e9.symm; subst e9
  refine p_if_eq (tgt := 157) X (dcg dc_X6_advance 74 rfl) (by decide) (fun q => ?_) (fun q => ?_)
  · have hf := if_t q hf
    refine p_iconst (v := 1) X (dcg dc_X6_advance 77 rfl) (by decide) ?_
    refine p_pick [0] ?_
    exact wX6_advance_b158 X hG hnm hf 
  · have hf := if_f q hf
    refine p_iload_n X (dcg dc_X6_advance 75 rfl) rfl rfl ?_
    refine p_goto (tgt := 158) X (dcg dc_X6_advance 76 rfl) (by decide) ?_
    refine p_pick [0] ?_
    exact wX6_advance_b158 X hG hnm hf 
noncomputable def fX6_advance_b126 (v0 : Nat) (v1 : Int32) (h : PH) : Option PH :=
  if (v1 < (48 : Int32)) then (fX6_advance_b145 v0 v1 h) else
  if ((57 : Int32) < v1) then (fX6_advance_b145 v0 v1 h) else
  gd (hK h v0 = 6) (bd (fX6_advanceNumber v0 h) (fun z27 =>
  fX6_advance_b171  z27))
set_option maxRecDepth 100000 in
theorem mX6_advance_b126 {v0 : Nat} {v1 : Int32} {h : PH} {r : PH} (hf : fX6_advance_b126 v0 v1 h = some r) : eqz h (hX r) (hV r) := by
  unfold fX6_advance_b126 at hf
  have hle := eqz_rf h
  rcases ite_or hf with ⟨q, hf⟩ | ⟨q, hf⟩
  · have hf := if_t q hf
    exact eqz_rt (mX6_advance_b145 hf) hle
  · have hf := if_f q hf
    rcases ite_or hf with ⟨q, hf⟩ | ⟨q, hf⟩
    · have hf := if_t q hf
      exact eqz_rt (mX6_advance_b145 hf) hle
    · have hf := if_f q hf
      obtain ⟨hk26, hf⟩ := gd_some hf
      obtain ⟨z27, hz27, hf⟩ := bd_some hf
      have hle := eqz_rt (mX6_advanceNumber hz27) hle
      exact eqz_rt (mX6_advance_b171 hf) hle
set_option maxRecDepth 100000 in
theorem wX6_advance_b126 {E : PE} {p : Program} {l : Launch} {e : Env} {s : State} {m : MethodId} {args : Array Value} {below : List Frame} {meth : Method} {c : Code} (X : Cx E p l e (rmv 1 0 0) s m args below meth c RX6 cX6_advance 2 (none)) (hG : Gs E l) (hnm : meth.name = yX6_advance.name) {v0 : Nat} {v1 : Int32} {h : PH} {r : PH} (hf : fX6_advance_b126 v0 v1 h = some r)  : PW E p l e (rmv 1 0 0) s m args below meth c 2 0 0 (MQ below (QG E (fun v u => v = none ∧ u = r)) args s 0 0 (pA E)) h 126 [(0, some (.ref v0)), (1, some (.int v1))] [] := by
  unfold fX6_advance_b126 at hf
  refine p_iload_n X (dcg dc_X6_advance 62 rfl) rfl rfl ?_
  refine p_bipush (v := 48) X (dcg dc_X6_advance 63 rfl) (by decide) ?_
  refine p_icmp_lt (tgt := 145) X (dcg dc_X6_advance 64 rfl) (by decide) (fun q => ?_) (fun q => ?_)
  · have hf := if_t q hf
    refine p_pick [0, 1] ?_
    exact wX6_advance_b145 X hG hnm hf 
  · have hf := if_f q hf
    refine p_iload_n X (dcg dc_X6_advance 65 rfl) rfl rfl ?_
    refine p_bipush (v := 57) X (dcg dc_X6_advance 66 rfl) (by decide) ?_
    refine p_icmp_gt (tgt := 145) X (dcg dc_X6_advance 67 rfl) (by decide) (fun q => ?_) (fun q => ?_)
    · have hf := if_t q hf
      refine p_pick [0, 1] ?_
      exact wX6_advance_b145 X hG hnm hf 
    · have hf := if_f q hf
      refine p_aload_n X (dcg dc_X6_advance 68 rfl) rfl rfl ?_
      obtain ⟨hk26, hf⟩ := gd_some hf
      obtain ⟨z27, hz27, hf⟩ := bd_some hf
      refine p_callV (As := []) X ml_X6_105 (dcg dc_X6_advance 69 rfl) rfl rfl hk26 (wX6_advanceNumber hG hz27) (by decide) (room4 (Nat.le_of_ble_eq_true rfl)) (Nat.le_refl _) (Nat.le_refl _) ?_
      rintro _ u9 ⟨rfl, e9⟩; have e9 := e9.symm; subst e9
      refine p_goto (tgt := 171) X (dcg dc_X6_advance 70 rfl) (by decide) ?_
      refine p_pick [] ?_
      exact wX6_advance_b171 X hG hnm hf 
noncomputable def fX6_advance_b61 (v0 : Nat) (h : PH) : Option PH :=
  gd (hK h v0 = 6) (lt (sI h 6 v0 4 (hI h 6 v0 2)) (fun h6 =>
  lt (sI h6 6 v0 5 (0 : Int32)) (fun h7 =>
  lt (sI h7 6 v0 3 (0 : Int32)) (fun h8 =>
  gs (hR h8 6 v0 0) (fun a9 =>
  gd (hK h8 a9 = 7) (if ((hI h8 6 v0 2) < (hI h8 7 a9 1)) then (gs (hR h8 6 v0 0) (fun a12 =>
  gd (hK h8 a12 = 7) (gs (hR h8 7 a12 0) (fun a15 =>
  gd (hK h8 a15 = 20 ∧ inb (hI h8 6 v0 2) (hN h8 a15)) (if ((hI h8 20 a15 (Int32.toNatClampNeg (hI h8 6 v0 2))) < (97 : Int32)) then (fX6_advance_b126 v0 (hI h8 20 a15 (Int32.toNatClampNeg (hI h8 6 v0 2))) h8) else
  if ((122 : Int32) < (hI h8 20 a15 (Int32.toNatClampNeg (hI h8 6 v0 2)))) then (fX6_advance_b126 v0 (hI h8 20 a15 (Int32.toNatClampNeg (hI h8 6 v0 2))) h8) else
  bd (fX6_advanceWord v0 h8) (fun z28 =>
  fX6_advance_b171  z28)))))) else
  some (h8)))))))
set_option maxRecDepth 100000 in
theorem mX6_advance_b61 {v0 : Nat} {h : PH} {r : PH} (hf : fX6_advance_b61 v0 h = some r) : eqz h (hX r) (hV r) := by
  unfold fX6_advance_b61 at hf
  have hle := eqz_rf h
  obtain ⟨hk5, hf⟩ := gd_some hf
  obtain ⟨h6, rfl, hf⟩ := lt_some hf
  obtain ⟨h7, rfl, hf⟩ := lt_some hf
  obtain ⟨h8, rfl, hf⟩ := lt_some hf
  obtain ⟨a9, e10, hf⟩ := gs_some hf
  obtain ⟨hk11, hf⟩ := gd_some hf
  rcases ite_or hf with ⟨q, hf⟩ | ⟨q, hf⟩
  · have hf := if_t q hf
    obtain ⟨a12, e13, hf⟩ := gs_some hf
    obtain ⟨hk14, hf⟩ := gd_some hf
    obtain ⟨a15, e16, hf⟩ := gs_some hf
    obtain ⟨⟨hk18, hb17⟩, hf⟩ := gd_some hf
    rcases ite_or hf with ⟨q, hf⟩ | ⟨q, hf⟩
    · have hf := if_t q hf
      exact eqz_rt (mX6_advance_b126 hf) hle
    · have hf := if_f q hf
      rcases ite_or hf with ⟨q, hf⟩ | ⟨q, hf⟩
      · have hf := if_t q hf
        exact eqz_rt (mX6_advance_b126 hf) hle
      · have hf := if_f q hf
        obtain ⟨z28, hz28, hf⟩ := bd_some hf
        have hle := eqz_rt (mX6_advanceWord hz28) hle
        exact eqz_rt (mX6_advance_b171 hf) hle
  · have hf := if_f q hf
    have ee := Option.some.inj hf; subst ee; exact hle
set_option maxRecDepth 100000 in
theorem wX6_advance_b61 {E : PE} {p : Program} {l : Launch} {e : Env} {s : State} {m : MethodId} {args : Array Value} {below : List Frame} {meth : Method} {c : Code} (X : Cx E p l e (rmv 1 0 0) s m args below meth c RX6 cX6_advance 2 (none)) (hG : Gs E l) (hnm : meth.name = yX6_advance.name) {v0 : Nat} {h : PH} {r : PH} (hf : fX6_advance_b61 v0 h = some r)  : PW E p l e (rmv 1 0 0) s m args below meth c 2 0 0 (MQ below (QG E (fun v u => v = none ∧ u = r)) args s 0 0 (pA E)) h 61 [(0, some (.ref v0))] [] := by
  unfold fX6_advance_b61 at hf
  refine p_aload_n X (dcg dc_X6_advance 29 rfl) rfl rfl ?_
  refine p_aload_n X (dcg dc_X6_advance 30 rfl) rfl rfl ?_
  obtain ⟨hk5, hf⟩ := gd_some hf
  refine p_getI X fl_X6_19 rfl (by decide) (dcg dc_X6_advance 31 rfl) hk5 ?_
  refine p_putI X fl_X6_49 rfl (by decide) (fun q hq => by cases hq; rfl) rfl rfl (dcg dc_X6_advance 32 rfl) hk5 ?_
  obtain ⟨h6, rfl, hf⟩ := lt_some hf
  refine p_aload_n X (dcg dc_X6_advance 33 rfl) rfl rfl ?_
  refine p_iconst (v := 0) X (dcg dc_X6_advance 34 rfl) (by decide) ?_
  refine p_putI X fl_X6_83 rfl (by decide) (fun q hq => by cases hq; rfl) rfl rfl (dcg dc_X6_advance 35 rfl) hk5 ?_
  obtain ⟨h7, rfl, hf⟩ := lt_some hf
  refine p_aload_n X (dcg dc_X6_advance 36 rfl) rfl rfl ?_
  refine p_iconst (v := 0) X (dcg dc_X6_advance 37 rfl) (by decide) ?_
  refine p_putI X fl_X6_36 rfl (by decide) (fun q hq => by cases hq; rfl) rfl rfl (dcg dc_X6_advance 38 rfl) hk5 ?_
  obtain ⟨h8, rfl, hf⟩ := lt_some hf
  refine p_aload_n X (dcg dc_X6_advance 39 rfl) rfl rfl ?_
  refine p_getI X fl_X6_19 rfl (by decide) (dcg dc_X6_advance 40 rfl) hk5 ?_
  refine p_aload_n X (dcg dc_X6_advance 41 rfl) rfl rfl ?_
  refine p_getR X fl_X6_15 rfl (by decide) (dcg dc_X6_advance 42 rfl) hk5 ?_
  obtain ⟨a9, e10, hf⟩ := gs_some hf
  first | subst e10 | (try rw [e10])
  obtain ⟨hk11, hf⟩ := gd_some hf
  refine p_getIn X fl_X6_96 rfl (by decide) (dcg dc_X6_advance 43 rfl) hk11 ?_
  refine p_icmp_lt (tgt := 94) X (dcg dc_X6_advance 44 rfl) (by decide) (fun q => ?_) (fun q => ?_)
  · have hf := if_t q hf
    refine p_aload_n X (dcg dc_X6_advance 46 rfl) rfl rfl ?_
    refine p_getR X fl_X6_15 rfl (by decide) (dcg dc_X6_advance 47 rfl) hk5 ?_
    obtain ⟨a12, e13, hf⟩ := gs_some hf
    first | subst e13 | (try rw [e13])
    obtain ⟨hk14, hf⟩ := gd_some hf
    refine p_getRn X fl_X6_99 rfl (by decide) (dcg dc_X6_advance 48 rfl) hk14 ?_
    refine p_aload_n X (dcg dc_X6_advance 49 rfl) rfl rfl ?_
    refine p_getI X fl_X6_19 rfl (by decide) (dcg dc_X6_advance 50 rfl) hk5 ?_
    obtain ⟨a15, e16, hf⟩ := gs_some hf
    first | subst e16 | (try rw [e16])
    obtain ⟨⟨hk18, hb17⟩, hf⟩ := gd_some hf
    refine p_iald X (dcg dc_X6_advance 51 rfl) hk18 (vp_of_inb hb17) ?_
    refine p_istore_n X (dcg dc_X6_advance 52 rfl) rfl (by decide) rfl ?_
    refine p_iload_n X (dcg dc_X6_advance 53 rfl) rfl rfl ?_
    refine p_bipush (v := 97) X (dcg dc_X6_advance 54 rfl) (by decide) ?_
    refine p_icmp_lt (tgt := 126) X (dcg dc_X6_advance 55 rfl) (by decide) (fun q => ?_) (fun q => ?_)
    · have hf := if_t q hf
      refine p_pick [0, 1] ?_
      exact wX6_advance_b126 X hG hnm hf 
    · have hf := if_f q hf
      refine p_iload_n X (dcg dc_X6_advance 56 rfl) rfl rfl ?_
      refine p_bipush (v := 122) X (dcg dc_X6_advance 57 rfl) (by decide) ?_
      refine p_icmp_gt (tgt := 126) X (dcg dc_X6_advance 58 rfl) (by decide) (fun q => ?_) (fun q => ?_)
      · have hf := if_t q hf
        refine p_pick [0, 1] ?_
        exact wX6_advance_b126 X hG hnm hf 
      · have hf := if_f q hf
        refine p_aload_n X (dcg dc_X6_advance 59 rfl) rfl rfl ?_
        obtain ⟨z28, hz28, hf⟩ := bd_some hf
        refine p_callV (As := []) X ml_X6_102 (dcg dc_X6_advance 60 rfl) rfl rfl hk5 (wX6_advanceWord hG hz28) (by decide) (room4 (Nat.le_of_ble_eq_true rfl)) (Nat.le_refl _) (Nat.le_refl _) ?_
        rintro _ u9 ⟨rfl, e9⟩; have e9 := e9.symm; subst e9
        refine p_goto (tgt := 171) X (dcg dc_X6_advance 61 rfl) (by decide) ?_
        refine p_pick [] ?_
        exact wX6_advance_b171 X hG hnm hf 
  · have hf := if_f q hf
    have er := Option.some.inj hf
    subst er
    exact p_vret X rfl (dcg dc_X6_advance 45 rfl) ⟨rfl, rfl⟩ (Nat.le_refl _) (Nat.le_refl _)
noncomputable def fX6_advance_b48 (v0 : Nat) (h : PH) : Option ((PH) ⊕ PH) :=
  gd (hK h v0 = 6) (lt (sI h 6 v0 2 ((hI h 6 v0 2) + (1 : Int32))) (fun h39 =>
  some (.inl (h39))))
set_option maxRecDepth 100000 in
theorem mX6_advance_b48 {v0 : Nat} {h : PH} {x : ((PH) ⊕ PH)} (hf : fX6_advance_b48 v0 h = some x) : (∀ w9 : (PH), x = .inl w9 → eqz h (hX (w9)) (hV (w9))) ∧ (∀ w9 : PH, x = .inr w9 → eqz h (hX w9) (hV w9)) := by
  unfold fX6_advance_b48 at hf
  have hle := eqz_rf h
  obtain ⟨hk38, hf⟩ := gd_some hf
  obtain ⟨h39, rfl, hf⟩ := lt_some hf
  have ee := Option.some.inj hf; subst ee
  exact ⟨(fun z e => by have ee := Sum.inl.inj (e); subst ee; exact hle), (fun z e => nomatch e)⟩
set_option maxRecDepth 100000 in
theorem wX6_advance_b48 {E : PE} {p : Program} {l : Launch} {e : Env} {s : State} {m : MethodId} {args : Array Value} {below : List Frame} {meth : Method} {c : Code} (X : Cx E p l e (rmv 1 0 0) s m args below meth c RX6 cX6_advance 2 (none)) (hG : Gs E l) (hnm : meth.name = yX6_advance.name) {v0 : Nat} {h : PH} {r : PH} {x : ((PH) ⊕ PH)} (hf : fX6_advance_b48 v0 h = some x) (k0 : ∀ z : (PH), x = .inl z → PW E p l e (rmv 1 0 0) s m args below meth c 2 0 0 (MQ below (QG E (fun v u => v = none ∧ u = r)) args s 0 0 (pA E)) (z) 0 [(0, some (.ref v0))] []) (kf : ∀ z : PH, x = .inr z → z = r) : PW E p l e (rmv 1 0 0) s m args below meth c 2 0 0 (MQ below (QG E (fun v u => v = none ∧ u = r)) args s 0 0 (pA E)) h 48 [(0, some (.ref v0))] [] := by
  unfold fX6_advance_b48 at hf
  refine p_aload_n X (dcg dc_X6_advance 22 rfl) rfl rfl ?_
  refine p_dup X (dcg dc_X6_advance 23 rfl) rfl ?_
  obtain ⟨hk38, hf⟩ := gd_some hf
  refine p_getI X fl_X6_19 rfl (by decide) (dcg dc_X6_advance 24 rfl) hk38 ?_
  refine p_iconst (v := 1) X (dcg dc_X6_advance 25 rfl) (by decide) ?_
  refine p_iadd X (dcg dc_X6_advance 26 rfl) ?_
  refine p_putI X fl_X6_19 rfl (by decide) (fun q hq => by cases hq; rfl) rfl rfl (dcg dc_X6_advance 27 rfl) hk38 ?_
  obtain ⟨h39, rfl, hf⟩ := lt_some hf
  refine p_goto (tgt := 0) X (dcg dc_X6_advance 28 rfl) (by decide) ?_
  refine p_pick [0] ?_
  exact k0 _ (Option.some.inj hf).symm
noncomputable def fX6_advance_c0 (v0 : Nat) (h : PH) : Option ((PH) ⊕ PH) :=
  gd (hK h v0 = 6) (gs (hR h 6 v0 0) (fun a2 =>
  gd (hK h a2 = 7) (if ((hI h 7 a2 1) ≤ (hI h 6 v0 2)) then (mr (fX6_advance_b61 v0 h)) else
  gs (hR h 6 v0 0) (fun a31 =>
  gd (hK h a31 = 7) (gs (hR h 7 a31 0) (fun a34 =>
  gd (hK h a34 = 20 ∧ inb (hI h 6 v0 2) (hN h a34)) (if ((hI h 20 a34 (Int32.toNatClampNeg (hI h 6 v0 2))) = (32 : Int32)) then (fX6_advance_b48 v0 h) else
  gs (hR h 6 v0 0) (fun a40 =>
  gd (hK h a40 = 7) (gs (hR h 7 a40 0) (fun a43 =>
  gd (hK h a43 = 20 ∧ inb (hI h 6 v0 2) (hN h a43)) (if (¬ (hI h 20 a43 (Int32.toNatClampNeg (hI h 6 v0 2))) = (10 : Int32)) then (mr (fX6_advance_b61 v0 h)) else
  fX6_advance_b48 v0 h)))))))))))
set_option maxRecDepth 100000 in
theorem mX6_advance_c0 {v0 : Nat} {h : PH} {x : ((PH) ⊕ PH)} (hf : fX6_advance_c0 v0 h = some x) : (∀ w9 : (PH), x = .inl w9 → eqz h (hX (w9)) (hV (w9))) ∧ (∀ w9 : PH, x = .inr w9 → eqz h (hX w9) (hV w9)) := by
  unfold fX6_advance_c0 at hf
  have hle := eqz_rf h
  obtain ⟨hk1, hf⟩ := gd_some hf
  obtain ⟨a2, e3, hf⟩ := gs_some hf
  obtain ⟨hk4, hf⟩ := gd_some hf
  rcases ite_or hf with ⟨q, hf⟩ | ⟨q, hf⟩
  · have hf := if_t q hf
    obtain ⟨y29, hfm, rfl⟩ := mr_some hf; have hf := hfm; clear hfm
    have cf := mX6_advance_b61 hf
    exact ⟨(fun z e => nomatch e), (fun z e => by cases e <;> exact eqz_rt cf hle)⟩
  · have hf := if_f q hf
    obtain ⟨a31, e32, hf⟩ := gs_some hf
    obtain ⟨hk33, hf⟩ := gd_some hf
    obtain ⟨a34, e35, hf⟩ := gs_some hf
    obtain ⟨⟨hk37, hb36⟩, hf⟩ := gd_some hf
    rcases ite_or hf with ⟨q, hf⟩ | ⟨q, hf⟩
    · have hf := if_t q hf
      obtain ⟨c0, cf⟩ := mX6_advance_b48 hf
      exact ⟨fun z e => eqz_rt (c0 z (e)) hle, fun z e => eqz_rt (cf z (e)) hle⟩
    · have hf := if_f q hf
      obtain ⟨a40, e41, hf⟩ := gs_some hf
      obtain ⟨hk42, hf⟩ := gd_some hf
      obtain ⟨a43, e44, hf⟩ := gs_some hf
      obtain ⟨⟨hk46, hb45⟩, hf⟩ := gd_some hf
      rcases ite_or hf with ⟨q, hf⟩ | ⟨q, hf⟩
      · have hf := if_t q hf
        obtain ⟨y47, hfm, rfl⟩ := mr_some hf; have hf := hfm; clear hfm
        have cf := mX6_advance_b61 hf
        exact ⟨(fun z e => nomatch e), (fun z e => by cases e <;> exact eqz_rt cf hle)⟩
      · have hf := if_f q hf
        obtain ⟨c0, cf⟩ := mX6_advance_b48 hf
        exact ⟨fun z e => eqz_rt (c0 z (e)) hle, fun z e => eqz_rt (cf z (e)) hle⟩
set_option maxRecDepth 100000 in
theorem wX6_advance_c0 {E : PE} {p : Program} {l : Launch} {e : Env} {s : State} {m : MethodId} {args : Array Value} {below : List Frame} {meth : Method} {c : Code} (X : Cx E p l e (rmv 1 0 0) s m args below meth c RX6 cX6_advance 2 (none)) (hG : Gs E l) (hnm : meth.name = yX6_advance.name) {v0 : Nat} {h : PH} {r : PH} {x : ((PH) ⊕ PH)} (hf : fX6_advance_c0 v0 h = some x) (k0 : ∀ z : (PH), x = .inl z → PW E p l e (rmv 1 0 0) s m args below meth c 2 0 0 (MQ below (QG E (fun v u => v = none ∧ u = r)) args s 0 0 (pA E)) (z) 0 [(0, some (.ref v0))] []) (kf : ∀ z : PH, x = .inr z → z = r) : PW E p l e (rmv 1 0 0) s m args below meth c 2 0 0 (MQ below (QG E (fun v u => v = none ∧ u = r)) args s 0 0 (pA E)) h 0 [(0, some (.ref v0))] [] := by
  unfold fX6_advance_c0 at hf
  refine p_aload_n X (dcg dc_X6_advance 0 rfl) rfl rfl ?_
  obtain ⟨hk1, hf⟩ := gd_some hf
  refine p_getI X fl_X6_19 rfl (by decide) (dcg dc_X6_advance 1 rfl) hk1 ?_
  refine p_aload_n X (dcg dc_X6_advance 2 rfl) rfl rfl ?_
  refine p_getR X fl_X6_15 rfl (by decide) (dcg dc_X6_advance 3 rfl) hk1 ?_
  obtain ⟨a2, e3, hf⟩ := gs_some hf
  first | subst e3 | (try rw [e3])
  obtain ⟨hk4, hf⟩ := gd_some hf
  refine p_getIn X fl_X6_96 rfl (by decide) (dcg dc_X6_advance 4 rfl) hk4 ?_
  refine p_icmp_ge (tgt := 61) X (dcg dc_X6_advance 5 rfl) (by decide) (fun q => ?_) (fun q => ?_)
  · have hf := if_t q hf
    obtain ⟨y29, hf, hy30⟩ := mr_some hf
    have hy30f := kf y29 hy30
    subst hy30f
    refine p_pick [0] ?_
    exact wX6_advance_b61 X hG hnm hf 
  · have hf := if_f q hf
    refine p_aload_n X (dcg dc_X6_advance 6 rfl) rfl rfl ?_
    refine p_getR X fl_X6_15 rfl (by decide) (dcg dc_X6_advance 7 rfl) hk1 ?_
    obtain ⟨a31, e32, hf⟩ := gs_some hf
    first | subst e32 | (try rw [e32])
    obtain ⟨hk33, hf⟩ := gd_some hf
    refine p_getRn X fl_X6_99 rfl (by decide) (dcg dc_X6_advance 8 rfl) hk33 ?_
    refine p_aload_n X (dcg dc_X6_advance 9 rfl) rfl rfl ?_
    refine p_getI X fl_X6_19 rfl (by decide) (dcg dc_X6_advance 10 rfl) hk1 ?_
    obtain ⟨a34, e35, hf⟩ := gs_some hf
    first | subst e35 | (try rw [e35])
    obtain ⟨⟨hk37, hb36⟩, hf⟩ := gd_some hf
    refine p_iald X (dcg dc_X6_advance 11 rfl) hk37 (vp_of_inb hb36) ?_
    refine p_bipush (v := 32) X (dcg dc_X6_advance 12 rfl) (by decide) ?_
    refine p_icmp_eq (tgt := 48) X (dcg dc_X6_advance 13 rfl) (by decide) (fun q => ?_) (fun q => ?_)
    · have hf := if_t q hf
      refine p_pick [0] ?_
      exact wX6_advance_b48 X hG hnm hf k0 kf
    · have hf := if_f q hf
      refine p_aload_n X (dcg dc_X6_advance 14 rfl) rfl rfl ?_
      refine p_getR X fl_X6_15 rfl (by decide) (dcg dc_X6_advance 15 rfl) hk1 ?_
      obtain ⟨a40, e41, hf⟩ := gs_some hf
      first | subst e41 | (try rw [e41])
      obtain ⟨hk42, hf⟩ := gd_some hf
      refine p_getRn X fl_X6_99 rfl (by decide) (dcg dc_X6_advance 16 rfl) hk42 ?_
      refine p_aload_n X (dcg dc_X6_advance 17 rfl) rfl rfl ?_
      refine p_getI X fl_X6_19 rfl (by decide) (dcg dc_X6_advance 18 rfl) hk1 ?_
      obtain ⟨a43, e44, hf⟩ := gs_some hf
      first | subst e44 | (try rw [e44])
      obtain ⟨⟨hk46, hb45⟩, hf⟩ := gd_some hf
      refine p_iald X (dcg dc_X6_advance 19 rfl) hk46 (vp_of_inb hb45) ?_
      refine p_bipush (v := 10) X (dcg dc_X6_advance 20 rfl) (by decide) ?_
      refine p_icmp_ne (tgt := 61) X (dcg dc_X6_advance 21 rfl) (by decide) (fun q => ?_) (fun q => ?_)
      · have hf := if_t q hf
        obtain ⟨y47, hf, hy48⟩ := mr_some hf
        have hy48f := kf y47 hy48
        subst hy48f
        refine p_pick [0] ?_
        exact wX6_advance_b61 X hG hnm hf 
      · have hf := if_f q hf
        refine p_pick [0] ?_
        exact wX6_advance_b48 X hG hnm hf k0 kf
noncomputable def fX6_advance_l0 (v0 : Nat) (h : PH) : Option PH := wh (fun z : (PH) => fX6_advance_c0 v0 (z)) (h)
set_option maxRecDepth 100000 in
theorem mX6_advance_l0 {v0 : Nat} {h : PH} {r : PH} (hf : fX6_advance_l0 v0 h = some r) : eqz h (hX r) (hV r) := by
  unfold fX6_advance_l0 at hf
  refine wh_ind (P := fun z => eqz (z) (hX r) (hV r)) (fun z x0 hs i1 i2 => ?_) _ hf
  obtain ⟨c0, cf⟩ := mX6_advance_c0 (v0 := v0) (h := z) hs
  rcases hxx : x0 with zz | zz
  · exact eqz_tr (c0 zz hxx) (i1 zz hxx)
  · have ee := i2 zz hxx; subst ee; exact cf zz hxx
set_option maxRecDepth 100000 in
theorem wX6_advance_l0 {E : PE} {p : Program} {l : Launch} {e : Env} {s : State} {m : MethodId} {args : Array Value} {below : List Frame} {meth : Method} {c : Code} (X : Cx E p l e (rmv 1 0 0) s m args below meth c RX6 cX6_advance 2 (none)) (hG : Gs E l) (hnm : meth.name = yX6_advance.name) {v0 : Nat} {h : PH} {r : PH} (hf : fX6_advance_l0 v0 h = some r)  : PW E p l e (rmv 1 0 0) s m args below meth c 2 0 0 (MQ below (QG E (fun v u => v = none ∧ u = r)) args s 0 0 (pA E)) h 0 [(0, some (.ref v0))] [] := by
  unfold fX6_advance_l0 at hf
  refine wh_ind (P := fun z => PW E p l e (rmv 1 0 0) s m args below meth c 2 0 0 (MQ below (QG E (fun v u => v = none ∧ u = r)) args s 0 0 (pA E)) (z) 0 [(0, some (.ref v0))] []) (fun z x0 hs i1 i2 => ?_) _ hf
  exact wX6_advance_c0 (r := r) (v0 := v0) (h := z) X hG hnm hs i1  i2
noncomputable def fX6_advance (v0 : Nat) (h : PH) : Option PH :=
  fX6_advance_l0 v0 h
set_option maxRecDepth 100000 in
theorem mX6_advance {v0 : Nat} {h : PH} {r : PH} (hf : fX6_advance v0 h = some r) : eqz h (hX r) (hV r) := by
  unfold fX6_advance at hf
  have hle := eqz_rf h
  exact eqz_rt (mX6_advance_l0 hf) hle
set_option maxRecDepth 100000 in
theorem wX6_advance {E : PE} {l : Launch} (hG : Gs E l) {v0 : Nat} {h : PH} {r : PH} (hf : fX6_advance v0 h = some r) : Ct E l 1 0 0 yX6_advance cX6_advance 2 (none) [.ref v0] h (fun v u => v = none ∧ u = r) := by
  refine ct_of hG (by decide) (Nat.le_of_ble_eq_true rfl) ?_
  intro p e s m args below meth c X hnm
  show PW E p l e _ s m args below meth c _ 0 0 _ h 0 [(0, some (.ref v0))] []
  unfold fX6_advance at hf
  refine p_pick [0] ?_
  exact wX6_advance_l0 X hG hnm hf
theorem dc_X6_fail : decs cX6_fail [(0, .aload_n 0, 1), (1, .aload_n 0, 1), (2, .getfield 49, 3), (5, .putfield 26, 3), (8, .aconst_null, 1), (9, .areturn, 1)] = true := by decide +kernel
noncomputable def fX6_fail (v0 : Nat) (h : PH) : Option (Option Nat × PH) :=
  gd (hK h v0 = 6) (lt (sI h 6 v0 7 (hI h 6 v0 4)) (fun h2 =>
  some ((none, h2))))
set_option maxRecDepth 100000 in
theorem mX6_fail {v0 : Nat} {h : PH} {r : (Option Nat × PH)} (hf : fX6_fail v0 h = some r) : eqz h (hX r.2) (hV r.2) := by
  unfold fX6_fail at hf
  have hle := eqz_rf h
  obtain ⟨hk1, hf⟩ := gd_some hf
  obtain ⟨h2, rfl, hf⟩ := lt_some hf
  have ee := Option.some.inj hf; subst ee; exact hle
set_option maxRecDepth 100000 in
theorem wX6_fail {E : PE} {l : Launch} (hG : Gs E l) {v0 : Nat} {h : PH} {r : (Option Nat × PH)} (hf : fX6_fail v0 h = some r) : Ct E l 0 0 0 yX6_fail cX6_fail 1 (some (.object "WordFinder$Node")) [.ref v0] h (fun v u => v = some (va_rf r.1) ∧ u = r.2) := by
  refine ct_of hG (by decide) (Nat.le_of_ble_eq_true rfl) ?_
  intro p e s m args below meth c X hnm
  show PW E p l e _ s m args below meth c _ 0 0 _ h 0 [(0, some (.ref v0))] []
  unfold fX6_fail at hf
  refine p_aload_n X (dcg dc_X6_fail 0 rfl) rfl rfl ?_
  refine p_aload_n X (dcg dc_X6_fail 1 rfl) rfl rfl ?_
  obtain ⟨hk1, hf⟩ := gd_some hf
  refine p_getI X fl_X6_49 rfl (by decide) (dcg dc_X6_fail 2 rfl) hk1 ?_
  refine p_putI X fl_X6_26 rfl (by decide) (fun q hq => by cases hq; rfl) rfl rfl (dcg dc_X6_fail 3 rfl) hk1 ?_
  obtain ⟨h2, rfl, hf⟩ := lt_some hf
  refine p_null X (dcg dc_X6_fail 4 rfl) ?_
  have er := Option.some.inj hf
  subst er
  exact p_aret X rfl (Or.inl ⟨_, rfl⟩) (dcg dc_X6_fail 5 rfl) ⟨rfl, rfl⟩ (Nat.le_refl _) (Nat.le_refl _)
theorem dc_X6_readWord : decs cX6_readWord [(0, .aload_n 0, 1), (1, .getfield 83, 3), (4, .istore_n 1, 1), (5, .aload_n 0, 1), (6, .invokevirtual 29, 3), (9, .aload_n 0, 1), (10, .getfield 36, 3), (13, .bipush 42, 2), (15, .if_icmp .ne 20, 3), (18, .aload_n 0, 1), (19, .invokevirtual 29, 3), (22, .iconst 1, 1), (23, .iconst 1, 1), (24, .newarray .int, 2), (26, .dup, 1), (27, .iconst 0, 1), (28, .iload_n 1, 1), (29, .iastore, 1), (30, .iconst 0, 1), (31, .invokestatic 86, 3), (34, .areturn, 1), (35, .aload_n 0, 1), (36, .getfield 36, 3), (39, .bipush 126, 2), (41, .if_icmp .eq 16, 3), (44, .iconst 0, 1), (45, .iconst 1, 1), (46, .newarray .int, 2), (48, .dup, 1), (49, .iconst 0, 1), (50, .iload_n 1, 1), (51, .iastore, 1), (52, .iconst 0, 1), (53, .invokestatic 86, 3), (56, .areturn, 1), (57, .aload_n 0, 1), (58, .invokevirtual 29, 3), (61, .aload_n 0, 1), (62, .getfield 83, 3), (65, .istore_n 2, 1), (66, .aload_n 0, 1), (67, .getfield 36, 3), (70, .iconst 3, 1), (71, .if_icmp .eq 8, 3), (74, .aload_n 0, 1), (75, .invokevirtual 39, 3), (78, .areturn, 1), (79, .aload_n 0, 1), (80, .invokevirtual 29, 3), (83, .aload_n 0, 1), (84, .getfield 83, 3), (87, .istore_n 3, 1), (88, .aload_n 0, 1), (89, .getfield 36, 3), (92, .iconst 2, 1), (93, .if_icmp .eq 8, 3), (96, .aload_n 0, 1), (97, .invokevirtual 39, 3), (100, .areturn, 1), (101, .aload_n 0, 1), (102, .invokevirtual 29, 3), (105, .iconst 2, 1), (106, .iconst 2, 1), (107, .newarray .int, 2), (109, .dup, 1), (110, .iconst 0, 1), (111, .iload_n 1, 1), (112, .iastore, 1), (113, .dup, 1), (114, .iconst 1, 1), (115, .iload_n 3, 1), (116, .iastore, 1), (117, .iload_n 2, 1), (118, .invokestatic 86, 3), (121, .areturn, 1)] = true := by decide +kernel
noncomputable def fX6_readWord_b121 (t0 : Option Nat) (h : PH) : Option (Option Nat × PH) :=
  some ((t0, h))
set_option maxRecDepth 100000 in
theorem mX6_readWord_b121 {t0 : Option Nat} {h : PH} {r : (Option Nat × PH)} (hf : fX6_readWord_b121 t0 h = some r) : lez h (hX r.2) (hV r.2) := by
  unfold fX6_readWord_b121 at hf
  have hle := lez_rf h
  have ee := Option.some.inj hf; subst ee; exact hle
set_option maxRecDepth 100000 in
theorem wX6_readWord_b121 {E : PE} {p : Program} {l : Launch} {e : Env} {s : State} {m : MethodId} {args : Array Value} {below : List Frame} {meth : Method} {c : Code} {X0 V0 MC MS uc us : Nat} (X : Cx E p l e (rmv 6 MC MS) s m args below meth c RX6 cX6_readWord 4 (some (.object "WordFinder$Node"))) (hG : Gs E l) (hnm : meth.name = yX6_readWord.name) {t0 : Option Nat} {h : PH} {r : (Option Nat × PH)} (hM : MC + X0 = (hX r.2)) (hN : MS + V0 = (hV r.2)) (hu : uc + X0 = hX h) (hv : us + V0 = hV h) (hf : fX6_readWord_b121 t0 h = some r)  : PW E p l e (rmv 6 MC MS) s m args below meth c 4 uc us (MQ below (QG E (fun v u => v = some (va_rf r.1) ∧ u = r.2)) args s MC MS (pA E)) h 121 [] [va_rf t0] := by
  have hm1 : lez h (hX r.2) (hV r.2) := mX6_readWord_b121 hf
  have hcm : uc ≤ MC := (by have o0 := hm1.1; have o1 := hM; have o2 := hu; (try simp only [hX_sI, hX_sR, hX_sL, hX_sD, hX_sIa, hX_sRa, hV_sI, hV_sR, hV_sL, hV_sD, hV_sIa, hV_sRa, hX_new, hV_new] at o0 o1 o2 ⊢); omega)
  have hsm : us ≤ MS := (by have o0 := hm1.2; have o1 := hN; have o2 := hv; (try simp only [hX_sI, hX_sR, hX_sL, hX_sD, hX_sIa, hX_sRa, hV_sI, hV_sR, hV_sL, hV_sD, hV_sIa, hV_sRa, hX_new, hV_new] at o0 o1 o2 ⊢); omega)
  clear hm1
  unfold fX6_readWord_b121 at hf
  have er := Option.some.inj hf
  subst er
  exact p_aret X rfl (Or.inl ⟨_, rfl⟩) (dcg dc_X6_readWord 74 rfl) ⟨rfl, rfl⟩ hcm hsm
noncomputable def fX6_readWord_b109 (v1 : Int32) (v2 : Int32) (v3 : Int32) (t0 : Int32) (t1 : Nat) (h : PH) : Option (Option Nat × PH) :=
  gd (hK h t1 = 20 ∧ inb (0 : Int32) (hN h t1)) (lt (sI h 20 t1 (Int32.toNatClampNeg (0 : Int32)) v1) (fun h12 =>
  gd (inb (1 : Int32) (hN h12 t1)) (lt (sI h12 20 t1 (Int32.toNatClampNeg (1 : Int32)) v3) (fun h14 =>
  bd (fX4_simple t0 (some t1) v2 h14) (fun z15 =>
  fX6_readWord_b121 z15.1 z15.2)))))
set_option maxRecDepth 100000 in
theorem mX6_readWord_b109 {v1 : Int32} {v2 : Int32} {v3 : Int32} {t0 : Int32} {t1 : Nat} {h : PH} {r : (Option Nat × PH)} (hf : fX6_readWord_b109 v1 v2 v3 t0 t1 h = some r) : lez h (hX r.2) (hV r.2) := by
  unfold fX6_readWord_b109 at hf
  have hle := lez_rf h
  obtain ⟨⟨hk11, hb10⟩, hf⟩ := gd_some hf
  obtain ⟨h12, rfl, hf⟩ := lt_some hf
  obtain ⟨hb13, hf⟩ := gd_some hf
  obtain ⟨h14, rfl, hf⟩ := lt_some hf
  obtain ⟨z15, hz15, hf⟩ := bd_some hf
  have hle := lez_rt (mX4_simple hz15) hle
  exact lez_rt (mX6_readWord_b121 hf) hle
set_option maxRecDepth 100000 in
theorem wX6_readWord_b109 {E : PE} {p : Program} {l : Launch} {e : Env} {s : State} {m : MethodId} {args : Array Value} {below : List Frame} {meth : Method} {c : Code} {X0 V0 MC MS uc us : Nat} (X : Cx E p l e (rmv 6 MC MS) s m args below meth c RX6 cX6_readWord 4 (some (.object "WordFinder$Node"))) (hG : Gs E l) (hnm : meth.name = yX6_readWord.name) {v1 : Int32} {v2 : Int32} {v3 : Int32} {t0 : Int32} {t1 : Nat} {h : PH} {r : (Option Nat × PH)} (hM : MC + X0 = (hX r.2)) (hN : MS + V0 = (hV r.2)) (hu : uc + X0 = hX h) (hv : us + V0 = hV h) (hf : fX6_readWord_b109 v1 v2 v3 t0 t1 h = some r)  : PW E p l e (rmv 6 MC MS) s m args below meth c 4 uc us (MQ below (QG E (fun v u => v = some (va_rf r.1) ∧ u = r.2)) args s MC MS (pA E)) h 109 [(1, some (.int v1)), (2, some (.int v2)), (3, some (.int v3))] [.ref t1, .int t0] := by
  have hm1 : lez h (hX r.2) (hV r.2) := mX6_readWord_b109 hf
  have hcm : uc ≤ MC := (by have o0 := hm1.1; have o1 := hM; have o2 := hu; (try simp only [hX_sI, hX_sR, hX_sL, hX_sD, hX_sIa, hX_sRa, hV_sI, hV_sR, hV_sL, hV_sD, hV_sIa, hV_sRa, hX_new, hV_new] at o0 o1 o2 ⊢); omega)
  have hsm : us ≤ MS := (by have o0 := hm1.2; have o1 := hN; have o2 := hv; (try simp only [hX_sI, hX_sR, hX_sL, hX_sD, hX_sIa, hX_sRa, hV_sI, hV_sR, hV_sL, hV_sD, hV_sIa, hV_sRa, hX_new, hV_new] at o0 o1 o2 ⊢); omega)
  clear hm1
  unfold fX6_readWord_b109 at hf
  refine p_dup X (dcg dc_X6_readWord 64 rfl) rfl ?_
  refine p_iconst (v := 0) X (dcg dc_X6_readWord 65 rfl) (by decide) ?_
  refine p_iload_n X (dcg dc_X6_readWord 66 rfl) rfl rfl ?_
  obtain ⟨⟨hk11, hb10⟩, hf⟩ := gd_some hf
  refine p_iast X (dcg dc_X6_readWord 67 rfl) hk11 (vp_of_inb hb10) ?_
  obtain ⟨h12, rfl, hf⟩ := lt_some hf
  refine p_dup X (dcg dc_X6_readWord 68 rfl) rfl ?_
  refine p_iconst (v := 1) X (dcg dc_X6_readWord 69 rfl) (by decide) ?_
  refine p_iload_n X (dcg dc_X6_readWord 70 rfl) rfl rfl ?_
  obtain ⟨hb13, hf⟩ := gd_some hf
  refine p_iast X (dcg dc_X6_readWord 71 rfl) hk11 (vp_of_inb hb13) ?_
  obtain ⟨h14, rfl, hf⟩ := lt_some hf
  refine p_iload_n X (dcg dc_X6_readWord 72 rfl) rfl rfl ?_
  obtain ⟨z15, hz15, hf⟩ := bd_some hf
  have hc1 := mX4_simple hz15
  have hm1 : lez _ (hX r.2) (hV r.2) := mX6_readWord_b121 hf
  refine p_callS (As := [_, va_rf (some _), _]) X ml_X6_86 (dcg dc_X6_readWord 73 rfl) rfl rfl  (wX4_simple hG hz15) (by decide) (room4 (Nat.le_of_ble_eq_true rfl)) (by have o0 := hm1.1; have o1 := hc1.1; have o2 := hM; have o3 := hu; (try simp only [hX_sI, hX_sR, hX_sL, hX_sD, hX_sIa, hX_sRa, hV_sI, hV_sR, hV_sL, hV_sD, hV_sIa, hV_sRa, hX_new, hV_new] at o0 o1 o2 o3 ⊢); omega) (by have o0 := hm1.2; have o1 := hc1.2; have o2 := hN; have o3 := hv; (try simp only [hX_sI, hX_sR, hX_sL, hX_sD, hX_sIa, hX_sRa, hV_sI, hV_sR, hV_sL, hV_sD, hV_sIa, hV_sRa, hX_new, hV_new] at o0 o1 o2 o3 ⊢); omega) ?_
  rintro _ u9 ⟨rfl, e9⟩; have e9 := e9.symm; subst e9
  refine p_pick [] ?_
  exact wX6_readWord_b121 X hG hnm hM hN (by have o0 := hc1.1; have o1 := hu; (try simp only [hX_sI, hX_sR, hX_sL, hX_sD, hX_sIa, hX_sRa, hV_sI, hV_sR, hV_sL, hV_sD, hV_sIa, hV_sRa, hX_new, hV_new] at o0 o1 ⊢); omega) (by have o0 := hc1.2; have o1 := hv; (try simp only [hX_sI, hX_sR, hX_sL, hX_sD, hX_sIa, hX_sRa, hV_sI, hV_sR, hV_sL, hV_sD, hV_sIa, hV_sRa, hX_new, hV_new] at o0 o1 ⊢); omega) hf 
noncomputable def fX6_readWord_b56 (t0 : Option Nat) (h : PH) : Option (Option Nat × PH) :=
  some ((t0, h))
set_option maxRecDepth 100000 in
theorem mX6_readWord_b56 {t0 : Option Nat} {h : PH} {r : (Option Nat × PH)} (hf : fX6_readWord_b56 t0 h = some r) : lez h (hX r.2) (hV r.2) := by
  unfold fX6_readWord_b56 at hf
  have hle := lez_rf h
  have ee := Option.some.inj hf; subst ee; exact hle
set_option maxRecDepth 100000 in
theorem wX6_readWord_b56 {E : PE} {p : Program} {l : Launch} {e : Env} {s : State} {m : MethodId} {args : Array Value} {below : List Frame} {meth : Method} {c : Code} {X0 V0 MC MS uc us : Nat} (X : Cx E p l e (rmv 6 MC MS) s m args below meth c RX6 cX6_readWord 4 (some (.object "WordFinder$Node"))) (hG : Gs E l) (hnm : meth.name = yX6_readWord.name) {t0 : Option Nat} {h : PH} {r : (Option Nat × PH)} (hM : MC + X0 = (hX r.2)) (hN : MS + V0 = (hV r.2)) (hu : uc + X0 = hX h) (hv : us + V0 = hV h) (hf : fX6_readWord_b56 t0 h = some r)  : PW E p l e (rmv 6 MC MS) s m args below meth c 4 uc us (MQ below (QG E (fun v u => v = some (va_rf r.1) ∧ u = r.2)) args s MC MS (pA E)) h 56 [] [va_rf t0] := by
  have hm1 : lez h (hX r.2) (hV r.2) := mX6_readWord_b56 hf
  have hcm : uc ≤ MC := (by have o0 := hm1.1; have o1 := hM; have o2 := hu; (try simp only [hX_sI, hX_sR, hX_sL, hX_sD, hX_sIa, hX_sRa, hV_sI, hV_sR, hV_sL, hV_sD, hV_sIa, hV_sRa, hX_new, hV_new] at o0 o1 o2 ⊢); omega)
  have hsm : us ≤ MS := (by have o0 := hm1.2; have o1 := hN; have o2 := hv; (try simp only [hX_sI, hX_sR, hX_sL, hX_sD, hX_sIa, hX_sRa, hV_sI, hV_sR, hV_sL, hV_sD, hV_sIa, hV_sRa, hX_new, hV_new] at o0 o1 o2 ⊢); omega)
  clear hm1
  unfold fX6_readWord_b56 at hf
  have er := Option.some.inj hf
  subst er
  exact p_aret X rfl (Or.inl ⟨_, rfl⟩) (dcg dc_X6_readWord 34 rfl) ⟨rfl, rfl⟩ hcm hsm
noncomputable def fX6_readWord_b48 (v1 : Int32) (t0 : Int32) (t1 : Nat) (h : PH) : Option (Option Nat × PH) :=
  gd (hK h t1 = 20 ∧ inb (0 : Int32) (hN h t1)) (lt (sI h 20 t1 (Int32.toNatClampNeg (0 : Int32)) v1) (fun h21 =>
  bd (fX4_simple t0 (some t1) (0 : Int32) h21) (fun z22 =>
  fX6_readWord_b56 z22.1 z22.2)))
set_option maxRecDepth 100000 in
theorem mX6_readWord_b48 {v1 : Int32} {t0 : Int32} {t1 : Nat} {h : PH} {r : (Option Nat × PH)} (hf : fX6_readWord_b48 v1 t0 t1 h = some r) : lez h (hX r.2) (hV r.2) := by
  unfold fX6_readWord_b48 at hf
  have hle := lez_rf h
  obtain ⟨⟨hk20, hb19⟩, hf⟩ := gd_some hf
  obtain ⟨h21, rfl, hf⟩ := lt_some hf
  obtain ⟨z22, hz22, hf⟩ := bd_some hf
  have hle := lez_rt (mX4_simple hz22) hle
  exact lez_rt (mX6_readWord_b56 hf) hle
set_option maxRecDepth 100000 in
theorem wX6_readWord_b48 {E : PE} {p : Program} {l : Launch} {e : Env} {s : State} {m : MethodId} {args : Array Value} {below : List Frame} {meth : Method} {c : Code} {X0 V0 MC MS uc us : Nat} (X : Cx E p l e (rmv 6 MC MS) s m args below meth c RX6 cX6_readWord 4 (some (.object "WordFinder$Node"))) (hG : Gs E l) (hnm : meth.name = yX6_readWord.name) {v1 : Int32} {t0 : Int32} {t1 : Nat} {h : PH} {r : (Option Nat × PH)} (hM : MC + X0 = (hX r.2)) (hN : MS + V0 = (hV r.2)) (hu : uc + X0 = hX h) (hv : us + V0 = hV h) (hf : fX6_readWord_b48 v1 t0 t1 h = some r)  : PW E p l e (rmv 6 MC MS) s m args below meth c 4 uc us (MQ below (QG E (fun v u => v = some (va_rf r.1) ∧ u = r.2)) args s MC MS (pA E)) h 48 [(1, some (.int v1))] [.ref t1, .int t0] := by
  have hm1 : lez h (hX r.2) (hV r.2) := mX6_readWord_b48 hf
  have hcm : uc ≤ MC := (by have o0 := hm1.1; have o1 := hM; have o2 := hu; (try simp only [hX_sI, hX_sR, hX_sL, hX_sD, hX_sIa, hX_sRa, hV_sI, hV_sR, hV_sL, hV_sD, hV_sIa, hV_sRa, hX_new, hV_new] at o0 o1 o2 ⊢); omega)
  have hsm : us ≤ MS := (by have o0 := hm1.2; have o1 := hN; have o2 := hv; (try simp only [hX_sI, hX_sR, hX_sL, hX_sD, hX_sIa, hX_sRa, hV_sI, hV_sR, hV_sL, hV_sD, hV_sIa, hV_sRa, hX_new, hV_new] at o0 o1 o2 ⊢); omega)
  clear hm1
  unfold fX6_readWord_b48 at hf
  refine p_dup X (dcg dc_X6_readWord 28 rfl) rfl ?_
  refine p_iconst (v := 0) X (dcg dc_X6_readWord 29 rfl) (by decide) ?_
  refine p_iload_n X (dcg dc_X6_readWord 30 rfl) rfl rfl ?_
  obtain ⟨⟨hk20, hb19⟩, hf⟩ := gd_some hf
  refine p_iast X (dcg dc_X6_readWord 31 rfl) hk20 (vp_of_inb hb19) ?_
  obtain ⟨h21, rfl, hf⟩ := lt_some hf
  refine p_iconst (v := 0) X (dcg dc_X6_readWord 32 rfl) (by decide) ?_
  obtain ⟨z22, hz22, hf⟩ := bd_some hf
  have hc1 := mX4_simple hz22
  have hm1 : lez _ (hX r.2) (hV r.2) := mX6_readWord_b56 hf
  refine p_callS (As := [_, va_rf (some _), _]) X ml_X6_86 (dcg dc_X6_readWord 33 rfl) rfl rfl  (wX4_simple hG hz22) (by decide) (room4 (Nat.le_of_ble_eq_true rfl)) (by have o0 := hm1.1; have o1 := hc1.1; have o2 := hM; have o3 := hu; (try simp only [hX_sI, hX_sR, hX_sL, hX_sD, hX_sIa, hX_sRa, hV_sI, hV_sR, hV_sL, hV_sD, hV_sIa, hV_sRa, hX_new, hV_new] at o0 o1 o2 o3 ⊢); omega) (by have o0 := hm1.2; have o1 := hc1.2; have o2 := hN; have o3 := hv; (try simp only [hX_sI, hX_sR, hX_sL, hX_sD, hX_sIa, hX_sRa, hV_sI, hV_sR, hV_sL, hV_sD, hV_sIa, hV_sRa, hX_new, hV_new] at o0 o1 o2 o3 ⊢); omega) ?_
  rintro _ u9 ⟨rfl, e9⟩; have e9 := e9.symm; subst e9
  refine p_pick [] ?_
  exact wX6_readWord_b56 X hG hnm hM hN (by have o0 := hc1.1; have o1 := hu; (try simp only [hX_sI, hX_sR, hX_sL, hX_sD, hX_sIa, hX_sRa, hV_sI, hV_sR, hV_sL, hV_sD, hV_sIa, hV_sRa, hX_new, hV_new] at o0 o1 ⊢); omega) (by have o0 := hc1.2; have o1 := hv; (try simp only [hX_sI, hX_sR, hX_sL, hX_sD, hX_sIa, hX_sRa, hV_sI, hV_sR, hV_sL, hV_sD, hV_sIa, hV_sRa, hX_new, hV_new] at o0 o1 ⊢); omega) hf 
noncomputable def fX6_readWord_b34 (t0 : Option Nat) (h : PH) : Option (Option Nat × PH) :=
  some ((t0, h))
set_option maxRecDepth 100000 in
theorem mX6_readWord_b34 {t0 : Option Nat} {h : PH} {r : (Option Nat × PH)} (hf : fX6_readWord_b34 t0 h = some r) : lez h (hX r.2) (hV r.2) := by
  unfold fX6_readWord_b34 at hf
  have hle := lez_rf h
  have ee := Option.some.inj hf; subst ee; exact hle
set_option maxRecDepth 100000 in
theorem wX6_readWord_b34 {E : PE} {p : Program} {l : Launch} {e : Env} {s : State} {m : MethodId} {args : Array Value} {below : List Frame} {meth : Method} {c : Code} {X0 V0 MC MS uc us : Nat} (X : Cx E p l e (rmv 6 MC MS) s m args below meth c RX6 cX6_readWord 4 (some (.object "WordFinder$Node"))) (hG : Gs E l) (hnm : meth.name = yX6_readWord.name) {t0 : Option Nat} {h : PH} {r : (Option Nat × PH)} (hM : MC + X0 = (hX r.2)) (hN : MS + V0 = (hV r.2)) (hu : uc + X0 = hX h) (hv : us + V0 = hV h) (hf : fX6_readWord_b34 t0 h = some r)  : PW E p l e (rmv 6 MC MS) s m args below meth c 4 uc us (MQ below (QG E (fun v u => v = some (va_rf r.1) ∧ u = r.2)) args s MC MS (pA E)) h 34 [] [va_rf t0] := by
  have hm1 : lez h (hX r.2) (hV r.2) := mX6_readWord_b34 hf
  have hcm : uc ≤ MC := (by have o0 := hm1.1; have o1 := hM; have o2 := hu; (try simp only [hX_sI, hX_sR, hX_sL, hX_sD, hX_sIa, hX_sRa, hV_sI, hV_sR, hV_sL, hV_sD, hV_sIa, hV_sRa, hX_new, hV_new] at o0 o1 o2 ⊢); omega)
  have hsm : us ≤ MS := (by have o0 := hm1.2; have o1 := hN; have o2 := hv; (try simp only [hX_sI, hX_sR, hX_sL, hX_sD, hX_sIa, hX_sRa, hV_sI, hV_sR, hV_sL, hV_sD, hV_sIa, hV_sRa, hX_new, hV_new] at o0 o1 o2 ⊢); omega)
  clear hm1
  unfold fX6_readWord_b34 at hf
  have er := Option.some.inj hf
  subst er
  exact p_aret X rfl (Or.inl ⟨_, rfl⟩) (dcg dc_X6_readWord 20 rfl) ⟨rfl, rfl⟩ hcm hsm
noncomputable def fX6_readWord_b26 (v1 : Int32) (t0 : Int32) (t1 : Nat) (h : PH) : Option (Option Nat × PH) :=
  gd (hK h t1 = 20 ∧ inb (0 : Int32) (hN h t1)) (lt (sI h 20 t1 (Int32.toNatClampNeg (0 : Int32)) v1) (fun h27 =>
  bd (fX4_simple t0 (some t1) (0 : Int32) h27) (fun z28 =>
  fX6_readWord_b34 z28.1 z28.2)))
set_option maxRecDepth 100000 in
theorem mX6_readWord_b26 {v1 : Int32} {t0 : Int32} {t1 : Nat} {h : PH} {r : (Option Nat × PH)} (hf : fX6_readWord_b26 v1 t0 t1 h = some r) : lez h (hX r.2) (hV r.2) := by
  unfold fX6_readWord_b26 at hf
  have hle := lez_rf h
  obtain ⟨⟨hk26, hb25⟩, hf⟩ := gd_some hf
  obtain ⟨h27, rfl, hf⟩ := lt_some hf
  obtain ⟨z28, hz28, hf⟩ := bd_some hf
  have hle := lez_rt (mX4_simple hz28) hle
  exact lez_rt (mX6_readWord_b34 hf) hle
set_option maxRecDepth 100000 in
theorem wX6_readWord_b26 {E : PE} {p : Program} {l : Launch} {e : Env} {s : State} {m : MethodId} {args : Array Value} {below : List Frame} {meth : Method} {c : Code} {X0 V0 MC MS uc us : Nat} (X : Cx E p l e (rmv 6 MC MS) s m args below meth c RX6 cX6_readWord 4 (some (.object "WordFinder$Node"))) (hG : Gs E l) (hnm : meth.name = yX6_readWord.name) {v1 : Int32} {t0 : Int32} {t1 : Nat} {h : PH} {r : (Option Nat × PH)} (hM : MC + X0 = (hX r.2)) (hN : MS + V0 = (hV r.2)) (hu : uc + X0 = hX h) (hv : us + V0 = hV h) (hf : fX6_readWord_b26 v1 t0 t1 h = some r)  : PW E p l e (rmv 6 MC MS) s m args below meth c 4 uc us (MQ below (QG E (fun v u => v = some (va_rf r.1) ∧ u = r.2)) args s MC MS (pA E)) h 26 [(1, some (.int v1))] [.ref t1, .int t0] := by
  have hm1 : lez h (hX r.2) (hV r.2) := mX6_readWord_b26 hf
  have hcm : uc ≤ MC := (by have o0 := hm1.1; have o1 := hM; have o2 := hu; (try simp only [hX_sI, hX_sR, hX_sL, hX_sD, hX_sIa, hX_sRa, hV_sI, hV_sR, hV_sL, hV_sD, hV_sIa, hV_sRa, hX_new, hV_new] at o0 o1 o2 ⊢); omega)
  have hsm : us ≤ MS := (by have o0 := hm1.2; have o1 := hN; have o2 := hv; (try simp only [hX_sI, hX_sR, hX_sL, hX_sD, hX_sIa, hX_sRa, hV_sI, hV_sR, hV_sL, hV_sD, hV_sIa, hV_sRa, hX_new, hV_new] at o0 o1 o2 ⊢); omega)
  clear hm1
  unfold fX6_readWord_b26 at hf
  refine p_dup X (dcg dc_X6_readWord 14 rfl) rfl ?_
  refine p_iconst (v := 0) X (dcg dc_X6_readWord 15 rfl) (by decide) ?_
  refine p_iload_n X (dcg dc_X6_readWord 16 rfl) rfl rfl ?_
  obtain ⟨⟨hk26, hb25⟩, hf⟩ := gd_some hf
  refine p_iast X (dcg dc_X6_readWord 17 rfl) hk26 (vp_of_inb hb25) ?_
  obtain ⟨h27, rfl, hf⟩ := lt_some hf
  refine p_iconst (v := 0) X (dcg dc_X6_readWord 18 rfl) (by decide) ?_
  obtain ⟨z28, hz28, hf⟩ := bd_some hf
  have hc1 := mX4_simple hz28
  have hm1 : lez _ (hX r.2) (hV r.2) := mX6_readWord_b34 hf
  refine p_callS (As := [_, va_rf (some _), _]) X ml_X6_86 (dcg dc_X6_readWord 19 rfl) rfl rfl  (wX4_simple hG hz28) (by decide) (room4 (Nat.le_of_ble_eq_true rfl)) (by have o0 := hm1.1; have o1 := hc1.1; have o2 := hM; have o3 := hu; (try simp only [hX_sI, hX_sR, hX_sL, hX_sD, hX_sIa, hX_sRa, hV_sI, hV_sR, hV_sL, hV_sD, hV_sIa, hV_sRa, hX_new, hV_new] at o0 o1 o2 o3 ⊢); omega) (by have o0 := hm1.2; have o1 := hc1.2; have o2 := hN; have o3 := hv; (try simp only [hX_sI, hX_sR, hX_sL, hX_sD, hX_sIa, hX_sRa, hV_sI, hV_sR, hV_sL, hV_sD, hV_sIa, hV_sRa, hX_new, hV_new] at o0 o1 o2 o3 ⊢); omega) ?_
  rintro _ u9 ⟨rfl, e9⟩; have e9 := e9.symm; subst e9
  refine p_pick [] ?_
  exact wX6_readWord_b34 X hG hnm hM hN (by have o0 := hc1.1; have o1 := hu; (try simp only [hX_sI, hX_sR, hX_sL, hX_sD, hX_sIa, hX_sRa, hV_sI, hV_sR, hV_sL, hV_sD, hV_sIa, hV_sRa, hX_new, hV_new] at o0 o1 ⊢); omega) (by have o0 := hc1.2; have o1 := hv; (try simp only [hX_sI, hX_sR, hX_sL, hX_sD, hX_sIa, hX_sRa, hV_sI, hV_sR, hV_sL, hV_sD, hV_sIa, hV_sRa, hX_new, hV_new] at o0 o1 ⊢); omega) hf 
noncomputable def fX6_readWord_b0 (v0 : Nat) (h : PH) : Option (Option Nat × PH) :=
  gd (hK h v0 = 6) (bd (fX6_advance v0 h) (fun z2 =>
  gd (hK z2 v0 = 6) (if (¬ (hI z2 6 v0 3) = (42 : Int32)) then (if ((hI z2 6 v0 3) = (126 : Int32)) then (bd (fX6_advance v0 z2) (fun z4 =>
  gd (hK z4 v0 = 6) (if ((hI z4 6 v0 3) = (3 : Int32)) then (bd (fX6_advance v0 z4) (fun z6 =>
  gd (hK z6 v0 = 6) (if ((hI z6 6 v0 3) = (2 : Int32)) then (bd (fX6_advance v0 z6) (fun z8 =>
  gd (¬ (2 : Int32) < 0 ∧ (Int32.toNatClampNeg (2 : Int32)) ≤ 1000000) (fX6_readWord_b109 (hI h 6 v0 5) (hI z4 6 v0 5) (hI z6 6 v0 5) (2 : Int32) (hX z8) (hnew z8 20 (Int32.toNatClampNeg (2 : Int32)))))) else
  bd (fX6_fail v0 z6) (fun z16 =>
  some ((z16.1, z16.2)))))) else
  bd (fX6_fail v0 z4) (fun z17 =>
  some ((z17.1, z17.2)))))) else
  gd (¬ (1 : Int32) < 0 ∧ (Int32.toNatClampNeg (1 : Int32)) ≤ 1000000) (fX6_readWord_b48 (hI h 6 v0 5) (0 : Int32) (hX z2) (hnew z2 20 (Int32.toNatClampNeg (1 : Int32))))) else
  bd (fX6_advance v0 z2) (fun z23 =>
  gd (¬ (1 : Int32) < 0 ∧ (Int32.toNatClampNeg (1 : Int32)) ≤ 1000000) (fX6_readWord_b26 (hI h 6 v0 5) (1 : Int32) (hX z23) (hnew z23 20 (Int32.toNatClampNeg (1 : Int32))))))))
set_option maxRecDepth 100000 in
theorem mX6_readWord_b0 {v0 : Nat} {h : PH} {r : (Option Nat × PH)} (hf : fX6_readWord_b0 v0 h = some r) : lez h (hX r.2) (hV r.2) := by
  unfold fX6_readWord_b0 at hf
  have hle := lez_rf h
  obtain ⟨hk1, hf⟩ := gd_some hf
  obtain ⟨z2, hz2, hf⟩ := bd_some hf
  have hle := lez_rt (lez_eq (mX6_advance hz2)) hle
  obtain ⟨hk3, hf⟩ := gd_some hf
  rcases ite_or hf with ⟨q, hf⟩ | ⟨q, hf⟩
  · have hf := if_t q hf
    rcases ite_or hf with ⟨q, hf⟩ | ⟨q, hf⟩
    · have hf := if_t q hf
      obtain ⟨z4, hz4, hf⟩ := bd_some hf
      have hle := lez_rt (lez_eq (mX6_advance hz4)) hle
      obtain ⟨hk5, hf⟩ := gd_some hf
      rcases ite_or hf with ⟨q, hf⟩ | ⟨q, hf⟩
      · have hf := if_t q hf
        obtain ⟨z6, hz6, hf⟩ := bd_some hf
        have hle := lez_rt (lez_eq (mX6_advance hz6)) hle
        obtain ⟨hk7, hf⟩ := gd_some hf
        rcases ite_or hf with ⟨q, hf⟩ | ⟨q, hf⟩
        · have hf := if_t q hf
          obtain ⟨z8, hz8, hf⟩ := bd_some hf
          have hle := lez_rt (lez_eq (mX6_advance hz8)) hle
          obtain ⟨hg9, hf⟩ := gd_some hf
          have hle := lez_nw (c := 20) (n := (Int32.toNatClampNeg (2 : Int32))) hle
          exact lez_rt (mX6_readWord_b109 hf) hle
        · have hf := if_f q hf
          obtain ⟨z16, hz16, hf⟩ := bd_some hf
          have hle := lez_rt (lez_eq (mX6_fail hz16)) hle
          have ee := Option.some.inj hf; subst ee; exact hle
      · have hf := if_f q hf
        obtain ⟨z17, hz17, hf⟩ := bd_some hf
        have hle := lez_rt (lez_eq (mX6_fail hz17)) hle
        have ee := Option.some.inj hf; subst ee; exact hle
    · have hf := if_f q hf
      obtain ⟨hg18, hf⟩ := gd_some hf
      have hle := lez_nw (c := 20) (n := (Int32.toNatClampNeg (1 : Int32))) hle
      exact lez_rt (mX6_readWord_b48 hf) hle
  · have hf := if_f q hf
    obtain ⟨z23, hz23, hf⟩ := bd_some hf
    have hle := lez_rt (lez_eq (mX6_advance hz23)) hle
    obtain ⟨hg24, hf⟩ := gd_some hf
    have hle := lez_nw (c := 20) (n := (Int32.toNatClampNeg (1 : Int32))) hle
    exact lez_rt (mX6_readWord_b26 hf) hle
set_option maxRecDepth 100000 in
theorem wX6_readWord_b0 {E : PE} {p : Program} {l : Launch} {e : Env} {s : State} {m : MethodId} {args : Array Value} {below : List Frame} {meth : Method} {c : Code} {X0 V0 MC MS uc us : Nat} (X : Cx E p l e (rmv 6 MC MS) s m args below meth c RX6 cX6_readWord 4 (some (.object "WordFinder$Node"))) (hG : Gs E l) (hnm : meth.name = yX6_readWord.name) {v0 : Nat} {h : PH} {r : (Option Nat × PH)} (hM : MC + X0 = (hX r.2)) (hN : MS + V0 = (hV r.2)) (hu : uc + X0 = hX h) (hv : us + V0 = hV h) (hf : fX6_readWord_b0 v0 h = some r)  : PW E p l e (rmv 6 MC MS) s m args below meth c 4 uc us (MQ below (QG E (fun v u => v = some (va_rf r.1) ∧ u = r.2)) args s MC MS (pA E)) h 0 [(0, some (.ref v0))] [] := by
  have hm1 : lez h (hX r.2) (hV r.2) := mX6_readWord_b0 hf
  have hcm : uc ≤ MC := (by have o0 := hm1.1; have o1 := hM; have o2 := hu; (try simp only [hX_sI, hX_sR, hX_sL, hX_sD, hX_sIa, hX_sRa, hV_sI, hV_sR, hV_sL, hV_sD, hV_sIa, hV_sRa, hX_new, hV_new] at o0 o1 o2 ⊢); omega)
  have hsm : us ≤ MS := (by have o0 := hm1.2; have o1 := hN; have o2 := hv; (try simp only [hX_sI, hX_sR, hX_sL, hX_sD, hX_sIa, hX_sRa, hV_sI, hV_sR, hV_sL, hV_sD, hV_sIa, hV_sRa, hX_new, hV_new] at o0 o1 o2 ⊢); omega)
  clear hm1
  unfold fX6_readWord_b0 at hf
  refine p_aload_n X (dcg dc_X6_readWord 0 rfl) rfl rfl ?_
  obtain ⟨hk1, hf⟩ := gd_some hf
  refine p_getI X fl_X6_83 rfl (by decide) (dcg dc_X6_readWord 1 rfl) hk1 ?_
  refine p_istore_n X (dcg dc_X6_readWord 2 rfl) rfl (by decide) rfl ?_
  refine p_aload_n X (dcg dc_X6_readWord 3 rfl) rfl rfl ?_
  obtain ⟨z2, hz2, hf⟩ := bd_some hf
  refine p_callV (As := []) X ml_X6_29 (dcg dc_X6_readWord 4 rfl) rfl rfl hk1 (wX6_advance hG hz2) (by decide) (room4 (Nat.le_of_ble_eq_true rfl)) hcm hsm ?_
  rintro _ u9 ⟨rfl, e9⟩; have e9 := e9.symm; subst e9
  have hu := hu.trans (mX6_advance hz2).1
  have hv := hv.trans (mX6_advance hz2).2
  refine p_aload_n X (dcg dc_X6_readWord 5 rfl) rfl rfl ?_
  obtain ⟨hk3, hf⟩ := gd_some hf
  refine p_getI X fl_X6_36 rfl (by decide) (dcg dc_X6_readWord 6 rfl) hk3 ?_
  refine p_bipush (v := 42) X (dcg dc_X6_readWord 7 rfl) (by decide) ?_
  refine p_icmp_ne (tgt := 35) X (dcg dc_X6_readWord 8 rfl) (by decide) (fun q => ?_) (fun q => ?_)
  · have hf := if_t q hf
    refine p_aload_n X (dcg dc_X6_readWord 21 rfl) rfl rfl ?_
    refine p_getI X fl_X6_36 rfl (by decide) (dcg dc_X6_readWord 22 rfl) hk3 ?_
    refine p_bipush (v := 126) X (dcg dc_X6_readWord 23 rfl) (by decide) ?_
    refine p_icmp_eq (tgt := 57) X (dcg dc_X6_readWord 24 rfl) (by decide) (fun q => ?_) (fun q => ?_)
    · have hf := if_t q hf
      refine p_aload_n X (dcg dc_X6_readWord 35 rfl) rfl rfl ?_
      obtain ⟨z4, hz4, hf⟩ := bd_some hf
      refine p_callV (As := []) X ml_X6_29 (dcg dc_X6_readWord 36 rfl) rfl rfl hk3 (wX6_advance hG hz4) (by decide) (room4 (Nat.le_of_ble_eq_true rfl)) hcm hsm ?_
      rintro _ u9 ⟨rfl, e9⟩; have e9 := e9.symm; subst e9
      have hu := hu.trans (mX6_advance hz4).1
      have hv := hv.trans (mX6_advance hz4).2
      refine p_aload_n X (dcg dc_X6_readWord 37 rfl) rfl rfl ?_
      obtain ⟨hk5, hf⟩ := gd_some hf
      refine p_getI X fl_X6_83 rfl (by decide) (dcg dc_X6_readWord 38 rfl) hk5 ?_
      refine p_istore_n X (dcg dc_X6_readWord 39 rfl) rfl (by decide) rfl ?_
      refine p_aload_n X (dcg dc_X6_readWord 40 rfl) rfl rfl ?_
      refine p_getI X fl_X6_36 rfl (by decide) (dcg dc_X6_readWord 41 rfl) hk5 ?_
      refine p_iconst (v := 3) X (dcg dc_X6_readWord 42 rfl) (by decide) ?_
      refine p_icmp_eq (tgt := 79) X (dcg dc_X6_readWord 43 rfl) (by decide) (fun q => ?_) (fun q => ?_)
      · have hf := if_t q hf
        refine p_aload_n X (dcg dc_X6_readWord 47 rfl) rfl rfl ?_
        obtain ⟨z6, hz6, hf⟩ := bd_some hf
        refine p_callV (As := []) X ml_X6_29 (dcg dc_X6_readWord 48 rfl) rfl rfl hk5 (wX6_advance hG hz6) (by decide) (room4 (Nat.le_of_ble_eq_true rfl)) hcm hsm ?_
        rintro _ u9 ⟨rfl, e9⟩; have e9 := e9.symm; subst e9
        have hu := hu.trans (mX6_advance hz6).1
        have hv := hv.trans (mX6_advance hz6).2
        refine p_aload_n X (dcg dc_X6_readWord 49 rfl) rfl rfl ?_
        obtain ⟨hk7, hf⟩ := gd_some hf
        refine p_getI X fl_X6_83 rfl (by decide) (dcg dc_X6_readWord 50 rfl) hk7 ?_
        refine p_istore_n X (dcg dc_X6_readWord 51 rfl) rfl (by decide) rfl ?_
        refine p_aload_n X (dcg dc_X6_readWord 52 rfl) rfl rfl ?_
        refine p_getI X fl_X6_36 rfl (by decide) (dcg dc_X6_readWord 53 rfl) hk7 ?_
        refine p_iconst (v := 2) X (dcg dc_X6_readWord 54 rfl) (by decide) ?_
        refine p_icmp_eq (tgt := 101) X (dcg dc_X6_readWord 55 rfl) (by decide) (fun q => ?_) (fun q => ?_)
        · have hf := if_t q hf
          refine p_aload_n X (dcg dc_X6_readWord 59 rfl) rfl rfl ?_
          obtain ⟨z8, hz8, hf⟩ := bd_some hf
          refine p_callV (As := []) X ml_X6_29 (dcg dc_X6_readWord 60 rfl) rfl rfl hk7 (wX6_advance hG hz8) (by decide) (room4 (Nat.le_of_ble_eq_true rfl)) hcm hsm ?_
          rintro _ u9 ⟨rfl, e9⟩; have e9 := e9.symm; subst e9
          have hu := hu.trans (mX6_advance hz8).1
          have hv := hv.trans (mX6_advance hz8).2
          refine p_iconst (v := 2) X (dcg dc_X6_readWord 61 rfl) (by decide) ?_
          refine p_iconst (v := 2) X (dcg dc_X6_readWord 62 rfl) (by decide) ?_
          obtain ⟨hg9, hf⟩ := gd_some hf
          have hm1 : lez _ (hX r.2) (hV r.2) := mX6_readWord_b109 hf
          have hm2 := lez_new hm1
          refine p_newa20 X tw_168 (dcg dc_X6_readWord 63 rfl) hg9.1 hg9.2 (show uc + 1 ≤ MC from (by have o0 := hm2.1; have o1 := hM; have o2 := hu; (try simp only [hX_sI, hX_sR, hX_sL, hX_sD, hX_sIa, hX_sRa, hV_sI, hV_sR, hV_sL, hV_sD, hV_sIa, hV_sRa, hX_new, hV_new] at o0 o1 o2 ⊢); omega)) (show us + (Int32.toNatClampNeg (2 : Int32)) ≤ MS from (by have o0 := hm2.2; have o1 := hN; have o2 := hv; (try simp only [hX_sI, hX_sR, hX_sL, hX_sD, hX_sIa, hX_sRa, hV_sI, hV_sR, hV_sL, hV_sD, hV_sIa, hV_sRa, hX_new, hV_new] at o0 o1 o2 ⊢); omega)) ?_
          refine p_pick [1, 2, 3] ?_
          exact wX6_readWord_b109 X hG hnm hM hN (by have o0 := hu; (try simp only [hX_sI, hX_sR, hX_sL, hX_sD, hX_sIa, hX_sRa, hV_sI, hV_sR, hV_sL, hV_sD, hV_sIa, hV_sRa, hX_new, hV_new] at o0 ⊢); omega) (by have o0 := hv; (try simp only [hX_sI, hX_sR, hX_sL, hX_sD, hX_sIa, hX_sRa, hV_sI, hV_sR, hV_sL, hV_sD, hV_sIa, hV_sRa, hX_new, hV_new] at o0 ⊢); omega) hf 
        · have hf := if_f q hf
          refine p_aload_n X (dcg dc_X6_readWord 56 rfl) rfl rfl ?_
          obtain ⟨z16, hz16, hf⟩ := bd_some hf
          refine p_callV (As := []) X ml_X6_39 (dcg dc_X6_readWord 57 rfl) rfl rfl hk7 (wX6_fail hG hz16) (by decide) (room4 (Nat.le_of_ble_eq_true rfl)) hcm hsm ?_
          rintro _ u9 ⟨rfl, e9⟩; have e9 := e9.symm; subst e9
          have hu := hu.trans (mX6_fail hz16).1
          have hv := hv.trans (mX6_fail hz16).2
          have er := Option.some.inj hf
          subst er
          exact p_aret X rfl (Or.inl ⟨_, rfl⟩) (dcg dc_X6_readWord 58 rfl) ⟨rfl, rfl⟩ hcm hsm
      · have hf := if_f q hf
        refine p_aload_n X (dcg dc_X6_readWord 44 rfl) rfl rfl ?_
        obtain ⟨z17, hz17, hf⟩ := bd_some hf
        refine p_callV (As := []) X ml_X6_39 (dcg dc_X6_readWord 45 rfl) rfl rfl hk5 (wX6_fail hG hz17) (by decide) (room4 (Nat.le_of_ble_eq_true rfl)) hcm hsm ?_
        rintro _ u9 ⟨rfl, e9⟩; have e9 := e9.symm; subst e9
        have hu := hu.trans (mX6_fail hz17).1
        have hv := hv.trans (mX6_fail hz17).2
        have er := Option.some.inj hf
        subst er
        exact p_aret X rfl (Or.inl ⟨_, rfl⟩) (dcg dc_X6_readWord 46 rfl) ⟨rfl, rfl⟩ hcm hsm
    · have hf := if_f q hf
      refine p_iconst (v := 0) X (dcg dc_X6_readWord 25 rfl) (by decide) ?_
      refine p_iconst (v := 1) X (dcg dc_X6_readWord 26 rfl) (by decide) ?_
      obtain ⟨hg18, hf⟩ := gd_some hf
      have hm1 : lez _ (hX r.2) (hV r.2) := mX6_readWord_b48 hf
      have hm2 := lez_new hm1
      refine p_newa20 X tw_168 (dcg dc_X6_readWord 27 rfl) hg18.1 hg18.2 (show uc + 1 ≤ MC from (by have o0 := hm2.1; have o1 := hM; have o2 := hu; (try simp only [hX_sI, hX_sR, hX_sL, hX_sD, hX_sIa, hX_sRa, hV_sI, hV_sR, hV_sL, hV_sD, hV_sIa, hV_sRa, hX_new, hV_new] at o0 o1 o2 ⊢); omega)) (show us + (Int32.toNatClampNeg (1 : Int32)) ≤ MS from (by have o0 := hm2.2; have o1 := hN; have o2 := hv; (try simp only [hX_sI, hX_sR, hX_sL, hX_sD, hX_sIa, hX_sRa, hV_sI, hV_sR, hV_sL, hV_sD, hV_sIa, hV_sRa, hX_new, hV_new] at o0 o1 o2 ⊢); omega)) ?_
      refine p_pick [1] ?_
      exact wX6_readWord_b48 X hG hnm hM hN (by have o0 := hu; (try simp only [hX_sI, hX_sR, hX_sL, hX_sD, hX_sIa, hX_sRa, hV_sI, hV_sR, hV_sL, hV_sD, hV_sIa, hV_sRa, hX_new, hV_new] at o0 ⊢); omega) (by have o0 := hv; (try simp only [hX_sI, hX_sR, hX_sL, hX_sD, hX_sIa, hX_sRa, hV_sI, hV_sR, hV_sL, hV_sD, hV_sIa, hV_sRa, hX_new, hV_new] at o0 ⊢); omega) hf 
  · have hf := if_f q hf
    refine p_aload_n X (dcg dc_X6_readWord 9 rfl) rfl rfl ?_
    obtain ⟨z23, hz23, hf⟩ := bd_some hf
    refine p_callV (As := []) X ml_X6_29 (dcg dc_X6_readWord 10 rfl) rfl rfl hk3 (wX6_advance hG hz23) (by decide) (room4 (Nat.le_of_ble_eq_true rfl)) hcm hsm ?_
    rintro _ u9 ⟨rfl, e9⟩; have e9 := e9.symm; subst e9
    have hu := hu.trans (mX6_advance hz23).1
    have hv := hv.trans (mX6_advance hz23).2
    refine p_iconst (v := 1) X (dcg dc_X6_readWord 11 rfl) (by decide) ?_
    refine p_iconst (v := 1) X (dcg dc_X6_readWord 12 rfl) (by decide) ?_
    obtain ⟨hg24, hf⟩ := gd_some hf
    have hm1 : lez _ (hX r.2) (hV r.2) := mX6_readWord_b26 hf
    have hm2 := lez_new hm1
    refine p_newa20 X tw_168 (dcg dc_X6_readWord 13 rfl) hg24.1 hg24.2 (show uc + 1 ≤ MC from (by have o0 := hm2.1; have o1 := hM; have o2 := hu; (try simp only [hX_sI, hX_sR, hX_sL, hX_sD, hX_sIa, hX_sRa, hV_sI, hV_sR, hV_sL, hV_sD, hV_sIa, hV_sRa, hX_new, hV_new] at o0 o1 o2 ⊢); omega)) (show us + (Int32.toNatClampNeg (1 : Int32)) ≤ MS from (by have o0 := hm2.2; have o1 := hN; have o2 := hv; (try simp only [hX_sI, hX_sR, hX_sL, hX_sD, hX_sIa, hX_sRa, hV_sI, hV_sR, hV_sL, hV_sD, hV_sIa, hV_sRa, hX_new, hV_new] at o0 o1 o2 ⊢); omega)) ?_
    refine p_pick [1] ?_
    exact wX6_readWord_b26 X hG hnm hM hN (by have o0 := hu; (try simp only [hX_sI, hX_sR, hX_sL, hX_sD, hX_sIa, hX_sRa, hV_sI, hV_sR, hV_sL, hV_sD, hV_sIa, hV_sRa, hX_new, hV_new] at o0 ⊢); omega) (by have o0 := hv; (try simp only [hX_sI, hX_sR, hX_sL, hX_sD, hX_sIa, hX_sRa, hV_sI, hV_sR, hV_sL, hV_sD, hV_sIa, hV_sRa, hX_new, hV_new] at o0 ⊢); omega) hf 
noncomputable def fX6_readWord (v0 : Nat) (h : PH) : Option (Option Nat × PH) :=
  fX6_readWord_b0 v0 h
set_option maxRecDepth 100000 in
theorem mX6_readWord {v0 : Nat} {h : PH} {r : (Option Nat × PH)} (hf : fX6_readWord v0 h = some r) : lez h (hX r.2) (hV r.2) := by
  unfold fX6_readWord at hf
  have hle := lez_rf h
  exact lez_rt (mX6_readWord_b0 hf) hle
set_option maxRecDepth 100000 in
theorem wX6_readWord {E : PE} {l : Launch} (hG : Gs E l) {v0 : Nat} {h : PH} {r : (Option Nat × PH)} (hf : fX6_readWord v0 h = some r) : Ct E l 6 ((hX r.2) - hX h) ((hV r.2) - hV h) yX6_readWord cX6_readWord 4 (some (.object "WordFinder$Node")) [.ref v0] h (fun v u => v = some (va_rf r.1) ∧ u = r.2) := by
  have hmm := mX6_readWord hf
  refine ct_of hG (by decide) (Nat.le_of_ble_eq_true rfl) ?_
  intro p e s m args below meth c X hnm
  show PW E p l e _ s m args below meth c _ 0 0 _ h 0 [(0, some (.ref v0))] []
  unfold fX6_readWord at hf
  have hM := Nat.sub_add_cancel hmm.1
  have hN := Nat.sub_add_cancel hmm.2
  refine p_pick [0] ?_
  exact wX6_readWord_b0 X hG hnm hM hN (Nat.zero_add _) (Nat.zero_add _) hf
theorem dc_X6_readRow : decs cX6_readRow [(0, .iconst 0, 1), (1, .istore_n 1, 1), (2, .aload_n 0, 1), (3, .invokevirtual 29, 3), (6, .iload_n 1, 1), (7, .bipush 20, 2), (9, .if_icmp .ge 31, 3), (12, .aload_n 0, 1), (13, .getfield 36, 3), (16, .iconst 2, 1), (17, .if_icmp .ne 23, 3), (20, .aload_n 0, 1), (21, .getfield 11, 3), (24, .iload_n 1, 1), (25, .aload_n 0, 1), (26, .getfield 83, 3), (29, .iastore, 1), (30, .iinc 1 1, 3), (33, .aload_n 0, 1), (34, .invokevirtual 29, 3), (37, .goto (-31), 3), (40, .iload_n 1, 1), (41, .ifCond .eq 12, 3), (44, .aload_n 0, 1), (45, .getfield 36, 3), (48, .bipush 93, 2), (50, .if_icmp .eq 8, 3), (53, .aload_n 0, 1), (54, .invokevirtual 39, 3), (57, .areturn, 1), (58, .aload_n 0, 1), (59, .invokevirtual 29, 3), (62, .iload_n 1, 1), (63, .newarray .int, 2), (65, .astore_n 2, 1), (66, .aload_n 0, 1), (67, .getfield 11, 3), (70, .iconst 0, 1), (71, .aload_n 2, 1), (72, .iconst 0, 1), (73, .iload_n 1, 1), (74, .invokestatic 90, 3), (77, .iconst 3, 1), (78, .aload_n 2, 1), (79, .iconst 0, 1), (80, .invokestatic 86, 3), (83, .areturn, 1)] = true := by decide +kernel
noncomputable def fX6_readRow_b53 (v0 : Nat) (h : PH) : Option (Option Nat × PH) :=
  gd (hK h v0 = 6) (bd (fX6_fail v0 h) (fun z4 =>
  some ((z4.1, z4.2))))
set_option maxRecDepth 100000 in
theorem mX6_readRow_b53 {v0 : Nat} {h : PH} {r : (Option Nat × PH)} (hf : fX6_readRow_b53 v0 h = some r) : lez h (hX r.2) (hV r.2) := by
  unfold fX6_readRow_b53 at hf
  have hle := lez_rf h
  obtain ⟨hk3, hf⟩ := gd_some hf
  obtain ⟨z4, hz4, hf⟩ := bd_some hf
  have hle := lez_rt (lez_eq (mX6_fail hz4)) hle
  have ee := Option.some.inj hf; subst ee; exact hle
set_option maxRecDepth 100000 in
theorem wX6_readRow_b53 {E : PE} {p : Program} {l : Launch} {e : Env} {s : State} {m : MethodId} {args : Array Value} {below : List Frame} {meth : Method} {c : Code} {X0 V0 MC MS uc us : Nat} (X : Cx E p l e (rmv 6 MC MS) s m args below meth c RX6 cX6_readRow 3 (some (.object "WordFinder$Node"))) (hG : Gs E l) (hnm : meth.name = yX6_readRow.name) {v0 : Nat} {h : PH} {r : (Option Nat × PH)} (hM : MC + X0 = (hX r.2)) (hN : MS + V0 = (hV r.2)) (hu : uc + X0 = hX h) (hv : us + V0 = hV h) (hf : fX6_readRow_b53 v0 h = some r)  : PW E p l e (rmv 6 MC MS) s m args below meth c 3 uc us (MQ below (QG E (fun v u => v = some (va_rf r.1) ∧ u = r.2)) args s MC MS (pA E)) h 53 [(0, some (.ref v0))] [] := by
  have hm1 : lez h (hX r.2) (hV r.2) := mX6_readRow_b53 hf
  have hcm : uc ≤ MC := (by have o0 := hm1.1; have o1 := hM; have o2 := hu; (try simp only [hX_sI, hX_sR, hX_sL, hX_sD, hX_sIa, hX_sRa, hV_sI, hV_sR, hV_sL, hV_sD, hV_sIa, hV_sRa, hX_new, hV_new] at o0 o1 o2 ⊢); omega)
  have hsm : us ≤ MS := (by have o0 := hm1.2; have o1 := hN; have o2 := hv; (try simp only [hX_sI, hX_sR, hX_sL, hX_sD, hX_sIa, hX_sRa, hV_sI, hV_sR, hV_sL, hV_sD, hV_sIa, hV_sRa, hX_new, hV_new] at o0 o1 o2 ⊢); omega)
  clear hm1
  unfold fX6_readRow_b53 at hf
  refine p_aload_n X (dcg dc_X6_readRow 27 rfl) rfl rfl ?_
  obtain ⟨hk3, hf⟩ := gd_some hf
  obtain ⟨z4, hz4, hf⟩ := bd_some hf
  refine p_callV (As := []) X ml_X6_39 (dcg dc_X6_readRow 28 rfl) rfl rfl hk3 (wX6_fail hG hz4) (by decide) (room4 (Nat.le_of_ble_eq_true rfl)) hcm hsm ?_
  rintro _ u9 ⟨rfl, e9⟩; have e9 := e9.symm; subst e9
  have hu := hu.trans (mX6_fail hz4).1
  have hv := hv.trans (mX6_fail hz4).2
  have er := Option.some.inj hf
  subst er
  exact p_aret X rfl (Or.inl ⟨_, rfl⟩) (dcg dc_X6_readRow 29 rfl) ⟨rfl, rfl⟩ hcm hsm
noncomputable def fX6_readRow_b83 (t0 : Option Nat) (h : PH) : Option (Option Nat × PH) :=
  some ((t0, h))
set_option maxRecDepth 100000 in
theorem mX6_readRow_b83 {t0 : Option Nat} {h : PH} {r : (Option Nat × PH)} (hf : fX6_readRow_b83 t0 h = some r) : lez h (hX r.2) (hV r.2) := by
  unfold fX6_readRow_b83 at hf
  have hle := lez_rf h
  have ee := Option.some.inj hf; subst ee; exact hle
set_option maxRecDepth 100000 in
theorem wX6_readRow_b83 {E : PE} {p : Program} {l : Launch} {e : Env} {s : State} {m : MethodId} {args : Array Value} {below : List Frame} {meth : Method} {c : Code} {X0 V0 MC MS uc us : Nat} (X : Cx E p l e (rmv 6 MC MS) s m args below meth c RX6 cX6_readRow 3 (some (.object "WordFinder$Node"))) (hG : Gs E l) (hnm : meth.name = yX6_readRow.name) {t0 : Option Nat} {h : PH} {r : (Option Nat × PH)} (hM : MC + X0 = (hX r.2)) (hN : MS + V0 = (hV r.2)) (hu : uc + X0 = hX h) (hv : us + V0 = hV h) (hf : fX6_readRow_b83 t0 h = some r)  : PW E p l e (rmv 6 MC MS) s m args below meth c 3 uc us (MQ below (QG E (fun v u => v = some (va_rf r.1) ∧ u = r.2)) args s MC MS (pA E)) h 83 [] [va_rf t0] := by
  have hm1 : lez h (hX r.2) (hV r.2) := mX6_readRow_b83 hf
  have hcm : uc ≤ MC := (by have o0 := hm1.1; have o1 := hM; have o2 := hu; (try simp only [hX_sI, hX_sR, hX_sL, hX_sD, hX_sIa, hX_sRa, hV_sI, hV_sR, hV_sL, hV_sD, hV_sIa, hV_sRa, hX_new, hV_new] at o0 o1 o2 ⊢); omega)
  have hsm : us ≤ MS := (by have o0 := hm1.2; have o1 := hN; have o2 := hv; (try simp only [hX_sI, hX_sR, hX_sL, hX_sD, hX_sIa, hX_sRa, hV_sI, hV_sR, hV_sL, hV_sD, hV_sIa, hV_sRa, hX_new, hV_new] at o0 o1 o2 ⊢); omega)
  clear hm1
  unfold fX6_readRow_b83 at hf
  have er := Option.some.inj hf
  subst er
  exact p_aret X rfl (Or.inl ⟨_, rfl⟩) (dcg dc_X6_readRow 46 rfl) ⟨rfl, rfl⟩ hcm hsm
noncomputable def fX6_readRow_b65 (v0 : Nat) (v1 : Int32) (t0 : Nat) (h : PH) : Option (Option Nat × PH) :=
  gd (hK h v0 = 6) (gs (hR h 6 v0 1) (fun a9 =>
  gd (cpyok h 20 a9 t0 (0 : Int32) (0 : Int32) v1) (lt (cpyI h 20 a9 t0 (0 : Int32) (0 : Int32) v1) (fun h12 =>
  bd (fX4_simple (3 : Int32) (some t0) (0 : Int32) h12) (fun z13 =>
  fX6_readRow_b83 z13.1 z13.2)))))
set_option maxRecDepth 100000 in
theorem mX6_readRow_b65 {v0 : Nat} {v1 : Int32} {t0 : Nat} {h : PH} {r : (Option Nat × PH)} (hf : fX6_readRow_b65 v0 v1 t0 h = some r) : lez h (hX r.2) (hV r.2) := by
  unfold fX6_readRow_b65 at hf
  have hle := lez_rf h
  obtain ⟨hk8, hf⟩ := gd_some hf
  obtain ⟨a9, e10, hf⟩ := gs_some hf
  obtain ⟨hg11, hf⟩ := gd_some hf
  obtain ⟨h12, rfl, hf⟩ := lt_some hf
  obtain ⟨z13, hz13, hf⟩ := bd_some hf
  have hle := lez_rt (mX4_simple hz13) hle
  exact lez_rt (mX6_readRow_b83 hf) hle
set_option maxRecDepth 100000 in
theorem wX6_readRow_b65 {E : PE} {p : Program} {l : Launch} {e : Env} {s : State} {m : MethodId} {args : Array Value} {below : List Frame} {meth : Method} {c : Code} {X0 V0 MC MS uc us : Nat} (X : Cx E p l e (rmv 6 MC MS) s m args below meth c RX6 cX6_readRow 3 (some (.object "WordFinder$Node"))) (hG : Gs E l) (hnm : meth.name = yX6_readRow.name) {v0 : Nat} {v1 : Int32} {t0 : Nat} {h : PH} {r : (Option Nat × PH)} (hM : MC + X0 = (hX r.2)) (hN : MS + V0 = (hV r.2)) (hu : uc + X0 = hX h) (hv : us + V0 = hV h) (hf : fX6_readRow_b65 v0 v1 t0 h = some r)  : PW E p l e (rmv 6 MC MS) s m args below meth c 3 uc us (MQ below (QG E (fun v u => v = some (va_rf r.1) ∧ u = r.2)) args s MC MS (pA E)) h 65 [(0, some (.ref v0)), (1, some (.int v1))] [.ref t0] := by
  have hm1 : lez h (hX r.2) (hV r.2) := mX6_readRow_b65 hf
  have hcm : uc ≤ MC := (by have o0 := hm1.1; have o1 := hM; have o2 := hu; (try simp only [hX_sI, hX_sR, hX_sL, hX_sD, hX_sIa, hX_sRa, hV_sI, hV_sR, hV_sL, hV_sD, hV_sIa, hV_sRa, hX_new, hV_new] at o0 o1 o2 ⊢); omega)
  have hsm : us ≤ MS := (by have o0 := hm1.2; have o1 := hN; have o2 := hv; (try simp only [hX_sI, hX_sR, hX_sL, hX_sD, hX_sIa, hX_sRa, hV_sI, hV_sR, hV_sL, hV_sD, hV_sIa, hV_sRa, hX_new, hV_new] at o0 o1 o2 ⊢); omega)
  clear hm1
  unfold fX6_readRow_b65 at hf
  refine p_astore_n X (dcg dc_X6_readRow 34 rfl) rfl (by decide) rfl ?_
  refine p_aload_n X (dcg dc_X6_readRow 35 rfl) rfl rfl ?_
  obtain ⟨hk8, hf⟩ := gd_some hf
  refine p_getR X fl_X6_11 rfl (by decide) (dcg dc_X6_readRow 36 rfl) hk8 ?_
  refine p_iconst (v := 0) X (dcg dc_X6_readRow 37 rfl) (by decide) ?_
  refine p_aload_n X (dcg dc_X6_readRow 38 rfl) rfl rfl ?_
  refine p_iconst (v := 0) X (dcg dc_X6_readRow 39 rfl) (by decide) ?_
  refine p_iload_n X (dcg dc_X6_readRow 40 rfl) rfl rfl ?_
  obtain ⟨a9, e10, hf⟩ := gs_some hf
  first | subst e10 | (try rw [e10])
  obtain ⟨hg11, hf⟩ := gd_some hf
  refine p_copyI X tw_1541 tw_629 tw_628 tw_130 hg11 (dcg dc_X6_readRow 41 rfl) (Nat.le_of_ble_eq_true rfl) (room4 (Nat.le_of_ble_eq_true rfl)) (Nat.le_of_ble_eq_true rfl) ?_
  obtain ⟨h12, rfl, hf⟩ := lt_some hf
  refine p_iconst (v := 3) X (dcg dc_X6_readRow 42 rfl) (by decide) ?_
  refine p_aload_n X (dcg dc_X6_readRow 43 rfl) rfl rfl ?_
  refine p_iconst (v := 0) X (dcg dc_X6_readRow 44 rfl) (by decide) ?_
  obtain ⟨z13, hz13, hf⟩ := bd_some hf
  have hc1 := mX4_simple hz13
  have hm1 : lez _ (hX r.2) (hV r.2) := mX6_readRow_b83 hf
  refine p_callS (As := [_, va_rf (some _), _]) X ml_X6_86 (dcg dc_X6_readRow 45 rfl) rfl rfl  (wX4_simple hG hz13) (by decide) (room4 (Nat.le_of_ble_eq_true rfl)) (by have o0 := hm1.1; have o1 := hc1.1; have o2 := hM; have o3 := hu; (try simp only [hX_sI, hX_sR, hX_sL, hX_sD, hX_sIa, hX_sRa, hV_sI, hV_sR, hV_sL, hV_sD, hV_sIa, hV_sRa, hX_new, hV_new] at o0 o1 o2 o3 ⊢); omega) (by have o0 := hm1.2; have o1 := hc1.2; have o2 := hN; have o3 := hv; (try simp only [hX_sI, hX_sR, hX_sL, hX_sD, hX_sIa, hX_sRa, hV_sI, hV_sR, hV_sL, hV_sD, hV_sIa, hV_sRa, hX_new, hV_new] at o0 o1 o2 o3 ⊢); omega) ?_
  rintro _ u9 ⟨rfl, e9⟩; have e9 := e9.symm; subst e9
  refine p_pick [] ?_
  exact wX6_readRow_b83 X hG hnm hM hN (by have o0 := hc1.1; have o1 := hu; (try simp only [hX_sI, hX_sR, hX_sL, hX_sD, hX_sIa, hX_sRa, hV_sI, hV_sR, hV_sL, hV_sD, hV_sIa, hV_sRa, hX_new, hV_new] at o0 o1 ⊢); omega) (by have o0 := hc1.2; have o1 := hv; (try simp only [hX_sI, hX_sR, hX_sL, hX_sD, hX_sIa, hX_sRa, hV_sI, hV_sR, hV_sL, hV_sD, hV_sIa, hV_sRa, hX_new, hV_new] at o0 o1 ⊢); omega) hf 
noncomputable def fX6_readRow_b40 (v0 : Nat) (v1 : Int32) (h : PH) : Option (Option Nat × PH) :=
  if (v1 = 0) then (fX6_readRow_b53 v0 h) else
  gd (hK h v0 = 6) (if ((hI h 6 v0 3) = (93 : Int32)) then (bd (fX6_advance v0 h) (fun z6 =>
  gd (¬ v1 < 0 ∧ (Int32.toNatClampNeg v1) ≤ 1000000) (fX6_readRow_b65 v0 v1 (hX z6) (hnew z6 20 (Int32.toNatClampNeg v1))))) else
  fX6_readRow_b53 v0 h)
set_option maxRecDepth 100000 in
theorem mX6_readRow_b40 {v0 : Nat} {v1 : Int32} {h : PH} {r : (Option Nat × PH)} (hf : fX6_readRow_b40 v0 v1 h = some r) : lez h (hX r.2) (hV r.2) := by
  unfold fX6_readRow_b40 at hf
  have hle := lez_rf h
  rcases ite_or hf with ⟨q, hf⟩ | ⟨q, hf⟩
  · have hf := if_t q hf
    exact lez_rt (mX6_readRow_b53 hf) hle
  · have hf := if_f q hf
    obtain ⟨hk5, hf⟩ := gd_some hf
    rcases ite_or hf with ⟨q, hf⟩ | ⟨q, hf⟩
    · have hf := if_t q hf
      obtain ⟨z6, hz6, hf⟩ := bd_some hf
      have hle := lez_rt (lez_eq (mX6_advance hz6)) hle
      obtain ⟨hg7, hf⟩ := gd_some hf
      have hle := lez_nw (c := 20) (n := (Int32.toNatClampNeg v1)) hle
      exact lez_rt (mX6_readRow_b65 hf) hle
    · have hf := if_f q hf
      exact lez_rt (mX6_readRow_b53 hf) hle
set_option maxRecDepth 100000 in
theorem wX6_readRow_b40 {E : PE} {p : Program} {l : Launch} {e : Env} {s : State} {m : MethodId} {args : Array Value} {below : List Frame} {meth : Method} {c : Code} {X0 V0 MC MS uc us : Nat} (X : Cx E p l e (rmv 6 MC MS) s m args below meth c RX6 cX6_readRow 3 (some (.object "WordFinder$Node"))) (hG : Gs E l) (hnm : meth.name = yX6_readRow.name) {v0 : Nat} {v1 : Int32} {h : PH} {r : (Option Nat × PH)} (hM : MC + X0 = (hX r.2)) (hN : MS + V0 = (hV r.2)) (hu : uc + X0 = hX h) (hv : us + V0 = hV h) (hf : fX6_readRow_b40 v0 v1 h = some r)  : PW E p l e (rmv 6 MC MS) s m args below meth c 3 uc us (MQ below (QG E (fun v u => v = some (va_rf r.1) ∧ u = r.2)) args s MC MS (pA E)) h 40 [(0, some (.ref v0)), (1, some (.int v1))] [] := by
  have hm1 : lez h (hX r.2) (hV r.2) := mX6_readRow_b40 hf
  have hcm : uc ≤ MC := (by have o0 := hm1.1; have o1 := hM; have o2 := hu; (try simp only [hX_sI, hX_sR, hX_sL, hX_sD, hX_sIa, hX_sRa, hV_sI, hV_sR, hV_sL, hV_sD, hV_sIa, hV_sRa, hX_new, hV_new] at o0 o1 o2 ⊢); omega)
  have hsm : us ≤ MS := (by have o0 := hm1.2; have o1 := hN; have o2 := hv; (try simp only [hX_sI, hX_sR, hX_sL, hX_sD, hX_sIa, hX_sRa, hV_sI, hV_sR, hV_sL, hV_sD, hV_sIa, hV_sRa, hX_new, hV_new] at o0 o1 o2 ⊢); omega)
  clear hm1
  unfold fX6_readRow_b40 at hf
  refine p_iload_n X (dcg dc_X6_readRow 21 rfl) rfl rfl ?_
  refine p_if_eq (tgt := 53) X (dcg dc_X6_readRow 22 rfl) (by decide) (fun q => ?_) (fun q => ?_)
  · have hf := if_t q hf
    refine p_pick [0] ?_
    exact wX6_readRow_b53 X hG hnm hM hN hu hv hf 
  · have hf := if_f q hf
    refine p_aload_n X (dcg dc_X6_readRow 23 rfl) rfl rfl ?_
    obtain ⟨hk5, hf⟩ := gd_some hf
    refine p_getI X fl_X6_36 rfl (by decide) (dcg dc_X6_readRow 24 rfl) hk5 ?_
    refine p_bipush (v := 93) X (dcg dc_X6_readRow 25 rfl) (by decide) ?_
    refine p_icmp_eq (tgt := 58) X (dcg dc_X6_readRow 26 rfl) (by decide) (fun q => ?_) (fun q => ?_)
    · have hf := if_t q hf
      refine p_aload_n X (dcg dc_X6_readRow 30 rfl) rfl rfl ?_
      obtain ⟨z6, hz6, hf⟩ := bd_some hf
      refine p_callV (As := []) X ml_X6_29 (dcg dc_X6_readRow 31 rfl) rfl rfl hk5 (wX6_advance hG hz6) (by decide) (room4 (Nat.le_of_ble_eq_true rfl)) hcm hsm ?_
      rintro _ u9 ⟨rfl, e9⟩; have e9 := e9.symm; subst e9
      have hu := hu.trans (mX6_advance hz6).1
      have hv := hv.trans (mX6_advance hz6).2
      refine p_iload_n X (dcg dc_X6_readRow 32 rfl) rfl rfl ?_
      obtain ⟨hg7, hf⟩ := gd_some hf
      have hm1 : lez _ (hX r.2) (hV r.2) := mX6_readRow_b65 hf
      have hm2 := lez_new hm1
      refine p_newa20 X tw_168 (dcg dc_X6_readRow 33 rfl) hg7.1 hg7.2 (show uc + 1 ≤ MC from (by have o0 := hm2.1; have o1 := hM; have o2 := hu; (try simp only [hX_sI, hX_sR, hX_sL, hX_sD, hX_sIa, hX_sRa, hV_sI, hV_sR, hV_sL, hV_sD, hV_sIa, hV_sRa, hX_new, hV_new] at o0 o1 o2 ⊢); omega)) (show us + (Int32.toNatClampNeg v1) ≤ MS from (by have o0 := hm2.2; have o1 := hN; have o2 := hv; (try simp only [hX_sI, hX_sR, hX_sL, hX_sD, hX_sIa, hX_sRa, hV_sI, hV_sR, hV_sL, hV_sD, hV_sIa, hV_sRa, hX_new, hV_new] at o0 o1 o2 ⊢); omega)) ?_
      refine p_pick [0, 1] ?_
      exact wX6_readRow_b65 X hG hnm hM hN (by have o0 := hu; (try simp only [hX_sI, hX_sR, hX_sL, hX_sD, hX_sIa, hX_sRa, hV_sI, hV_sR, hV_sL, hV_sD, hV_sIa, hV_sRa, hX_new, hV_new] at o0 ⊢); omega) (by have o0 := hv; (try simp only [hX_sI, hX_sR, hX_sL, hX_sD, hX_sIa, hX_sRa, hV_sI, hV_sR, hV_sL, hV_sD, hV_sIa, hV_sRa, hX_new, hV_new] at o0 ⊢); omega) hf 
    · have hf := if_f q hf
      refine p_pick [0] ?_
      exact wX6_readRow_b53 X hG hnm hM hN hu hv hf 
noncomputable def fX6_readRow_c6 (v0 : Nat) (v1 : Int32) (h : PH) : Option ((Int32 × PH) ⊕ (Option Nat × PH)) :=
  if ((20 : Int32) ≤ v1) then (mr (fX6_readRow_b40 v0 v1 h)) else
  gd (hK h v0 = 6) (if (¬ (hI h 6 v0 3) = (2 : Int32)) then (mr (fX6_readRow_b40 v0 v1 h)) else
  gs (hR h 6 v0 1) (fun a19 =>
  gd (hK h a19 = 20 ∧ inb v1 (hN h a19)) (lt (sI h 20 a19 (Int32.toNatClampNeg v1) (hI h 6 v0 5)) (fun h23 =>
  bd (fX6_advance v0 h23) (fun z24 =>
  some (.inl ((v1 + 1), z24)))))))
set_option maxRecDepth 100000 in
theorem mX6_readRow_c6 {v0 : Nat} {v1 : Int32} {h : PH} {x : ((Int32 × PH) ⊕ (Option Nat × PH))} (hf : fX6_readRow_c6 v0 v1 h = some x) : (∀ w9 : (Int32 × PH), x = .inl w9 → lez h (hX (w9.2)) (hV (w9.2))) ∧ (∀ w9 : (Option Nat × PH), x = .inr w9 → lez h (hX w9.2) (hV w9.2)) := by
  unfold fX6_readRow_c6 at hf
  have hle := lez_rf h
  rcases ite_or hf with ⟨q, hf⟩ | ⟨q, hf⟩
  · have hf := if_t q hf
    obtain ⟨y14, hfm, rfl⟩ := mr_some hf; have hf := hfm; clear hfm
    have cf := mX6_readRow_b40 hf
    exact ⟨(fun z e => nomatch e), (fun z e => by cases e <;> exact lez_rt cf hle)⟩
  · have hf := if_f q hf
    obtain ⟨hk16, hf⟩ := gd_some hf
    rcases ite_or hf with ⟨q, hf⟩ | ⟨q, hf⟩
    · have hf := if_t q hf
      obtain ⟨y17, hfm, rfl⟩ := mr_some hf; have hf := hfm; clear hfm
      have cf := mX6_readRow_b40 hf
      exact ⟨(fun z e => nomatch e), (fun z e => by cases e <;> exact lez_rt cf hle)⟩
    · have hf := if_f q hf
      obtain ⟨a19, e20, hf⟩ := gs_some hf
      obtain ⟨⟨hk22, hb21⟩, hf⟩ := gd_some hf
      obtain ⟨h23, rfl, hf⟩ := lt_some hf
      obtain ⟨z24, hz24, hf⟩ := bd_some hf
      have hle := lez_rt (lez_eq (mX6_advance hz24)) hle
      have ee := Option.some.inj hf; subst ee
      exact ⟨(fun z e => by have ee := Sum.inl.inj (e); subst ee; exact hle), (fun z e => nomatch e)⟩
set_option maxRecDepth 100000 in
theorem wX6_readRow_c6 {E : PE} {p : Program} {l : Launch} {e : Env} {s : State} {m : MethodId} {args : Array Value} {below : List Frame} {meth : Method} {c : Code} {X0 V0 MC MS uc us : Nat} (X : Cx E p l e (rmv 6 MC MS) s m args below meth c RX6 cX6_readRow 3 (some (.object "WordFinder$Node"))) (hG : Gs E l) (hnm : meth.name = yX6_readRow.name) {v0 : Nat} {v1 : Int32} {h : PH} {r : (Option Nat × PH)} {x : ((Int32 × PH) ⊕ (Option Nat × PH))} (hM : MC + X0 = (hX r.2)) (hN : MS + V0 = (hV r.2)) (hu : uc + X0 = hX h) (hv : us + V0 = hV h) (hf : fX6_readRow_c6 v0 v1 h = some x) (k0 : ∀ (z : (Int32 × PH)) (uc us : Nat), x = .inl z → uc + X0 = hX (z.2) → us + V0 = hV (z.2) → PW E p l e (rmv 6 MC MS) s m args below meth c 3 uc us (MQ below (QG E (fun v u => v = some (va_rf r.1) ∧ u = r.2)) args s MC MS (pA E)) (z.2) 6 [(0, some (.ref v0)), (1, some (.int (z.1)))] []) (kl0 : ∀ z : (Int32 × PH), x = .inl z → lez (z.2) (hX r.2) (hV r.2)) (kf : ∀ z : (Option Nat × PH), x = .inr z → z = r) : PW E p l e (rmv 6 MC MS) s m args below meth c 3 uc us (MQ below (QG E (fun v u => v = some (va_rf r.1) ∧ u = r.2)) args s MC MS (pA E)) h 6 [(0, some (.ref v0)), (1, some (.int v1))] [] := by
  have hm1 : lez h (hX r.2) (hV r.2) := by
    obtain ⟨c0, cf⟩ := mX6_readRow_c6 hf
    rcases hxx : x with zz | zz
    · exact lez_tr (c0 zz hxx) (kl0 zz hxx)
    · have ee := kf zz hxx; subst ee; exact cf zz hxx
  have hcm : uc ≤ MC := (by have o0 := hm1.1; have o1 := hM; have o2 := hu; (try simp only [hX_sI, hX_sR, hX_sL, hX_sD, hX_sIa, hX_sRa, hV_sI, hV_sR, hV_sL, hV_sD, hV_sIa, hV_sRa, hX_new, hV_new] at o0 o1 o2 ⊢); omega)
  have hsm : us ≤ MS := (by have o0 := hm1.2; have o1 := hN; have o2 := hv; (try simp only [hX_sI, hX_sR, hX_sL, hX_sD, hX_sIa, hX_sRa, hV_sI, hV_sR, hV_sL, hV_sD, hV_sIa, hV_sRa, hX_new, hV_new] at o0 o1 o2 ⊢); omega)
  clear hm1
  unfold fX6_readRow_c6 at hf
  refine p_iload_n X (dcg dc_X6_readRow 4 rfl) rfl rfl ?_
  refine p_bipush (v := 20) X (dcg dc_X6_readRow 5 rfl) (by decide) ?_
  refine p_icmp_ge (tgt := 40) X (dcg dc_X6_readRow 6 rfl) (by decide) (fun q => ?_) (fun q => ?_)
  · have hf := if_t q hf
    obtain ⟨y14, hf, hy15⟩ := mr_some hf
    have hy15f := kf y14 hy15
    subst hy15f
    refine p_pick [0, 1] ?_
    exact wX6_readRow_b40 X hG hnm hM hN hu hv hf 
  · have hf := if_f q hf
    refine p_aload_n X (dcg dc_X6_readRow 7 rfl) rfl rfl ?_
    obtain ⟨hk16, hf⟩ := gd_some hf
    refine p_getI X fl_X6_36 rfl (by decide) (dcg dc_X6_readRow 8 rfl) hk16 ?_
    refine p_iconst (v := 2) X (dcg dc_X6_readRow 9 rfl) (by decide) ?_
    refine p_icmp_ne (tgt := 40) X (dcg dc_X6_readRow 10 rfl) (by decide) (fun q => ?_) (fun q => ?_)
    · have hf := if_t q hf
      obtain ⟨y17, hf, hy18⟩ := mr_some hf
      have hy18f := kf y17 hy18
      subst hy18f
      refine p_pick [0, 1] ?_
      exact wX6_readRow_b40 X hG hnm hM hN hu hv hf 
    · have hf := if_f q hf
      refine p_aload_n X (dcg dc_X6_readRow 11 rfl) rfl rfl ?_
      refine p_getR X fl_X6_11 rfl (by decide) (dcg dc_X6_readRow 12 rfl) hk16 ?_
      refine p_iload_n X (dcg dc_X6_readRow 13 rfl) rfl rfl ?_
      refine p_aload_n X (dcg dc_X6_readRow 14 rfl) rfl rfl ?_
      refine p_getI X fl_X6_83 rfl (by decide) (dcg dc_X6_readRow 15 rfl) hk16 ?_
      obtain ⟨a19, e20, hf⟩ := gs_some hf
      first | subst e20 | (try rw [e20])
      obtain ⟨⟨hk22, hb21⟩, hf⟩ := gd_some hf
      refine p_iast X (dcg dc_X6_readRow 16 rfl) hk22 (vp_of_inb hb21) ?_
      obtain ⟨h23, rfl, hf⟩ := lt_some hf
      refine p_iinc (v := 1) X (dcg dc_X6_readRow 17 rfl) rfl (by decide) (by decide) rfl ?_
      refine p_aload_n X (dcg dc_X6_readRow 18 rfl) rfl rfl ?_
      obtain ⟨z24, hz24, hf⟩ := bd_some hf
      refine p_callV (As := []) X ml_X6_29 (dcg dc_X6_readRow 19 rfl) rfl rfl hk16 (wX6_advance hG hz24) (by decide) (room4 (Nat.le_of_ble_eq_true rfl)) hcm hsm ?_
      rintro _ u9 ⟨rfl, e9⟩; have e9 := e9.symm; subst e9
      have hu := hu.trans (mX6_advance hz24).1
      have hv := hv.trans (mX6_advance hz24).2
      refine p_goto (tgt := 6) X (dcg dc_X6_readRow 20 rfl) (by decide) ?_
      refine p_pick [0, 1] ?_
      exact k0 _ _ _ (Option.some.inj hf).symm hu hv
noncomputable def fX6_readRow_l6 (v0 : Nat) (v1 : Int32) (h : PH) : Option (Option Nat × PH) := wh (fun z : (Int32 × PH) => fX6_readRow_c6 v0 (z.1) (z.2)) (v1, h)
set_option maxRecDepth 100000 in
theorem mX6_readRow_l6 {v0 : Nat} {v1 : Int32} {h : PH} {r : (Option Nat × PH)} (hf : fX6_readRow_l6 v0 v1 h = some r) : lez h (hX r.2) (hV r.2) := by
  unfold fX6_readRow_l6 at hf
  refine wh_ind (P := fun z => lez (z.2) (hX r.2) (hV r.2)) (fun z x0 hs i1 i2 => ?_) _ hf
  obtain ⟨c0, cf⟩ := mX6_readRow_c6 (v0 := v0) (v1 := z.1) (h := z.2) hs
  rcases hxx : x0 with zz | zz
  · exact lez_tr (c0 zz hxx) (i1 zz hxx)
  · have ee := i2 zz hxx; subst ee; exact cf zz hxx
set_option maxRecDepth 100000 in
theorem wX6_readRow_l6 {E : PE} {p : Program} {l : Launch} {e : Env} {s : State} {m : MethodId} {args : Array Value} {below : List Frame} {meth : Method} {c : Code} {X0 V0 MC MS uc us : Nat} (X : Cx E p l e (rmv 6 MC MS) s m args below meth c RX6 cX6_readRow 3 (some (.object "WordFinder$Node"))) (hG : Gs E l) (hnm : meth.name = yX6_readRow.name) {v0 : Nat} {v1 : Int32} {h : PH} {r : (Option Nat × PH)} (hM : MC + X0 = (hX r.2)) (hN : MS + V0 = (hV r.2)) (hu : uc + X0 = hX h) (hv : us + V0 = hV h) (hf : fX6_readRow_l6 v0 v1 h = some r)  : PW E p l e (rmv 6 MC MS) s m args below meth c 3 uc us (MQ below (QG E (fun v u => v = some (va_rf r.1) ∧ u = r.2)) args s MC MS (pA E)) h 6 [(0, some (.ref v0)), (1, some (.int v1))] [] := by
  unfold fX6_readRow_l6 at hf
  refine wh_ind2 (P := fun z => ∀ uc us : Nat, uc + X0 = hX (z.2) → us + V0 = hV (z.2) → PW E p l e (rmv 6 MC MS) s m args below meth c 3 uc us (MQ below (QG E (fun v u => v = some (va_rf r.1) ∧ u = r.2)) args s MC MS (pA E)) (z.2) 6 [(0, some (.ref v0)), (1, some (.int (z.1)))] []) (fun z x0 hs i1 i2 uc us hu hv => ?_) _ hf uc us hu hv
  exact wX6_readRow_c6 (r := r) (v0 := v0) (v1 := z.1) (h := z.2) X hG hnm hM hN hu hv hs (fun z1 uc1 us1 e1 e2 e3 => (i1 z1 e1).1 uc1 us1 e2 e3) (fun z1 e1 => mX6_readRow_l6 (v0 := v0) (v1 := z1.1) (h := z1.2) (by unfold fX6_readRow_l6; exact (i1 z1 e1).2))  i2
noncomputable def fX6_readRow_b0 (v0 : Nat) (h : PH) : Option (Option Nat × PH) :=
  gd (hK h v0 = 6) (bd (fX6_advance v0 h) (fun z2 =>
  fX6_readRow_l6 v0 (0 : Int32) z2))
set_option maxRecDepth 100000 in
theorem mX6_readRow_b0 {v0 : Nat} {h : PH} {r : (Option Nat × PH)} (hf : fX6_readRow_b0 v0 h = some r) : lez h (hX r.2) (hV r.2) := by
  unfold fX6_readRow_b0 at hf
  have hle := lez_rf h
  obtain ⟨hk1, hf⟩ := gd_some hf
  obtain ⟨z2, hz2, hf⟩ := bd_some hf
  have hle := lez_rt (lez_eq (mX6_advance hz2)) hle
  exact lez_rt (mX6_readRow_l6 hf) hle
set_option maxRecDepth 100000 in
theorem wX6_readRow_b0 {E : PE} {p : Program} {l : Launch} {e : Env} {s : State} {m : MethodId} {args : Array Value} {below : List Frame} {meth : Method} {c : Code} {X0 V0 MC MS uc us : Nat} (X : Cx E p l e (rmv 6 MC MS) s m args below meth c RX6 cX6_readRow 3 (some (.object "WordFinder$Node"))) (hG : Gs E l) (hnm : meth.name = yX6_readRow.name) {v0 : Nat} {h : PH} {r : (Option Nat × PH)} (hM : MC + X0 = (hX r.2)) (hN : MS + V0 = (hV r.2)) (hu : uc + X0 = hX h) (hv : us + V0 = hV h) (hf : fX6_readRow_b0 v0 h = some r)  : PW E p l e (rmv 6 MC MS) s m args below meth c 3 uc us (MQ below (QG E (fun v u => v = some (va_rf r.1) ∧ u = r.2)) args s MC MS (pA E)) h 0 [(0, some (.ref v0))] [] := by
  have hm1 : lez h (hX r.2) (hV r.2) := mX6_readRow_b0 hf
  have hcm : uc ≤ MC := (by have o0 := hm1.1; have o1 := hM; have o2 := hu; (try simp only [hX_sI, hX_sR, hX_sL, hX_sD, hX_sIa, hX_sRa, hV_sI, hV_sR, hV_sL, hV_sD, hV_sIa, hV_sRa, hX_new, hV_new] at o0 o1 o2 ⊢); omega)
  have hsm : us ≤ MS := (by have o0 := hm1.2; have o1 := hN; have o2 := hv; (try simp only [hX_sI, hX_sR, hX_sL, hX_sD, hX_sIa, hX_sRa, hV_sI, hV_sR, hV_sL, hV_sD, hV_sIa, hV_sRa, hX_new, hV_new] at o0 o1 o2 ⊢); omega)
  clear hm1
  unfold fX6_readRow_b0 at hf
  refine p_iconst (v := 0) X (dcg dc_X6_readRow 0 rfl) (by decide) ?_
  refine p_istore_n X (dcg dc_X6_readRow 1 rfl) rfl (by decide) rfl ?_
  refine p_aload_n X (dcg dc_X6_readRow 2 rfl) rfl rfl ?_
  obtain ⟨hk1, hf⟩ := gd_some hf
  obtain ⟨z2, hz2, hf⟩ := bd_some hf
  refine p_callV (As := []) X ml_X6_29 (dcg dc_X6_readRow 3 rfl) rfl rfl hk1 (wX6_advance hG hz2) (by decide) (room4 (Nat.le_of_ble_eq_true rfl)) hcm hsm ?_
  rintro _ u9 ⟨rfl, e9⟩; have e9 := e9.symm; subst e9
  have hu := hu.trans (mX6_advance hz2).1
  have hv := hv.trans (mX6_advance hz2).2
  refine p_pick [0, 1] ?_
  exact wX6_readRow_l6 X hG hnm hM hN hu hv hf 
noncomputable def fX6_readRow (v0 : Nat) (h : PH) : Option (Option Nat × PH) :=
  fX6_readRow_b0 v0 h
set_option maxRecDepth 100000 in
theorem mX6_readRow {v0 : Nat} {h : PH} {r : (Option Nat × PH)} (hf : fX6_readRow v0 h = some r) : lez h (hX r.2) (hV r.2) := by
  unfold fX6_readRow at hf
  have hle := lez_rf h
  exact lez_rt (mX6_readRow_b0 hf) hle
set_option maxRecDepth 100000 in
theorem wX6_readRow {E : PE} {l : Launch} (hG : Gs E l) {v0 : Nat} {h : PH} {r : (Option Nat × PH)} (hf : fX6_readRow v0 h = some r) : Ct E l 6 ((hX r.2) - hX h) ((hV r.2) - hV h) yX6_readRow cX6_readRow 3 (some (.object "WordFinder$Node")) [.ref v0] h (fun v u => v = some (va_rf r.1) ∧ u = r.2) := by
  have hmm := mX6_readRow hf
  refine ct_of hG (by decide) (Nat.le_of_ble_eq_true rfl) ?_
  intro p e s m args below meth c X hnm
  show PW E p l e _ s m args below meth c _ 0 0 _ h 0 [(0, some (.ref v0))] []
  unfold fX6_readRow at hf
  have hM := Nat.sub_add_cancel hmm.1
  have hN := Nat.sub_add_cancel hmm.2
  refine p_pick [0] ?_
  exact wX6_readRow_b0 X hG hnm hM hN (Nat.zero_add _) (Nat.zero_add _) hf
theorem dc_X6_readBoth : decs cX6_readBoth [(0, .aload_n 0, 1), (1, .iload_n 1, 1), (2, .invokevirtual 70, 3), (5, .astore_n 2, 1), (6, .aload_n 2, 1), (7, .ifnull 12, 3), (10, .aload_n 0, 1), (11, .getfield 36, 3), (14, .bipush 38, 2), (16, .if_icmp .eq 5, 3), (19, .aload_n 2, 1), (20, .areturn, 1), (21, .iconst 5, 1), (22, .invokestatic 57, 3), (25, .astore_n 3, 1), (26, .aload_n 3, 1), (27, .getfield 60, 3), (30, .aload_n 2, 1), (31, .invokevirtual 64, 3), (34, .pop, 1), (35, .iconst 0, 1), (36, .istore 4, 2), (38, .iload 4, 2), (40, .bipush 20, 2), (42, .if_icmp .ge 46, 3), (45, .aload_n 0, 1), (46, .getfield 36, 3), (49, .bipush 38, 2), (51, .if_icmp .ne 37, 3), (54, .aload_n 0, 1), (55, .invokevirtual 29, 3), (58, .aload_n 0, 1), (59, .iload_n 1, 1), (60, .invokevirtual 70, 3), (63, .astore 5, 2), (65, .aload 5, 2), (67, .ifnonnull 5, 3), (70, .aconst_null, 1), (71, .areturn, 1), (72, .aload_n 3, 1), (73, .getfield 60, 3), (76, .aload 5, 2), (78, .invokevirtual 64, 3), (81, .pop, 1), (82, .iinc 4 1, 3), (85, .goto (-47), 3), (88, .aload_n 3, 1), (89, .areturn, 1)] = true := by decide +kernel
noncomputable def fX6_readBoth_R_b19 (rc0 : (Nat → Int32 → PH → Option (Option Nat × PH))) (rc1 : (Nat → Int32 → PH → Option (Option Nat × PH))) (rc2 : (Nat → Int32 → PH → Option (Option Nat × PH))) (v2 : Option Nat) (h : PH) : Option (Option Nat × PH) :=
  some ((v2, h))
set_option maxRecDepth 100000 in
theorem mX6_readBoth_R_b19 {rc0 : (Nat → Int32 → PH → Option (Option Nat × PH))} {rc1 : (Nat → Int32 → PH → Option (Option Nat × PH))} {rc2 : (Nat → Int32 → PH → Option (Option Nat × PH))} (hgm0 : ∀ {a0 : Nat} {a1 : Int32} {h : PH} {r : (Option Nat × PH)}, rc0 a0 a1 h = some r → lez h (hX r.2) (hV r.2)) (hgm1 : ∀ {a0 : Nat} {a1 : Int32} {h : PH} {r : (Option Nat × PH)}, rc1 a0 a1 h = some r → lez h (hX r.2) (hV r.2)) (hgm2 : ∀ {a0 : Nat} {a1 : Int32} {h : PH} {r : (Option Nat × PH)}, rc2 a0 a1 h = some r → lez h (hX r.2) (hV r.2)) {v2 : Option Nat} {h : PH} {r : (Option Nat × PH)} (hf : fX6_readBoth_R_b19 rc0 rc1 rc2 v2 h = some r) : lez h (hX r.2) (hV r.2) := by
  unfold fX6_readBoth_R_b19 at hf
  have hle := lez_rf h
  have ee := Option.some.inj hf; subst ee; exact hle
set_option maxRecDepth 100000 in
theorem wX6_readBoth_R_b19 {E : PE} {p : Program} {l : Launch} {e : Env} {s : State} {m : MethodId} {args : Array Value} {below : List Frame} {meth : Method} {c : Code} {X0 V0 MC MS uc us : Nat} {nn : Nat} (X : Cx E p l e (rmv (8 + nn + 1) MC MS) s m args below meth c RX6 cX6_readBoth 6 (some (.object "WordFinder$Node"))) (hG : Gs E l) (hnm : meth.name = yX6_readBoth.name) {rc0 : (Nat → Int32 → PH → Option (Option Nat × PH))} {rc1 : (Nat → Int32 → PH → Option (Option Nat × PH))} {rc2 : (Nat → Int32 → PH → Option (Option Nat × PH))} (hw0 : ∀ {a0 : Nat} {a1 : Int32} {h : PH} {r : (Option Nat × PH)}, rc0 a0 a1 h = some r → Ct E l (8 + nn) ((hX r.2) - hX h) ((hV r.2) - hV h) yX6_readBoth cX6_readBoth 6 (some (.object "WordFinder$Node")) [.ref a0, .int a1] h (fun v u => v = some (va_rf r.1) ∧ u = r.2)) (hw1 : ∀ {a0 : Nat} {a1 : Int32} {h : PH} {r : (Option Nat × PH)}, rc1 a0 a1 h = some r → Ct E l (8 + nn) ((hX r.2) - hX h) ((hV r.2) - hV h) yX6_readPlain cX6_readPlain 4 (some (.object "WordFinder$Node")) [.ref a0, .int a1] h (fun v u => v = some (va_rf r.1) ∧ u = r.2)) (hw2 : ∀ {a0 : Nat} {a1 : Int32} {h : PH} {r : (Option Nat × PH)}, rc2 a0 a1 h = some r → Ct E l (8 + nn) ((hX r.2) - hX h) ((hV r.2) - hV h) yX6_readQuery cX6_readQuery 6 (some (.object "WordFinder$Node")) [.ref a0, .int a1] h (fun v u => v = some (va_rf r.1) ∧ u = r.2)) (hgm0 : ∀ {a0 : Nat} {a1 : Int32} {h : PH} {r : (Option Nat × PH)}, rc0 a0 a1 h = some r → lez h (hX r.2) (hV r.2)) (hgm1 : ∀ {a0 : Nat} {a1 : Int32} {h : PH} {r : (Option Nat × PH)}, rc1 a0 a1 h = some r → lez h (hX r.2) (hV r.2)) (hgm2 : ∀ {a0 : Nat} {a1 : Int32} {h : PH} {r : (Option Nat × PH)}, rc2 a0 a1 h = some r → lez h (hX r.2) (hV r.2)) {v2 : Option Nat} {h : PH} {r : (Option Nat × PH)} (hM : MC + X0 = (hX r.2)) (hN : MS + V0 = (hV r.2)) (hu : uc + X0 = hX h) (hv : us + V0 = hV h) (hf : fX6_readBoth_R_b19 rc0 rc1 rc2 v2 h = some r)  : PW E p l e (rmv (8 + nn + 1) MC MS) s m args below meth c 6 uc us (MQ below (QG E (fun v u => v = some (va_rf r.1) ∧ u = r.2)) args s MC MS (pA E)) h 19 [(2, some (va_rf v2))] [] := by
  have hm1 : lez h (hX r.2) (hV r.2) := mX6_readBoth_R_b19 hgm0 hgm1 hgm2 hf
  have hcm : uc ≤ MC := (by have o0 := hm1.1; have o1 := hM; have o2 := hu; (try simp only [hX_sI, hX_sR, hX_sL, hX_sD, hX_sIa, hX_sRa, hV_sI, hV_sR, hV_sL, hV_sD, hV_sIa, hV_sRa, hX_new, hV_new] at o0 o1 o2 ⊢); omega)
  have hsm : us ≤ MS := (by have o0 := hm1.2; have o1 := hN; have o2 := hv; (try simp only [hX_sI, hX_sR, hX_sL, hX_sD, hX_sIa, hX_sRa, hV_sI, hV_sR, hV_sL, hV_sD, hV_sIa, hV_sRa, hX_new, hV_new] at o0 o1 o2 ⊢); omega)
  clear hm1
  unfold fX6_readBoth_R_b19 at hf
  refine p_aloadq_n X (dcg dc_X6_readBoth 10 rfl) rfl rfl ?_
  have er := Option.some.inj hf
  subst er
  exact p_aret X rfl (Or.inl ⟨_, rfl⟩) (dcg dc_X6_readBoth 11 rfl) ⟨rfl, rfl⟩ hcm hsm
noncomputable def fX6_readBoth_R_b88 (rc0 : (Nat → Int32 → PH → Option (Option Nat × PH))) (rc1 : (Nat → Int32 → PH → Option (Option Nat × PH))) (rc2 : (Nat → Int32 → PH → Option (Option Nat × PH))) (v3 : Option Nat) (h : PH) : Option (Option Nat × PH) :=
  some ((v3, h))
set_option maxRecDepth 100000 in
theorem mX6_readBoth_R_b88 {rc0 : (Nat → Int32 → PH → Option (Option Nat × PH))} {rc1 : (Nat → Int32 → PH → Option (Option Nat × PH))} {rc2 : (Nat → Int32 → PH → Option (Option Nat × PH))} (hgm0 : ∀ {a0 : Nat} {a1 : Int32} {h : PH} {r : (Option Nat × PH)}, rc0 a0 a1 h = some r → lez h (hX r.2) (hV r.2)) (hgm1 : ∀ {a0 : Nat} {a1 : Int32} {h : PH} {r : (Option Nat × PH)}, rc1 a0 a1 h = some r → lez h (hX r.2) (hV r.2)) (hgm2 : ∀ {a0 : Nat} {a1 : Int32} {h : PH} {r : (Option Nat × PH)}, rc2 a0 a1 h = some r → lez h (hX r.2) (hV r.2)) {v3 : Option Nat} {h : PH} {r : (Option Nat × PH)} (hf : fX6_readBoth_R_b88 rc0 rc1 rc2 v3 h = some r) : lez h (hX r.2) (hV r.2) := by
  unfold fX6_readBoth_R_b88 at hf
  have hle := lez_rf h
  have ee := Option.some.inj hf; subst ee; exact hle
set_option maxRecDepth 100000 in
theorem wX6_readBoth_R_b88 {E : PE} {p : Program} {l : Launch} {e : Env} {s : State} {m : MethodId} {args : Array Value} {below : List Frame} {meth : Method} {c : Code} {X0 V0 MC MS uc us : Nat} {nn : Nat} (X : Cx E p l e (rmv (8 + nn + 1) MC MS) s m args below meth c RX6 cX6_readBoth 6 (some (.object "WordFinder$Node"))) (hG : Gs E l) (hnm : meth.name = yX6_readBoth.name) {rc0 : (Nat → Int32 → PH → Option (Option Nat × PH))} {rc1 : (Nat → Int32 → PH → Option (Option Nat × PH))} {rc2 : (Nat → Int32 → PH → Option (Option Nat × PH))} (hw0 : ∀ {a0 : Nat} {a1 : Int32} {h : PH} {r : (Option Nat × PH)}, rc0 a0 a1 h = some r → Ct E l (8 + nn) ((hX r.2) - hX h) ((hV r.2) - hV h) yX6_readBoth cX6_readBoth 6 (some (.object "WordFinder$Node")) [.ref a0, .int a1] h (fun v u => v = some (va_rf r.1) ∧ u = r.2)) (hw1 : ∀ {a0 : Nat} {a1 : Int32} {h : PH} {r : (Option Nat × PH)}, rc1 a0 a1 h = some r → Ct E l (8 + nn) ((hX r.2) - hX h) ((hV r.2) - hV h) yX6_readPlain cX6_readPlain 4 (some (.object "WordFinder$Node")) [.ref a0, .int a1] h (fun v u => v = some (va_rf r.1) ∧ u = r.2)) (hw2 : ∀ {a0 : Nat} {a1 : Int32} {h : PH} {r : (Option Nat × PH)}, rc2 a0 a1 h = some r → Ct E l (8 + nn) ((hX r.2) - hX h) ((hV r.2) - hV h) yX6_readQuery cX6_readQuery 6 (some (.object "WordFinder$Node")) [.ref a0, .int a1] h (fun v u => v = some (va_rf r.1) ∧ u = r.2)) (hgm0 : ∀ {a0 : Nat} {a1 : Int32} {h : PH} {r : (Option Nat × PH)}, rc0 a0 a1 h = some r → lez h (hX r.2) (hV r.2)) (hgm1 : ∀ {a0 : Nat} {a1 : Int32} {h : PH} {r : (Option Nat × PH)}, rc1 a0 a1 h = some r → lez h (hX r.2) (hV r.2)) (hgm2 : ∀ {a0 : Nat} {a1 : Int32} {h : PH} {r : (Option Nat × PH)}, rc2 a0 a1 h = some r → lez h (hX r.2) (hV r.2)) {v3 : Option Nat} {h : PH} {r : (Option Nat × PH)} (hM : MC + X0 = (hX r.2)) (hN : MS + V0 = (hV r.2)) (hu : uc + X0 = hX h) (hv : us + V0 = hV h) (hf : fX6_readBoth_R_b88 rc0 rc1 rc2 v3 h = some r)  : PW E p l e (rmv (8 + nn + 1) MC MS) s m args below meth c 6 uc us (MQ below (QG E (fun v u => v = some (va_rf r.1) ∧ u = r.2)) args s MC MS (pA E)) h 88 [(3, some (va_rf v3))] [] := by
  have hm1 : lez h (hX r.2) (hV r.2) := mX6_readBoth_R_b88 hgm0 hgm1 hgm2 hf
  have hcm : uc ≤ MC := (by have o0 := hm1.1; have o1 := hM; have o2 := hu; (try simp only [hX_sI, hX_sR, hX_sL, hX_sD, hX_sIa, hX_sRa, hV_sI, hV_sR, hV_sL, hV_sD, hV_sIa, hV_sRa, hX_new, hV_new] at o0 o1 o2 ⊢); omega)
  have hsm : us ≤ MS := (by have o0 := hm1.2; have o1 := hN; have o2 := hv; (try simp only [hX_sI, hX_sR, hX_sL, hX_sD, hX_sIa, hX_sRa, hV_sI, hV_sR, hV_sL, hV_sD, hV_sIa, hV_sRa, hX_new, hV_new] at o0 o1 o2 ⊢); omega)
  clear hm1
  unfold fX6_readBoth_R_b88 at hf
  refine p_aloadq_n X (dcg dc_X6_readBoth 46 rfl) rfl rfl ?_
  have er := Option.some.inj hf
  subst er
  exact p_aret X rfl (Or.inl ⟨_, rfl⟩) (dcg dc_X6_readBoth 47 rfl) ⟨rfl, rfl⟩ hcm hsm
noncomputable def fX6_readBoth_R_b81 (rc0 : (Nat → Int32 → PH → Option (Option Nat × PH))) (rc1 : (Nat → Int32 → PH → Option (Option Nat × PH))) (rc2 : (Nat → Int32 → PH → Option (Option Nat × PH))) (v0 : Nat) (v1 : Int32) (v3 : Option Nat) (v4 : Int32) (t0 : Int32) (h : PH) : Option ((Int32 × PH) ⊕ (Option Nat × PH)) :=
  some (.inl ((v4 + 1), h))
set_option maxRecDepth 100000 in
theorem mX6_readBoth_R_b81 {rc0 : (Nat → Int32 → PH → Option (Option Nat × PH))} {rc1 : (Nat → Int32 → PH → Option (Option Nat × PH))} {rc2 : (Nat → Int32 → PH → Option (Option Nat × PH))} (hgm0 : ∀ {a0 : Nat} {a1 : Int32} {h : PH} {r : (Option Nat × PH)}, rc0 a0 a1 h = some r → lez h (hX r.2) (hV r.2)) (hgm1 : ∀ {a0 : Nat} {a1 : Int32} {h : PH} {r : (Option Nat × PH)}, rc1 a0 a1 h = some r → lez h (hX r.2) (hV r.2)) (hgm2 : ∀ {a0 : Nat} {a1 : Int32} {h : PH} {r : (Option Nat × PH)}, rc2 a0 a1 h = some r → lez h (hX r.2) (hV r.2)) {v0 : Nat} {v1 : Int32} {v3 : Option Nat} {v4 : Int32} {t0 : Int32} {h : PH} {x : ((Int32 × PH) ⊕ (Option Nat × PH))} (hf : fX6_readBoth_R_b81 rc0 rc1 rc2 v0 v1 v3 v4 t0 h = some x) : (∀ w9 : (Int32 × PH), x = .inl w9 → lez h (hX (w9.2)) (hV (w9.2))) ∧ (∀ w9 : (Option Nat × PH), x = .inr w9 → lez h (hX w9.2) (hV w9.2)) := by
  unfold fX6_readBoth_R_b81 at hf
  have hle := lez_rf h
  have ee := Option.some.inj hf; subst ee
  exact ⟨(fun z e => by have ee := Sum.inl.inj (e); subst ee; exact hle), (fun z e => nomatch e)⟩
set_option maxRecDepth 100000 in
theorem wX6_readBoth_R_b81 {E : PE} {p : Program} {l : Launch} {e : Env} {s : State} {m : MethodId} {args : Array Value} {below : List Frame} {meth : Method} {c : Code} {X0 V0 MC MS uc us : Nat} {nn : Nat} (X : Cx E p l e (rmv (8 + nn + 1) MC MS) s m args below meth c RX6 cX6_readBoth 6 (some (.object "WordFinder$Node"))) (hG : Gs E l) (hnm : meth.name = yX6_readBoth.name) {rc0 : (Nat → Int32 → PH → Option (Option Nat × PH))} {rc1 : (Nat → Int32 → PH → Option (Option Nat × PH))} {rc2 : (Nat → Int32 → PH → Option (Option Nat × PH))} (hw0 : ∀ {a0 : Nat} {a1 : Int32} {h : PH} {r : (Option Nat × PH)}, rc0 a0 a1 h = some r → Ct E l (8 + nn) ((hX r.2) - hX h) ((hV r.2) - hV h) yX6_readBoth cX6_readBoth 6 (some (.object "WordFinder$Node")) [.ref a0, .int a1] h (fun v u => v = some (va_rf r.1) ∧ u = r.2)) (hw1 : ∀ {a0 : Nat} {a1 : Int32} {h : PH} {r : (Option Nat × PH)}, rc1 a0 a1 h = some r → Ct E l (8 + nn) ((hX r.2) - hX h) ((hV r.2) - hV h) yX6_readPlain cX6_readPlain 4 (some (.object "WordFinder$Node")) [.ref a0, .int a1] h (fun v u => v = some (va_rf r.1) ∧ u = r.2)) (hw2 : ∀ {a0 : Nat} {a1 : Int32} {h : PH} {r : (Option Nat × PH)}, rc2 a0 a1 h = some r → Ct E l (8 + nn) ((hX r.2) - hX h) ((hV r.2) - hV h) yX6_readQuery cX6_readQuery 6 (some (.object "WordFinder$Node")) [.ref a0, .int a1] h (fun v u => v = some (va_rf r.1) ∧ u = r.2)) (hgm0 : ∀ {a0 : Nat} {a1 : Int32} {h : PH} {r : (Option Nat × PH)}, rc0 a0 a1 h = some r → lez h (hX r.2) (hV r.2)) (hgm1 : ∀ {a0 : Nat} {a1 : Int32} {h : PH} {r : (Option Nat × PH)}, rc1 a0 a1 h = some r → lez h (hX r.2) (hV r.2)) (hgm2 : ∀ {a0 : Nat} {a1 : Int32} {h : PH} {r : (Option Nat × PH)}, rc2 a0 a1 h = some r → lez h (hX r.2) (hV r.2)) {v0 : Nat} {v1 : Int32} {v3 : Option Nat} {v4 : Int32} {t0 : Int32} {h : PH} {r : (Option Nat × PH)} {x : ((Int32 × PH) ⊕ (Option Nat × PH))} (hM : MC + X0 = (hX r.2)) (hN : MS + V0 = (hV r.2)) (hu : uc + X0 = hX h) (hv : us + V0 = hV h) (hf : fX6_readBoth_R_b81 rc0 rc1 rc2 v0 v1 v3 v4 t0 h = some x) (k0 : ∀ (z : (Int32 × PH)) (uc us : Nat), x = .inl z → uc + X0 = hX (z.2) → us + V0 = hV (z.2) → PW E p l e (rmv (8 + nn + 1) MC MS) s m args below meth c 6 uc us (MQ below (QG E (fun v u => v = some (va_rf r.1) ∧ u = r.2)) args s MC MS (pA E)) (z.2) 38 [(0, some (.ref v0)), (1, some (.int v1)), (3, some (va_rf v3)), (4, some (.int (z.1)))] []) (kl0 : ∀ z : (Int32 × PH), x = .inl z → lez (z.2) (hX r.2) (hV r.2)) (kf : ∀ z : (Option Nat × PH), x = .inr z → z = r) : PW E p l e (rmv (8 + nn + 1) MC MS) s m args below meth c 6 uc us (MQ below (QG E (fun v u => v = some (va_rf r.1) ∧ u = r.2)) args s MC MS (pA E)) h 81 [(0, some (.ref v0)), (1, some (.int v1)), (3, some (va_rf v3)), (4, some (.int v4))] [.int t0] := by
  have hm1 : lez h (hX r.2) (hV r.2) := by
    obtain ⟨c0, cf⟩ := mX6_readBoth_R_b81 hgm0 hgm1 hgm2 hf
    rcases hxx : x with zz | zz
    · exact lez_tr (c0 zz hxx) (kl0 zz hxx)
    · have ee := kf zz hxx; subst ee; exact cf zz hxx
  have hcm : uc ≤ MC := (by have o0 := hm1.1; have o1 := hM; have o2 := hu; (try simp only [hX_sI, hX_sR, hX_sL, hX_sD, hX_sIa, hX_sRa, hV_sI, hV_sR, hV_sL, hV_sD, hV_sIa, hV_sRa, hX_new, hV_new] at o0 o1 o2 ⊢); omega)
  have hsm : us ≤ MS := (by have o0 := hm1.2; have o1 := hN; have o2 := hv; (try simp only [hX_sI, hX_sR, hX_sL, hX_sD, hX_sIa, hX_sRa, hV_sI, hV_sR, hV_sL, hV_sD, hV_sIa, hV_sRa, hX_new, hV_new] at o0 o1 o2 ⊢); omega)
  clear hm1
  unfold fX6_readBoth_R_b81 at hf
  refine p_pop X (dcg dc_X6_readBoth 43 rfl) rfl ?_
  refine p_iinc (v := 1) X (dcg dc_X6_readBoth 44 rfl) rfl (by decide) (by decide) (nwq (k := 3) rfl) ?_
  refine p_goto (tgt := 38) X (dcg dc_X6_readBoth 45 rfl) (by decide) ?_
  refine p_pick [0, 1, 3, 4] ?_
  exact k0 _ _ _ (Option.some.inj hf).symm hu hv
noncomputable def fX6_readBoth_R_b63 (rc0 : (Nat → Int32 → PH → Option (Option Nat × PH))) (rc1 : (Nat → Int32 → PH → Option (Option Nat × PH))) (rc2 : (Nat → Int32 → PH → Option (Option Nat × PH))) (v0 : Nat) (v1 : Int32) (v3 : Option Nat) (v4 : Int32) (t0 : Option Nat) (h : PH) : Option ((Int32 × PH) ⊕ (Option Nat × PH)) :=
  mq t0 (mr (some ((none, h)))) (fun a21 =>
  gs v3 (fun a24 =>
  gd (hK h a24 = 4) (gs (hR h 4 a24 3) (fun a27 =>
  gd (hK h a27 = 14) (bd (fJx4a65c_add_9ea2d a27 (some a21) h) (fun z30 =>
  fX6_readBoth_R_b81 rc0 rc1 rc2 v0 v1 (some a24) v4 z30.1 z30.2))))))
set_option maxRecDepth 100000 in
theorem mX6_readBoth_R_b63 {rc0 : (Nat → Int32 → PH → Option (Option Nat × PH))} {rc1 : (Nat → Int32 → PH → Option (Option Nat × PH))} {rc2 : (Nat → Int32 → PH → Option (Option Nat × PH))} (hgm0 : ∀ {a0 : Nat} {a1 : Int32} {h : PH} {r : (Option Nat × PH)}, rc0 a0 a1 h = some r → lez h (hX r.2) (hV r.2)) (hgm1 : ∀ {a0 : Nat} {a1 : Int32} {h : PH} {r : (Option Nat × PH)}, rc1 a0 a1 h = some r → lez h (hX r.2) (hV r.2)) (hgm2 : ∀ {a0 : Nat} {a1 : Int32} {h : PH} {r : (Option Nat × PH)}, rc2 a0 a1 h = some r → lez h (hX r.2) (hV r.2)) {v0 : Nat} {v1 : Int32} {v3 : Option Nat} {v4 : Int32} {t0 : Option Nat} {h : PH} {x : ((Int32 × PH) ⊕ (Option Nat × PH))} (hf : fX6_readBoth_R_b63 rc0 rc1 rc2 v0 v1 v3 v4 t0 h = some x) : (∀ w9 : (Int32 × PH), x = .inl w9 → lez h (hX (w9.2)) (hV (w9.2))) ∧ (∀ w9 : (Option Nat × PH), x = .inr w9 → lez h (hX w9.2) (hV w9.2)) := by
  unfold fX6_readBoth_R_b63 at hf
  have hle := lez_rf h
  rcases mq_or hf with ⟨q, hf⟩ | ⟨a21, q, hf⟩
  · have hf := mq_n q hf
    obtain ⟨y22, hfm, rfl⟩ := mr_some hf; have hf := hfm; clear hfm
    have ee := Option.some.inj hf; subst ee
    exact ⟨(fun z e => nomatch e), (fun z e => by have ee := Sum.inr.inj (e); subst ee; exact hle)⟩
  · have hk31 := mq_s q hf
    first | subst q | skip
    have hf := hk31
    obtain ⟨a24, e25, hf⟩ := gs_some hf
    obtain ⟨hk26, hf⟩ := gd_some hf
    obtain ⟨a27, e28, hf⟩ := gs_some hf
    obtain ⟨hk29, hf⟩ := gd_some hf
    obtain ⟨z30, hz30, hf⟩ := bd_some hf
    have hle := lez_rt (mJx4a65c_add_9ea2d hz30) hle
    obtain ⟨c0, cf⟩ := mX6_readBoth_R_b81 hgm0 hgm1 hgm2 hf
    exact ⟨fun z e => lez_rt (c0 z (e)) hle, fun z e => lez_rt (cf z (e)) hle⟩
set_option maxRecDepth 100000 in
theorem wX6_readBoth_R_b63 {E : PE} {p : Program} {l : Launch} {e : Env} {s : State} {m : MethodId} {args : Array Value} {below : List Frame} {meth : Method} {c : Code} {X0 V0 MC MS uc us : Nat} {nn : Nat} (X : Cx E p l e (rmv (8 + nn + 1) MC MS) s m args below meth c RX6 cX6_readBoth 6 (some (.object "WordFinder$Node"))) (hG : Gs E l) (hnm : meth.name = yX6_readBoth.name) {rc0 : (Nat → Int32 → PH → Option (Option Nat × PH))} {rc1 : (Nat → Int32 → PH → Option (Option Nat × PH))} {rc2 : (Nat → Int32 → PH → Option (Option Nat × PH))} (hw0 : ∀ {a0 : Nat} {a1 : Int32} {h : PH} {r : (Option Nat × PH)}, rc0 a0 a1 h = some r → Ct E l (8 + nn) ((hX r.2) - hX h) ((hV r.2) - hV h) yX6_readBoth cX6_readBoth 6 (some (.object "WordFinder$Node")) [.ref a0, .int a1] h (fun v u => v = some (va_rf r.1) ∧ u = r.2)) (hw1 : ∀ {a0 : Nat} {a1 : Int32} {h : PH} {r : (Option Nat × PH)}, rc1 a0 a1 h = some r → Ct E l (8 + nn) ((hX r.2) - hX h) ((hV r.2) - hV h) yX6_readPlain cX6_readPlain 4 (some (.object "WordFinder$Node")) [.ref a0, .int a1] h (fun v u => v = some (va_rf r.1) ∧ u = r.2)) (hw2 : ∀ {a0 : Nat} {a1 : Int32} {h : PH} {r : (Option Nat × PH)}, rc2 a0 a1 h = some r → Ct E l (8 + nn) ((hX r.2) - hX h) ((hV r.2) - hV h) yX6_readQuery cX6_readQuery 6 (some (.object "WordFinder$Node")) [.ref a0, .int a1] h (fun v u => v = some (va_rf r.1) ∧ u = r.2)) (hgm0 : ∀ {a0 : Nat} {a1 : Int32} {h : PH} {r : (Option Nat × PH)}, rc0 a0 a1 h = some r → lez h (hX r.2) (hV r.2)) (hgm1 : ∀ {a0 : Nat} {a1 : Int32} {h : PH} {r : (Option Nat × PH)}, rc1 a0 a1 h = some r → lez h (hX r.2) (hV r.2)) (hgm2 : ∀ {a0 : Nat} {a1 : Int32} {h : PH} {r : (Option Nat × PH)}, rc2 a0 a1 h = some r → lez h (hX r.2) (hV r.2)) {v0 : Nat} {v1 : Int32} {v3 : Option Nat} {v4 : Int32} {t0 : Option Nat} {h : PH} {r : (Option Nat × PH)} {x : ((Int32 × PH) ⊕ (Option Nat × PH))} (hM : MC + X0 = (hX r.2)) (hN : MS + V0 = (hV r.2)) (hu : uc + X0 = hX h) (hv : us + V0 = hV h) (hf : fX6_readBoth_R_b63 rc0 rc1 rc2 v0 v1 v3 v4 t0 h = some x) (k0 : ∀ (z : (Int32 × PH)) (uc us : Nat), x = .inl z → uc + X0 = hX (z.2) → us + V0 = hV (z.2) → PW E p l e (rmv (8 + nn + 1) MC MS) s m args below meth c 6 uc us (MQ below (QG E (fun v u => v = some (va_rf r.1) ∧ u = r.2)) args s MC MS (pA E)) (z.2) 38 [(0, some (.ref v0)), (1, some (.int v1)), (3, some (va_rf v3)), (4, some (.int (z.1)))] []) (kl0 : ∀ z : (Int32 × PH), x = .inl z → lez (z.2) (hX r.2) (hV r.2)) (kf : ∀ z : (Option Nat × PH), x = .inr z → z = r) : PW E p l e (rmv (8 + nn + 1) MC MS) s m args below meth c 6 uc us (MQ below (QG E (fun v u => v = some (va_rf r.1) ∧ u = r.2)) args s MC MS (pA E)) h 63 [(0, some (.ref v0)), (1, some (.int v1)), (3, some (va_rf v3)), (4, some (.int v4))] [va_rf t0] := by
  have hm1 : lez h (hX r.2) (hV r.2) := by
    obtain ⟨c0, cf⟩ := mX6_readBoth_R_b63 hgm0 hgm1 hgm2 hf
    rcases hxx : x with zz | zz
    · exact lez_tr (c0 zz hxx) (kl0 zz hxx)
    · have ee := kf zz hxx; subst ee; exact cf zz hxx
  have hcm : uc ≤ MC := (by have o0 := hm1.1; have o1 := hM; have o2 := hu; (try simp only [hX_sI, hX_sR, hX_sL, hX_sD, hX_sIa, hX_sRa, hV_sI, hV_sR, hV_sL, hV_sD, hV_sIa, hV_sRa, hX_new, hV_new] at o0 o1 o2 ⊢); omega)
  have hsm : us ≤ MS := (by have o0 := hm1.2; have o1 := hN; have o2 := hv; (try simp only [hX_sI, hX_sR, hX_sL, hX_sD, hX_sIa, hX_sRa, hV_sI, hV_sR, hV_sL, hV_sD, hV_sIa, hV_sRa, hX_new, hV_new] at o0 o1 o2 ⊢); omega)
  clear hm1
  unfold fX6_readBoth_R_b63 at hf
  refine p_astoreq X (dcg dc_X6_readBoth 34 rfl) (by decide) rfl ?_
  refine p_aloadq X (dcg dc_X6_readBoth 35 rfl) rfl ?_
  refine p_ifnonnull (tgt := 72) X (dcg dc_X6_readBoth 36 rfl) (by decide) (fun a21 q => ?_) (fun q => ?_)
  · have hk31 := mq_s q hf
    first | subst q | (try rw [q])
    have hf := hk31
    refine p_aloadq_n X (dcg dc_X6_readBoth 39 rfl) rfl rfl ?_
    obtain ⟨a24, e25, hf⟩ := gs_some hf
    first | subst e25 | (try rw [e25])
    obtain ⟨hk26, hf⟩ := gd_some hf
    refine p_getRn X fl_X6_60 rfl (by decide) (dcg dc_X6_readBoth 40 rfl) hk26 ?_
    refine p_aload X (dcg dc_X6_readBoth 41 rfl) rfl ?_
    obtain ⟨a27, e28, hf⟩ := gs_some hf
    first | subst e28 | (try rw [e28])
    obtain ⟨hk29, hf⟩ := gd_some hf
    obtain ⟨z30, hz30, hf⟩ := bd_some hf
    have hc1 := mJx4a65c_add_9ea2d hz30
    obtain ⟨c0, cf⟩ := mX6_readBoth_R_b81 hgm0 hgm1 hgm2 hf
    have hm1 := (nst1 (fun zz hxx => lez_tr (c0 zz hxx) (kl0 zz hxx)) (fun zz hxx => by have ee := kf zz hxx; subst ee; exact cf zz hxx))
    refine p_callV (As := [va_rf (some _)]) X ml_X6_64 (dcg dc_X6_readBoth 42 rfl) rfl rfl hk29 (wJx4a65c_add_9ea2d hG hz30) (by omega) (room4 (Nat.le_of_ble_eq_true rfl)) (by have o0 := hm1.1; have o1 := hc1.1; have o2 := hM; have o3 := hu; (try simp only [hX_sI, hX_sR, hX_sL, hX_sD, hX_sIa, hX_sRa, hV_sI, hV_sR, hV_sL, hV_sD, hV_sIa, hV_sRa, hX_new, hV_new] at o0 o1 o2 o3 ⊢); omega) (by have o0 := hm1.2; have o1 := hc1.2; have o2 := hN; have o3 := hv; (try simp only [hX_sI, hX_sR, hX_sL, hX_sD, hX_sIa, hX_sRa, hV_sI, hV_sR, hV_sL, hV_sD, hV_sIa, hV_sRa, hX_new, hV_new] at o0 o1 o2 o3 ⊢); omega) ?_
    rintro _ u9 ⟨rfl, e9⟩; have e9 := e9.symm; subst e9
    refine p_pick [0, 1, 3, 4] ?_
    exact wX6_readBoth_R_b81 X hG hnm hw0 hw1 hw2 hgm0 hgm1 hgm2 hM hN (by have o0 := hc1.1; have o1 := hu; (try simp only [hX_sI, hX_sR, hX_sL, hX_sD, hX_sIa, hX_sRa, hV_sI, hV_sR, hV_sL, hV_sD, hV_sIa, hV_sRa, hX_new, hV_new] at o0 o1 ⊢); omega) (by have o0 := hc1.2; have o1 := hv; (try simp only [hX_sI, hX_sR, hX_sL, hX_sD, hX_sIa, hX_sRa, hV_sI, hV_sR, hV_sL, hV_sD, hV_sIa, hV_sRa, hX_new, hV_new] at o0 o1 ⊢); omega) hf k0 kl0 kf
  · have hk31 := mq_n q hf
    first | subst q | (try rw [q])
    have hf := hk31
    obtain ⟨y22, hf, hy23⟩ := mr_some hf
    have hy23f := kf y22 hy23
    subst hy23f
    refine p_null X (dcg dc_X6_readBoth 37 rfl) ?_
    have er := Option.some.inj hf
    subst er
    exact p_aret X rfl (Or.inl ⟨_, rfl⟩) (dcg dc_X6_readBoth 38 rfl) ⟨rfl, rfl⟩ hcm hsm
noncomputable def fX6_readBoth_R_c38 (rc0 : (Nat → Int32 → PH → Option (Option Nat × PH))) (rc1 : (Nat → Int32 → PH → Option (Option Nat × PH))) (rc2 : (Nat → Int32 → PH → Option (Option Nat × PH))) (v0 : Nat) (v1 : Int32) (v3 : Option Nat) (v4 : Int32) (h : PH) : Option ((Int32 × PH) ⊕ (Option Nat × PH)) :=
  if ((20 : Int32) ≤ v4) then (mr (fX6_readBoth_R_b88 rc0 rc1 rc2 v3 h)) else
  gd (hK h v0 = 6) (if (¬ (hI h 6 v0 3) = (38 : Int32)) then (mr (fX6_readBoth_R_b88 rc0 rc1 rc2 v3 h)) else
  bd (fX6_advance v0 h) (fun z18 =>
  gd (hK z18 v0 = 6) (bd (rc1 v0 v1 z18) (fun z20 =>
  fX6_readBoth_R_b63 rc0 rc1 rc2 v0 v1 v3 v4 z20.1 z20.2))))
set_option maxRecDepth 100000 in
theorem mX6_readBoth_R_c38 {rc0 : (Nat → Int32 → PH → Option (Option Nat × PH))} {rc1 : (Nat → Int32 → PH → Option (Option Nat × PH))} {rc2 : (Nat → Int32 → PH → Option (Option Nat × PH))} (hgm0 : ∀ {a0 : Nat} {a1 : Int32} {h : PH} {r : (Option Nat × PH)}, rc0 a0 a1 h = some r → lez h (hX r.2) (hV r.2)) (hgm1 : ∀ {a0 : Nat} {a1 : Int32} {h : PH} {r : (Option Nat × PH)}, rc1 a0 a1 h = some r → lez h (hX r.2) (hV r.2)) (hgm2 : ∀ {a0 : Nat} {a1 : Int32} {h : PH} {r : (Option Nat × PH)}, rc2 a0 a1 h = some r → lez h (hX r.2) (hV r.2)) {v0 : Nat} {v1 : Int32} {v3 : Option Nat} {v4 : Int32} {h : PH} {x : ((Int32 × PH) ⊕ (Option Nat × PH))} (hf : fX6_readBoth_R_c38 rc0 rc1 rc2 v0 v1 v3 v4 h = some x) : (∀ w9 : (Int32 × PH), x = .inl w9 → lez h (hX (w9.2)) (hV (w9.2))) ∧ (∀ w9 : (Option Nat × PH), x = .inr w9 → lez h (hX w9.2) (hV w9.2)) := by
  unfold fX6_readBoth_R_c38 at hf
  have hle := lez_rf h
  rcases ite_or hf with ⟨q, hf⟩ | ⟨q, hf⟩
  · have hf := if_t q hf
    obtain ⟨y13, hfm, rfl⟩ := mr_some hf; have hf := hfm; clear hfm
    have cf := mX6_readBoth_R_b88 hgm0 hgm1 hgm2 hf
    exact ⟨(fun z e => nomatch e), (fun z e => by cases e <;> exact lez_rt cf hle)⟩
  · have hf := if_f q hf
    obtain ⟨hk15, hf⟩ := gd_some hf
    rcases ite_or hf with ⟨q, hf⟩ | ⟨q, hf⟩
    · have hf := if_t q hf
      obtain ⟨y16, hfm, rfl⟩ := mr_some hf; have hf := hfm; clear hfm
      have cf := mX6_readBoth_R_b88 hgm0 hgm1 hgm2 hf
      exact ⟨(fun z e => nomatch e), (fun z e => by cases e <;> exact lez_rt cf hle)⟩
    · have hf := if_f q hf
      obtain ⟨z18, hz18, hf⟩ := bd_some hf
      have hle := lez_rt (lez_eq (mX6_advance hz18)) hle
      obtain ⟨hk19, hf⟩ := gd_some hf
      obtain ⟨z20, hz20, hf⟩ := bd_some hf
      have hle := lez_rt (hgm1 hz20) hle
      obtain ⟨c0, cf⟩ := mX6_readBoth_R_b63 hgm0 hgm1 hgm2 hf
      exact ⟨fun z e => lez_rt (c0 z (e)) hle, fun z e => lez_rt (cf z (e)) hle⟩
set_option maxRecDepth 100000 in
theorem wX6_readBoth_R_c38 {E : PE} {p : Program} {l : Launch} {e : Env} {s : State} {m : MethodId} {args : Array Value} {below : List Frame} {meth : Method} {c : Code} {X0 V0 MC MS uc us : Nat} {nn : Nat} (X : Cx E p l e (rmv (8 + nn + 1) MC MS) s m args below meth c RX6 cX6_readBoth 6 (some (.object "WordFinder$Node"))) (hG : Gs E l) (hnm : meth.name = yX6_readBoth.name) {rc0 : (Nat → Int32 → PH → Option (Option Nat × PH))} {rc1 : (Nat → Int32 → PH → Option (Option Nat × PH))} {rc2 : (Nat → Int32 → PH → Option (Option Nat × PH))} (hw0 : ∀ {a0 : Nat} {a1 : Int32} {h : PH} {r : (Option Nat × PH)}, rc0 a0 a1 h = some r → Ct E l (8 + nn) ((hX r.2) - hX h) ((hV r.2) - hV h) yX6_readBoth cX6_readBoth 6 (some (.object "WordFinder$Node")) [.ref a0, .int a1] h (fun v u => v = some (va_rf r.1) ∧ u = r.2)) (hw1 : ∀ {a0 : Nat} {a1 : Int32} {h : PH} {r : (Option Nat × PH)}, rc1 a0 a1 h = some r → Ct E l (8 + nn) ((hX r.2) - hX h) ((hV r.2) - hV h) yX6_readPlain cX6_readPlain 4 (some (.object "WordFinder$Node")) [.ref a0, .int a1] h (fun v u => v = some (va_rf r.1) ∧ u = r.2)) (hw2 : ∀ {a0 : Nat} {a1 : Int32} {h : PH} {r : (Option Nat × PH)}, rc2 a0 a1 h = some r → Ct E l (8 + nn) ((hX r.2) - hX h) ((hV r.2) - hV h) yX6_readQuery cX6_readQuery 6 (some (.object "WordFinder$Node")) [.ref a0, .int a1] h (fun v u => v = some (va_rf r.1) ∧ u = r.2)) (hgm0 : ∀ {a0 : Nat} {a1 : Int32} {h : PH} {r : (Option Nat × PH)}, rc0 a0 a1 h = some r → lez h (hX r.2) (hV r.2)) (hgm1 : ∀ {a0 : Nat} {a1 : Int32} {h : PH} {r : (Option Nat × PH)}, rc1 a0 a1 h = some r → lez h (hX r.2) (hV r.2)) (hgm2 : ∀ {a0 : Nat} {a1 : Int32} {h : PH} {r : (Option Nat × PH)}, rc2 a0 a1 h = some r → lez h (hX r.2) (hV r.2)) {v0 : Nat} {v1 : Int32} {v3 : Option Nat} {v4 : Int32} {h : PH} {r : (Option Nat × PH)} {x : ((Int32 × PH) ⊕ (Option Nat × PH))} (hM : MC + X0 = (hX r.2)) (hN : MS + V0 = (hV r.2)) (hu : uc + X0 = hX h) (hv : us + V0 = hV h) (hf : fX6_readBoth_R_c38 rc0 rc1 rc2 v0 v1 v3 v4 h = some x) (k0 : ∀ (z : (Int32 × PH)) (uc us : Nat), x = .inl z → uc + X0 = hX (z.2) → us + V0 = hV (z.2) → PW E p l e (rmv (8 + nn + 1) MC MS) s m args below meth c 6 uc us (MQ below (QG E (fun v u => v = some (va_rf r.1) ∧ u = r.2)) args s MC MS (pA E)) (z.2) 38 [(0, some (.ref v0)), (1, some (.int v1)), (3, some (va_rf v3)), (4, some (.int (z.1)))] []) (kl0 : ∀ z : (Int32 × PH), x = .inl z → lez (z.2) (hX r.2) (hV r.2)) (kf : ∀ z : (Option Nat × PH), x = .inr z → z = r) : PW E p l e (rmv (8 + nn + 1) MC MS) s m args below meth c 6 uc us (MQ below (QG E (fun v u => v = some (va_rf r.1) ∧ u = r.2)) args s MC MS (pA E)) h 38 [(0, some (.ref v0)), (1, some (.int v1)), (3, some (va_rf v3)), (4, some (.int v4))] [] := by
  have hm1 : lez h (hX r.2) (hV r.2) := by
    obtain ⟨c0, cf⟩ := mX6_readBoth_R_c38 hgm0 hgm1 hgm2 hf
    rcases hxx : x with zz | zz
    · exact lez_tr (c0 zz hxx) (kl0 zz hxx)
    · have ee := kf zz hxx; subst ee; exact cf zz hxx
  have hcm : uc ≤ MC := (by have o0 := hm1.1; have o1 := hM; have o2 := hu; (try simp only [hX_sI, hX_sR, hX_sL, hX_sD, hX_sIa, hX_sRa, hV_sI, hV_sR, hV_sL, hV_sD, hV_sIa, hV_sRa, hX_new, hV_new] at o0 o1 o2 ⊢); omega)
  have hsm : us ≤ MS := (by have o0 := hm1.2; have o1 := hN; have o2 := hv; (try simp only [hX_sI, hX_sR, hX_sL, hX_sD, hX_sIa, hX_sRa, hV_sI, hV_sR, hV_sL, hV_sD, hV_sIa, hV_sRa, hX_new, hV_new] at o0 o1 o2 ⊢); omega)
  clear hm1
  unfold fX6_readBoth_R_c38 at hf
  refine p_iload X (dcg dc_X6_readBoth 22 rfl) rfl ?_
  refine p_bipush (v := 20) X (dcg dc_X6_readBoth 23 rfl) (by decide) ?_
  refine p_icmp_ge (tgt := 88) X (dcg dc_X6_readBoth 24 rfl) (by decide) (fun q => ?_) (fun q => ?_)
  · have hf := if_t q hf
    obtain ⟨y13, hf, hy14⟩ := mr_some hf
    have hy14f := kf y13 hy14
    subst hy14f
    refine p_pick [3] ?_
    exact wX6_readBoth_R_b88 X hG hnm hw0 hw1 hw2 hgm0 hgm1 hgm2 hM hN hu hv hf 
  · have hf := if_f q hf
    refine p_aload_n X (dcg dc_X6_readBoth 25 rfl) rfl rfl ?_
    obtain ⟨hk15, hf⟩ := gd_some hf
    refine p_getI X fl_X6_36 rfl (by decide) (dcg dc_X6_readBoth 26 rfl) hk15 ?_
    refine p_bipush (v := 38) X (dcg dc_X6_readBoth 27 rfl) (by decide) ?_
    refine p_icmp_ne (tgt := 88) X (dcg dc_X6_readBoth 28 rfl) (by decide) (fun q => ?_) (fun q => ?_)
    · have hf := if_t q hf
      obtain ⟨y16, hf, hy17⟩ := mr_some hf
      have hy17f := kf y16 hy17
      subst hy17f
      refine p_pick [3] ?_
      exact wX6_readBoth_R_b88 X hG hnm hw0 hw1 hw2 hgm0 hgm1 hgm2 hM hN hu hv hf 
    · have hf := if_f q hf
      refine p_aload_n X (dcg dc_X6_readBoth 29 rfl) rfl rfl ?_
      obtain ⟨z18, hz18, hf⟩ := bd_some hf
      refine p_callV (As := []) X ml_X6_29 (dcg dc_X6_readBoth 30 rfl) rfl rfl hk15 (wX6_advance hG hz18) (by omega) (room4 (Nat.le_of_ble_eq_true rfl)) hcm hsm ?_
      rintro _ u9 ⟨rfl, e9⟩; have e9 := e9.symm; subst e9
      have hu := hu.trans (mX6_advance hz18).1
      have hv := hv.trans (mX6_advance hz18).2
      refine p_aload_n X (dcg dc_X6_readBoth 31 rfl) rfl rfl ?_
      refine p_iload_n X (dcg dc_X6_readBoth 32 rfl) rfl rfl ?_
      obtain ⟨hk19, hf⟩ := gd_some hf
      obtain ⟨z20, hz20, hf⟩ := bd_some hf
      have hc1 := hgm1 hz20
      obtain ⟨c0, cf⟩ := mX6_readBoth_R_b63 hgm0 hgm1 hgm2 hf
      have hm1 := (nst1 (fun zz hxx => lez_tr (c0 zz hxx) (kl0 zz hxx)) (fun zz hxx => by have ee := kf zz hxx; subst ee; exact cf zz hxx))
      refine p_callV (As := [_]) X ml_X6_70 (dcg dc_X6_readBoth 33 rfl) rfl rfl hk19 (hw1 hz20) (by omega) (room4 (Nat.le_of_ble_eq_true rfl)) (by have o0 := hm1.1; have o1 := hc1.1; have o2 := hM; have o3 := hu; (try simp only [hX_sI, hX_sR, hX_sL, hX_sD, hX_sIa, hX_sRa, hV_sI, hV_sR, hV_sL, hV_sD, hV_sIa, hV_sRa, hX_new, hV_new] at o0 o1 o2 o3 ⊢); omega) (by have o0 := hm1.2; have o1 := hc1.2; have o2 := hN; have o3 := hv; (try simp only [hX_sI, hX_sR, hX_sL, hX_sD, hX_sIa, hX_sRa, hV_sI, hV_sR, hV_sL, hV_sD, hV_sIa, hV_sRa, hX_new, hV_new] at o0 o1 o2 o3 ⊢); omega) ?_
      rintro _ u9 ⟨rfl, e9⟩; have e9 := e9.symm; subst e9
      refine p_pick [0, 1, 3, 4] ?_
      exact wX6_readBoth_R_b63 X hG hnm hw0 hw1 hw2 hgm0 hgm1 hgm2 hM hN (by have o0 := hc1.1; have o1 := hu; (try simp only [hX_sI, hX_sR, hX_sL, hX_sD, hX_sIa, hX_sRa, hV_sI, hV_sR, hV_sL, hV_sD, hV_sIa, hV_sRa, hX_new, hV_new] at o0 o1 ⊢); omega) (by have o0 := hc1.2; have o1 := hv; (try simp only [hX_sI, hX_sR, hX_sL, hX_sD, hX_sIa, hX_sRa, hV_sI, hV_sR, hV_sL, hV_sD, hV_sIa, hV_sRa, hX_new, hV_new] at o0 o1 ⊢); omega) hf k0 kl0 kf
noncomputable def fX6_readBoth_R_l38 (rc0 : (Nat → Int32 → PH → Option (Option Nat × PH))) (rc1 : (Nat → Int32 → PH → Option (Option Nat × PH))) (rc2 : (Nat → Int32 → PH → Option (Option Nat × PH))) (v0 : Nat) (v1 : Int32) (v3 : Option Nat) (v4 : Int32) (h : PH) : Option (Option Nat × PH) := wh (fun z : (Int32 × PH) => fX6_readBoth_R_c38 rc0 rc1 rc2 v0 v1 v3 (z.1) (z.2)) (v4, h)
set_option maxRecDepth 100000 in
theorem mX6_readBoth_R_l38 {rc0 : (Nat → Int32 → PH → Option (Option Nat × PH))} {rc1 : (Nat → Int32 → PH → Option (Option Nat × PH))} {rc2 : (Nat → Int32 → PH → Option (Option Nat × PH))} (hgm0 : ∀ {a0 : Nat} {a1 : Int32} {h : PH} {r : (Option Nat × PH)}, rc0 a0 a1 h = some r → lez h (hX r.2) (hV r.2)) (hgm1 : ∀ {a0 : Nat} {a1 : Int32} {h : PH} {r : (Option Nat × PH)}, rc1 a0 a1 h = some r → lez h (hX r.2) (hV r.2)) (hgm2 : ∀ {a0 : Nat} {a1 : Int32} {h : PH} {r : (Option Nat × PH)}, rc2 a0 a1 h = some r → lez h (hX r.2) (hV r.2)) {v0 : Nat} {v1 : Int32} {v3 : Option Nat} {v4 : Int32} {h : PH} {r : (Option Nat × PH)} (hf : fX6_readBoth_R_l38 rc0 rc1 rc2 v0 v1 v3 v4 h = some r) : lez h (hX r.2) (hV r.2) := by
  unfold fX6_readBoth_R_l38 at hf
  refine wh_ind (P := fun z => lez (z.2) (hX r.2) (hV r.2)) (fun z x0 hs i1 i2 => ?_) _ hf
  obtain ⟨c0, cf⟩ := mX6_readBoth_R_c38 (v0 := v0) (v1 := v1) (v3 := v3) (v4 := z.1) (h := z.2) hgm0 hgm1 hgm2 hs
  rcases hxx : x0 with zz | zz
  · exact lez_tr (c0 zz hxx) (i1 zz hxx)
  · have ee := i2 zz hxx; subst ee; exact cf zz hxx
set_option maxRecDepth 100000 in
theorem wX6_readBoth_R_l38 {E : PE} {p : Program} {l : Launch} {e : Env} {s : State} {m : MethodId} {args : Array Value} {below : List Frame} {meth : Method} {c : Code} {X0 V0 MC MS uc us : Nat} {nn : Nat} (X : Cx E p l e (rmv (8 + nn + 1) MC MS) s m args below meth c RX6 cX6_readBoth 6 (some (.object "WordFinder$Node"))) (hG : Gs E l) (hnm : meth.name = yX6_readBoth.name) {rc0 : (Nat → Int32 → PH → Option (Option Nat × PH))} {rc1 : (Nat → Int32 → PH → Option (Option Nat × PH))} {rc2 : (Nat → Int32 → PH → Option (Option Nat × PH))} (hw0 : ∀ {a0 : Nat} {a1 : Int32} {h : PH} {r : (Option Nat × PH)}, rc0 a0 a1 h = some r → Ct E l (8 + nn) ((hX r.2) - hX h) ((hV r.2) - hV h) yX6_readBoth cX6_readBoth 6 (some (.object "WordFinder$Node")) [.ref a0, .int a1] h (fun v u => v = some (va_rf r.1) ∧ u = r.2)) (hw1 : ∀ {a0 : Nat} {a1 : Int32} {h : PH} {r : (Option Nat × PH)}, rc1 a0 a1 h = some r → Ct E l (8 + nn) ((hX r.2) - hX h) ((hV r.2) - hV h) yX6_readPlain cX6_readPlain 4 (some (.object "WordFinder$Node")) [.ref a0, .int a1] h (fun v u => v = some (va_rf r.1) ∧ u = r.2)) (hw2 : ∀ {a0 : Nat} {a1 : Int32} {h : PH} {r : (Option Nat × PH)}, rc2 a0 a1 h = some r → Ct E l (8 + nn) ((hX r.2) - hX h) ((hV r.2) - hV h) yX6_readQuery cX6_readQuery 6 (some (.object "WordFinder$Node")) [.ref a0, .int a1] h (fun v u => v = some (va_rf r.1) ∧ u = r.2)) (hgm0 : ∀ {a0 : Nat} {a1 : Int32} {h : PH} {r : (Option Nat × PH)}, rc0 a0 a1 h = some r → lez h (hX r.2) (hV r.2)) (hgm1 : ∀ {a0 : Nat} {a1 : Int32} {h : PH} {r : (Option Nat × PH)}, rc1 a0 a1 h = some r → lez h (hX r.2) (hV r.2)) (hgm2 : ∀ {a0 : Nat} {a1 : Int32} {h : PH} {r : (Option Nat × PH)}, rc2 a0 a1 h = some r → lez h (hX r.2) (hV r.2)) {v0 : Nat} {v1 : Int32} {v3 : Option Nat} {v4 : Int32} {h : PH} {r : (Option Nat × PH)} (hM : MC + X0 = (hX r.2)) (hN : MS + V0 = (hV r.2)) (hu : uc + X0 = hX h) (hv : us + V0 = hV h) (hf : fX6_readBoth_R_l38 rc0 rc1 rc2 v0 v1 v3 v4 h = some r)  : PW E p l e (rmv (8 + nn + 1) MC MS) s m args below meth c 6 uc us (MQ below (QG E (fun v u => v = some (va_rf r.1) ∧ u = r.2)) args s MC MS (pA E)) h 38 [(0, some (.ref v0)), (1, some (.int v1)), (3, some (va_rf v3)), (4, some (.int v4))] [] := by
  unfold fX6_readBoth_R_l38 at hf
  refine wh_ind2 (P := fun z => ∀ uc us : Nat, uc + X0 = hX (z.2) → us + V0 = hV (z.2) → PW E p l e (rmv (8 + nn + 1) MC MS) s m args below meth c 6 uc us (MQ below (QG E (fun v u => v = some (va_rf r.1) ∧ u = r.2)) args s MC MS (pA E)) (z.2) 38 [(0, some (.ref v0)), (1, some (.int v1)), (3, some (va_rf v3)), (4, some (.int (z.1)))] []) (fun z x0 hs i1 i2 uc us hu hv => ?_) _ hf uc us hu hv
  exact wX6_readBoth_R_c38 (r := r) (v0 := v0) (v1 := v1) (v3 := v3) (v4 := z.1) (h := z.2) X hG hnm hw0 hw1 hw2 hgm0 hgm1 hgm2 hM hN hu hv hs (fun z1 uc1 us1 e1 e2 e3 => (i1 z1 e1).1 uc1 us1 e2 e3) (fun z1 e1 => mX6_readBoth_R_l38 (v0 := v0) (v1 := v1) (v3 := v3) (v4 := z1.1) (h := z1.2) hgm0 hgm1 hgm2 (by unfold fX6_readBoth_R_l38; exact (i1 z1 e1).2))  i2
noncomputable def fX6_readBoth_R_b34 (rc0 : (Nat → Int32 → PH → Option (Option Nat × PH))) (rc1 : (Nat → Int32 → PH → Option (Option Nat × PH))) (rc2 : (Nat → Int32 → PH → Option (Option Nat × PH))) (v0 : Nat) (v1 : Int32) (v3 : Option Nat) (t0 : Int32) (h : PH) : Option (Option Nat × PH) :=
  fX6_readBoth_R_l38 rc0 rc1 rc2 v0 v1 v3 (0 : Int32) h
set_option maxRecDepth 100000 in
theorem mX6_readBoth_R_b34 {rc0 : (Nat → Int32 → PH → Option (Option Nat × PH))} {rc1 : (Nat → Int32 → PH → Option (Option Nat × PH))} {rc2 : (Nat → Int32 → PH → Option (Option Nat × PH))} (hgm0 : ∀ {a0 : Nat} {a1 : Int32} {h : PH} {r : (Option Nat × PH)}, rc0 a0 a1 h = some r → lez h (hX r.2) (hV r.2)) (hgm1 : ∀ {a0 : Nat} {a1 : Int32} {h : PH} {r : (Option Nat × PH)}, rc1 a0 a1 h = some r → lez h (hX r.2) (hV r.2)) (hgm2 : ∀ {a0 : Nat} {a1 : Int32} {h : PH} {r : (Option Nat × PH)}, rc2 a0 a1 h = some r → lez h (hX r.2) (hV r.2)) {v0 : Nat} {v1 : Int32} {v3 : Option Nat} {t0 : Int32} {h : PH} {r : (Option Nat × PH)} (hf : fX6_readBoth_R_b34 rc0 rc1 rc2 v0 v1 v3 t0 h = some r) : lez h (hX r.2) (hV r.2) := by
  unfold fX6_readBoth_R_b34 at hf
  have hle := lez_rf h
  exact lez_rt (mX6_readBoth_R_l38 hgm0 hgm1 hgm2 hf) hle
set_option maxRecDepth 100000 in
theorem wX6_readBoth_R_b34 {E : PE} {p : Program} {l : Launch} {e : Env} {s : State} {m : MethodId} {args : Array Value} {below : List Frame} {meth : Method} {c : Code} {X0 V0 MC MS uc us : Nat} {nn : Nat} (X : Cx E p l e (rmv (8 + nn + 1) MC MS) s m args below meth c RX6 cX6_readBoth 6 (some (.object "WordFinder$Node"))) (hG : Gs E l) (hnm : meth.name = yX6_readBoth.name) {rc0 : (Nat → Int32 → PH → Option (Option Nat × PH))} {rc1 : (Nat → Int32 → PH → Option (Option Nat × PH))} {rc2 : (Nat → Int32 → PH → Option (Option Nat × PH))} (hw0 : ∀ {a0 : Nat} {a1 : Int32} {h : PH} {r : (Option Nat × PH)}, rc0 a0 a1 h = some r → Ct E l (8 + nn) ((hX r.2) - hX h) ((hV r.2) - hV h) yX6_readBoth cX6_readBoth 6 (some (.object "WordFinder$Node")) [.ref a0, .int a1] h (fun v u => v = some (va_rf r.1) ∧ u = r.2)) (hw1 : ∀ {a0 : Nat} {a1 : Int32} {h : PH} {r : (Option Nat × PH)}, rc1 a0 a1 h = some r → Ct E l (8 + nn) ((hX r.2) - hX h) ((hV r.2) - hV h) yX6_readPlain cX6_readPlain 4 (some (.object "WordFinder$Node")) [.ref a0, .int a1] h (fun v u => v = some (va_rf r.1) ∧ u = r.2)) (hw2 : ∀ {a0 : Nat} {a1 : Int32} {h : PH} {r : (Option Nat × PH)}, rc2 a0 a1 h = some r → Ct E l (8 + nn) ((hX r.2) - hX h) ((hV r.2) - hV h) yX6_readQuery cX6_readQuery 6 (some (.object "WordFinder$Node")) [.ref a0, .int a1] h (fun v u => v = some (va_rf r.1) ∧ u = r.2)) (hgm0 : ∀ {a0 : Nat} {a1 : Int32} {h : PH} {r : (Option Nat × PH)}, rc0 a0 a1 h = some r → lez h (hX r.2) (hV r.2)) (hgm1 : ∀ {a0 : Nat} {a1 : Int32} {h : PH} {r : (Option Nat × PH)}, rc1 a0 a1 h = some r → lez h (hX r.2) (hV r.2)) (hgm2 : ∀ {a0 : Nat} {a1 : Int32} {h : PH} {r : (Option Nat × PH)}, rc2 a0 a1 h = some r → lez h (hX r.2) (hV r.2)) {v0 : Nat} {v1 : Int32} {v3 : Option Nat} {t0 : Int32} {h : PH} {r : (Option Nat × PH)} (hM : MC + X0 = (hX r.2)) (hN : MS + V0 = (hV r.2)) (hu : uc + X0 = hX h) (hv : us + V0 = hV h) (hf : fX6_readBoth_R_b34 rc0 rc1 rc2 v0 v1 v3 t0 h = some r)  : PW E p l e (rmv (8 + nn + 1) MC MS) s m args below meth c 6 uc us (MQ below (QG E (fun v u => v = some (va_rf r.1) ∧ u = r.2)) args s MC MS (pA E)) h 34 [(0, some (.ref v0)), (1, some (.int v1)), (3, some (va_rf v3))] [.int t0] := by
  have hm1 : lez h (hX r.2) (hV r.2) := mX6_readBoth_R_b34 hgm0 hgm1 hgm2 hf
  have hcm : uc ≤ MC := (by have o0 := hm1.1; have o1 := hM; have o2 := hu; (try simp only [hX_sI, hX_sR, hX_sL, hX_sD, hX_sIa, hX_sRa, hV_sI, hV_sR, hV_sL, hV_sD, hV_sIa, hV_sRa, hX_new, hV_new] at o0 o1 o2 ⊢); omega)
  have hsm : us ≤ MS := (by have o0 := hm1.2; have o1 := hN; have o2 := hv; (try simp only [hX_sI, hX_sR, hX_sL, hX_sD, hX_sIa, hX_sRa, hV_sI, hV_sR, hV_sL, hV_sD, hV_sIa, hV_sRa, hX_new, hV_new] at o0 o1 o2 ⊢); omega)
  clear hm1
  unfold fX6_readBoth_R_b34 at hf
  refine p_pop X (dcg dc_X6_readBoth 19 rfl) rfl ?_
  refine p_iconst (v := 0) X (dcg dc_X6_readBoth 20 rfl) (by decide) ?_
  refine p_istore X (dcg dc_X6_readBoth 21 rfl) (by decide) (nwq (k := 3) rfl) ?_
  refine p_pick [0, 1, 3, 4] ?_
  exact wX6_readBoth_R_l38 X hG hnm hw0 hw1 hw2 hgm0 hgm1 hgm2 hM hN hu hv hf 
noncomputable def fX6_readBoth_R_b25 (rc0 : (Nat → Int32 → PH → Option (Option Nat × PH))) (rc1 : (Nat → Int32 → PH → Option (Option Nat × PH))) (rc2 : (Nat → Int32 → PH → Option (Option Nat × PH))) (v0 : Nat) (v1 : Int32) (v2 : Option Nat) (t0 : Option Nat) (h : PH) : Option (Option Nat × PH) :=
  gs t0 (fun a6 =>
  gd (hK h a6 = 4) (gs (hR h 4 a6 3) (fun a9 =>
  gd (hK h a9 = 14) (bd (fJx4a65c_add_9ea2d a9 v2 h) (fun z12 =>
  fX6_readBoth_R_b34 rc0 rc1 rc2 v0 v1 (some a6) z12.1 z12.2)))))
set_option maxRecDepth 100000 in
theorem mX6_readBoth_R_b25 {rc0 : (Nat → Int32 → PH → Option (Option Nat × PH))} {rc1 : (Nat → Int32 → PH → Option (Option Nat × PH))} {rc2 : (Nat → Int32 → PH → Option (Option Nat × PH))} (hgm0 : ∀ {a0 : Nat} {a1 : Int32} {h : PH} {r : (Option Nat × PH)}, rc0 a0 a1 h = some r → lez h (hX r.2) (hV r.2)) (hgm1 : ∀ {a0 : Nat} {a1 : Int32} {h : PH} {r : (Option Nat × PH)}, rc1 a0 a1 h = some r → lez h (hX r.2) (hV r.2)) (hgm2 : ∀ {a0 : Nat} {a1 : Int32} {h : PH} {r : (Option Nat × PH)}, rc2 a0 a1 h = some r → lez h (hX r.2) (hV r.2)) {v0 : Nat} {v1 : Int32} {v2 : Option Nat} {t0 : Option Nat} {h : PH} {r : (Option Nat × PH)} (hf : fX6_readBoth_R_b25 rc0 rc1 rc2 v0 v1 v2 t0 h = some r) : lez h (hX r.2) (hV r.2) := by
  unfold fX6_readBoth_R_b25 at hf
  have hle := lez_rf h
  obtain ⟨a6, e7, hf⟩ := gs_some hf
  obtain ⟨hk8, hf⟩ := gd_some hf
  obtain ⟨a9, e10, hf⟩ := gs_some hf
  obtain ⟨hk11, hf⟩ := gd_some hf
  obtain ⟨z12, hz12, hf⟩ := bd_some hf
  have hle := lez_rt (mJx4a65c_add_9ea2d hz12) hle
  exact lez_rt (mX6_readBoth_R_b34 hgm0 hgm1 hgm2 hf) hle
set_option maxRecDepth 100000 in
theorem wX6_readBoth_R_b25 {E : PE} {p : Program} {l : Launch} {e : Env} {s : State} {m : MethodId} {args : Array Value} {below : List Frame} {meth : Method} {c : Code} {X0 V0 MC MS uc us : Nat} {nn : Nat} (X : Cx E p l e (rmv (8 + nn + 1) MC MS) s m args below meth c RX6 cX6_readBoth 6 (some (.object "WordFinder$Node"))) (hG : Gs E l) (hnm : meth.name = yX6_readBoth.name) {rc0 : (Nat → Int32 → PH → Option (Option Nat × PH))} {rc1 : (Nat → Int32 → PH → Option (Option Nat × PH))} {rc2 : (Nat → Int32 → PH → Option (Option Nat × PH))} (hw0 : ∀ {a0 : Nat} {a1 : Int32} {h : PH} {r : (Option Nat × PH)}, rc0 a0 a1 h = some r → Ct E l (8 + nn) ((hX r.2) - hX h) ((hV r.2) - hV h) yX6_readBoth cX6_readBoth 6 (some (.object "WordFinder$Node")) [.ref a0, .int a1] h (fun v u => v = some (va_rf r.1) ∧ u = r.2)) (hw1 : ∀ {a0 : Nat} {a1 : Int32} {h : PH} {r : (Option Nat × PH)}, rc1 a0 a1 h = some r → Ct E l (8 + nn) ((hX r.2) - hX h) ((hV r.2) - hV h) yX6_readPlain cX6_readPlain 4 (some (.object "WordFinder$Node")) [.ref a0, .int a1] h (fun v u => v = some (va_rf r.1) ∧ u = r.2)) (hw2 : ∀ {a0 : Nat} {a1 : Int32} {h : PH} {r : (Option Nat × PH)}, rc2 a0 a1 h = some r → Ct E l (8 + nn) ((hX r.2) - hX h) ((hV r.2) - hV h) yX6_readQuery cX6_readQuery 6 (some (.object "WordFinder$Node")) [.ref a0, .int a1] h (fun v u => v = some (va_rf r.1) ∧ u = r.2)) (hgm0 : ∀ {a0 : Nat} {a1 : Int32} {h : PH} {r : (Option Nat × PH)}, rc0 a0 a1 h = some r → lez h (hX r.2) (hV r.2)) (hgm1 : ∀ {a0 : Nat} {a1 : Int32} {h : PH} {r : (Option Nat × PH)}, rc1 a0 a1 h = some r → lez h (hX r.2) (hV r.2)) (hgm2 : ∀ {a0 : Nat} {a1 : Int32} {h : PH} {r : (Option Nat × PH)}, rc2 a0 a1 h = some r → lez h (hX r.2) (hV r.2)) {v0 : Nat} {v1 : Int32} {v2 : Option Nat} {t0 : Option Nat} {h : PH} {r : (Option Nat × PH)} (hM : MC + X0 = (hX r.2)) (hN : MS + V0 = (hV r.2)) (hu : uc + X0 = hX h) (hv : us + V0 = hV h) (hf : fX6_readBoth_R_b25 rc0 rc1 rc2 v0 v1 v2 t0 h = some r)  : PW E p l e (rmv (8 + nn + 1) MC MS) s m args below meth c 6 uc us (MQ below (QG E (fun v u => v = some (va_rf r.1) ∧ u = r.2)) args s MC MS (pA E)) h 25 [(0, some (.ref v0)), (1, some (.int v1)), (2, some (va_rf v2))] [va_rf t0] := by
  have hm1 : lez h (hX r.2) (hV r.2) := mX6_readBoth_R_b25 hgm0 hgm1 hgm2 hf
  have hcm : uc ≤ MC := (by have o0 := hm1.1; have o1 := hM; have o2 := hu; (try simp only [hX_sI, hX_sR, hX_sL, hX_sD, hX_sIa, hX_sRa, hV_sI, hV_sR, hV_sL, hV_sD, hV_sIa, hV_sRa, hX_new, hV_new] at o0 o1 o2 ⊢); omega)
  have hsm : us ≤ MS := (by have o0 := hm1.2; have o1 := hN; have o2 := hv; (try simp only [hX_sI, hX_sR, hX_sL, hX_sD, hX_sIa, hX_sRa, hV_sI, hV_sR, hV_sL, hV_sD, hV_sIa, hV_sRa, hX_new, hV_new] at o0 o1 o2 ⊢); omega)
  clear hm1
  unfold fX6_readBoth_R_b25 at hf
  refine p_astoreq_n X (dcg dc_X6_readBoth 14 rfl) rfl (by decide) (nwq (k := 2) rfl) ?_
  refine p_aloadq_n X (dcg dc_X6_readBoth 15 rfl) rfl rfl ?_
  obtain ⟨a6, e7, hf⟩ := gs_some hf
  first | subst e7 | (try rw [e7])
  obtain ⟨hk8, hf⟩ := gd_some hf
  refine p_getRn X fl_X6_60 rfl (by decide) (dcg dc_X6_readBoth 16 rfl) hk8 ?_
  refine p_aloadq_n X (dcg dc_X6_readBoth 17 rfl) rfl rfl ?_
  obtain ⟨a9, e10, hf⟩ := gs_some hf
  first | subst e10 | (try rw [e10])
  obtain ⟨hk11, hf⟩ := gd_some hf
  obtain ⟨z12, hz12, hf⟩ := bd_some hf
  have hc1 := mJx4a65c_add_9ea2d hz12
  have hm1 : lez _ (hX r.2) (hV r.2) := mX6_readBoth_R_b34 hgm0 hgm1 hgm2 hf
  refine p_callV (As := [va_rf _]) X ml_X6_64 (dcg dc_X6_readBoth 18 rfl) rfl rfl hk11 (wJx4a65c_add_9ea2d hG hz12) (by omega) (room4 (Nat.le_of_ble_eq_true rfl)) (by have o0 := hm1.1; have o1 := hc1.1; have o2 := hM; have o3 := hu; (try simp only [hX_sI, hX_sR, hX_sL, hX_sD, hX_sIa, hX_sRa, hV_sI, hV_sR, hV_sL, hV_sD, hV_sIa, hV_sRa, hX_new, hV_new] at o0 o1 o2 o3 ⊢); omega) (by have o0 := hm1.2; have o1 := hc1.2; have o2 := hN; have o3 := hv; (try simp only [hX_sI, hX_sR, hX_sL, hX_sD, hX_sIa, hX_sRa, hV_sI, hV_sR, hV_sL, hV_sD, hV_sIa, hV_sRa, hX_new, hV_new] at o0 o1 o2 o3 ⊢); omega) ?_
  rintro _ u9 ⟨rfl, e9⟩; have e9 := e9.symm; subst e9
  refine p_pick [0, 1, 3] ?_
  exact wX6_readBoth_R_b34 X hG hnm hw0 hw1 hw2 hgm0 hgm1 hgm2 hM hN (by have o0 := hc1.1; have o1 := hu; (try simp only [hX_sI, hX_sR, hX_sL, hX_sD, hX_sIa, hX_sRa, hV_sI, hV_sR, hV_sL, hV_sD, hV_sIa, hV_sRa, hX_new, hV_new] at o0 o1 ⊢); omega) (by have o0 := hc1.2; have o1 := hv; (try simp only [hX_sI, hX_sR, hX_sL, hX_sD, hX_sIa, hX_sRa, hV_sI, hV_sR, hV_sL, hV_sD, hV_sIa, hV_sRa, hX_new, hV_new] at o0 o1 ⊢); omega) hf 
noncomputable def fX6_readBoth_R_b5 (rc0 : (Nat → Int32 → PH → Option (Option Nat × PH))) (rc1 : (Nat → Int32 → PH → Option (Option Nat × PH))) (rc2 : (Nat → Int32 → PH → Option (Option Nat × PH))) (v0 : Nat) (v1 : Int32) (t0 : Option Nat) (h : PH) : Option (Option Nat × PH) :=
  mq t0 (fX6_readBoth_R_b19 rc0 rc1 rc2 t0 h) (fun a3 =>
  gd (hK h v0 = 6) (if ((hI h 6 v0 3) = (38 : Int32)) then (bd (fX4_joined (5 : Int32) h) (fun z5 =>
  fX6_readBoth_R_b25 rc0 rc1 rc2 v0 v1 (some a3) z5.1 z5.2)) else
  fX6_readBoth_R_b19 rc0 rc1 rc2 (some a3) h))
set_option maxRecDepth 100000 in
theorem mX6_readBoth_R_b5 {rc0 : (Nat → Int32 → PH → Option (Option Nat × PH))} {rc1 : (Nat → Int32 → PH → Option (Option Nat × PH))} {rc2 : (Nat → Int32 → PH → Option (Option Nat × PH))} (hgm0 : ∀ {a0 : Nat} {a1 : Int32} {h : PH} {r : (Option Nat × PH)}, rc0 a0 a1 h = some r → lez h (hX r.2) (hV r.2)) (hgm1 : ∀ {a0 : Nat} {a1 : Int32} {h : PH} {r : (Option Nat × PH)}, rc1 a0 a1 h = some r → lez h (hX r.2) (hV r.2)) (hgm2 : ∀ {a0 : Nat} {a1 : Int32} {h : PH} {r : (Option Nat × PH)}, rc2 a0 a1 h = some r → lez h (hX r.2) (hV r.2)) {v0 : Nat} {v1 : Int32} {t0 : Option Nat} {h : PH} {r : (Option Nat × PH)} (hf : fX6_readBoth_R_b5 rc0 rc1 rc2 v0 v1 t0 h = some r) : lez h (hX r.2) (hV r.2) := by
  unfold fX6_readBoth_R_b5 at hf
  have hle := lez_rf h
  rcases mq_or hf with ⟨q, hf⟩ | ⟨a3, q, hf⟩
  · have hf := mq_n q hf
    exact lez_rt (mX6_readBoth_R_b19 hgm0 hgm1 hgm2 hf) hle
  · have hk32 := mq_s q hf
    first | subst q | skip
    have hf := hk32
    obtain ⟨hk4, hf⟩ := gd_some hf
    rcases ite_or hf with ⟨q, hf⟩ | ⟨q, hf⟩
    · have hf := if_t q hf
      obtain ⟨z5, hz5, hf⟩ := bd_some hf
      have hle := lez_rt (mX4_joined hz5) hle
      exact lez_rt (mX6_readBoth_R_b25 hgm0 hgm1 hgm2 hf) hle
    · have hf := if_f q hf
      exact lez_rt (mX6_readBoth_R_b19 hgm0 hgm1 hgm2 hf) hle
set_option maxRecDepth 100000 in
theorem wX6_readBoth_R_b5 {E : PE} {p : Program} {l : Launch} {e : Env} {s : State} {m : MethodId} {args : Array Value} {below : List Frame} {meth : Method} {c : Code} {X0 V0 MC MS uc us : Nat} {nn : Nat} (X : Cx E p l e (rmv (8 + nn + 1) MC MS) s m args below meth c RX6 cX6_readBoth 6 (some (.object "WordFinder$Node"))) (hG : Gs E l) (hnm : meth.name = yX6_readBoth.name) {rc0 : (Nat → Int32 → PH → Option (Option Nat × PH))} {rc1 : (Nat → Int32 → PH → Option (Option Nat × PH))} {rc2 : (Nat → Int32 → PH → Option (Option Nat × PH))} (hw0 : ∀ {a0 : Nat} {a1 : Int32} {h : PH} {r : (Option Nat × PH)}, rc0 a0 a1 h = some r → Ct E l (8 + nn) ((hX r.2) - hX h) ((hV r.2) - hV h) yX6_readBoth cX6_readBoth 6 (some (.object "WordFinder$Node")) [.ref a0, .int a1] h (fun v u => v = some (va_rf r.1) ∧ u = r.2)) (hw1 : ∀ {a0 : Nat} {a1 : Int32} {h : PH} {r : (Option Nat × PH)}, rc1 a0 a1 h = some r → Ct E l (8 + nn) ((hX r.2) - hX h) ((hV r.2) - hV h) yX6_readPlain cX6_readPlain 4 (some (.object "WordFinder$Node")) [.ref a0, .int a1] h (fun v u => v = some (va_rf r.1) ∧ u = r.2)) (hw2 : ∀ {a0 : Nat} {a1 : Int32} {h : PH} {r : (Option Nat × PH)}, rc2 a0 a1 h = some r → Ct E l (8 + nn) ((hX r.2) - hX h) ((hV r.2) - hV h) yX6_readQuery cX6_readQuery 6 (some (.object "WordFinder$Node")) [.ref a0, .int a1] h (fun v u => v = some (va_rf r.1) ∧ u = r.2)) (hgm0 : ∀ {a0 : Nat} {a1 : Int32} {h : PH} {r : (Option Nat × PH)}, rc0 a0 a1 h = some r → lez h (hX r.2) (hV r.2)) (hgm1 : ∀ {a0 : Nat} {a1 : Int32} {h : PH} {r : (Option Nat × PH)}, rc1 a0 a1 h = some r → lez h (hX r.2) (hV r.2)) (hgm2 : ∀ {a0 : Nat} {a1 : Int32} {h : PH} {r : (Option Nat × PH)}, rc2 a0 a1 h = some r → lez h (hX r.2) (hV r.2)) {v0 : Nat} {v1 : Int32} {t0 : Option Nat} {h : PH} {r : (Option Nat × PH)} (hM : MC + X0 = (hX r.2)) (hN : MS + V0 = (hV r.2)) (hu : uc + X0 = hX h) (hv : us + V0 = hV h) (hf : fX6_readBoth_R_b5 rc0 rc1 rc2 v0 v1 t0 h = some r)  : PW E p l e (rmv (8 + nn + 1) MC MS) s m args below meth c 6 uc us (MQ below (QG E (fun v u => v = some (va_rf r.1) ∧ u = r.2)) args s MC MS (pA E)) h 5 [(0, some (.ref v0)), (1, some (.int v1))] [va_rf t0] := by
  have hm1 : lez h (hX r.2) (hV r.2) := mX6_readBoth_R_b5 hgm0 hgm1 hgm2 hf
  have hcm : uc ≤ MC := (by have o0 := hm1.1; have o1 := hM; have o2 := hu; (try simp only [hX_sI, hX_sR, hX_sL, hX_sD, hX_sIa, hX_sRa, hV_sI, hV_sR, hV_sL, hV_sD, hV_sIa, hV_sRa, hX_new, hV_new] at o0 o1 o2 ⊢); omega)
  have hsm : us ≤ MS := (by have o0 := hm1.2; have o1 := hN; have o2 := hv; (try simp only [hX_sI, hX_sR, hX_sL, hX_sD, hX_sIa, hX_sRa, hV_sI, hV_sR, hV_sL, hV_sD, hV_sIa, hV_sRa, hX_new, hV_new] at o0 o1 o2 ⊢); omega)
  clear hm1
  unfold fX6_readBoth_R_b5 at hf
  refine p_astoreq_n X (dcg dc_X6_readBoth 3 rfl) rfl (by decide) rfl ?_
  refine p_aloadq_n X (dcg dc_X6_readBoth 4 rfl) rfl rfl ?_
  refine p_ifnull (tgt := 19) X (dcg dc_X6_readBoth 5 rfl) (by decide) (fun q => ?_) (fun a3 q => ?_)
  · have hk32 := mq_n q hf
    first | subst q | (try rw [q])
    have hf := hk32
    refine p_pick [2] ?_
    exact wX6_readBoth_R_b19 X hG hnm hw0 hw1 hw2 hgm0 hgm1 hgm2 hM hN hu hv hf 
  · have hk32 := mq_s q hf
    first | subst q | (try rw [q])
    have hf := hk32
    refine p_aload_n X (dcg dc_X6_readBoth 6 rfl) rfl rfl ?_
    obtain ⟨hk4, hf⟩ := gd_some hf
    refine p_getI X fl_X6_36 rfl (by decide) (dcg dc_X6_readBoth 7 rfl) hk4 ?_
    refine p_bipush (v := 38) X (dcg dc_X6_readBoth 8 rfl) (by decide) ?_
    refine p_icmp_eq (tgt := 21) X (dcg dc_X6_readBoth 9 rfl) (by decide) (fun q => ?_) (fun q => ?_)
    · have hf := if_t q hf
      refine p_iconst (v := 5) X (dcg dc_X6_readBoth 12 rfl) (by decide) ?_
      obtain ⟨z5, hz5, hf⟩ := bd_some hf
      have hc1 := mX4_joined hz5
      have hm1 : lez _ (hX r.2) (hV r.2) := mX6_readBoth_R_b25 hgm0 hgm1 hgm2 hf
      refine p_callS (As := [_]) X ml_X6_57 (dcg dc_X6_readBoth 13 rfl) rfl rfl  (wX4_joined hG hz5) (by omega) (room4 (Nat.le_of_ble_eq_true rfl)) (by have o0 := hm1.1; have o1 := hc1.1; have o2 := hM; have o3 := hu; (try simp only [hX_sI, hX_sR, hX_sL, hX_sD, hX_sIa, hX_sRa, hV_sI, hV_sR, hV_sL, hV_sD, hV_sIa, hV_sRa, hX_new, hV_new] at o0 o1 o2 o3 ⊢); omega) (by have o0 := hm1.2; have o1 := hc1.2; have o2 := hN; have o3 := hv; (try simp only [hX_sI, hX_sR, hX_sL, hX_sD, hX_sIa, hX_sRa, hV_sI, hV_sR, hV_sL, hV_sD, hV_sIa, hV_sRa, hX_new, hV_new] at o0 o1 o2 o3 ⊢); omega) ?_
      rintro _ u9 ⟨rfl, e9⟩; have e9 := e9.symm; subst e9
      refine p_pick [0, 1, 2] ?_
      exact wX6_readBoth_R_b25 X hG hnm hw0 hw1 hw2 hgm0 hgm1 hgm2 hM hN (by have o0 := hc1.1; have o1 := hu; (try simp only [hX_sI, hX_sR, hX_sL, hX_sD, hX_sIa, hX_sRa, hV_sI, hV_sR, hV_sL, hV_sD, hV_sIa, hV_sRa, hX_new, hV_new] at o0 o1 ⊢); omega) (by have o0 := hc1.2; have o1 := hv; (try simp only [hX_sI, hX_sR, hX_sL, hX_sD, hX_sIa, hX_sRa, hV_sI, hV_sR, hV_sL, hV_sD, hV_sIa, hV_sRa, hX_new, hV_new] at o0 o1 ⊢); omega) hf 
    · have hf := if_f q hf
      refine p_pick [2] ?_
      exact wX6_readBoth_R_b19 X hG hnm hw0 hw1 hw2 hgm0 hgm1 hgm2 hM hN hu hv hf 
noncomputable def fX6_readBoth_R_b0 (rc0 : (Nat → Int32 → PH → Option (Option Nat × PH))) (rc1 : (Nat → Int32 → PH → Option (Option Nat × PH))) (rc2 : (Nat → Int32 → PH → Option (Option Nat × PH))) (v0 : Nat) (v1 : Int32) (h : PH) : Option (Option Nat × PH) :=
  gd (hK h v0 = 6) (bd (rc1 v0 v1 h) (fun z2 =>
  fX6_readBoth_R_b5 rc0 rc1 rc2 v0 v1 z2.1 z2.2))
set_option maxRecDepth 100000 in
theorem mX6_readBoth_R_b0 {rc0 : (Nat → Int32 → PH → Option (Option Nat × PH))} {rc1 : (Nat → Int32 → PH → Option (Option Nat × PH))} {rc2 : (Nat → Int32 → PH → Option (Option Nat × PH))} (hgm0 : ∀ {a0 : Nat} {a1 : Int32} {h : PH} {r : (Option Nat × PH)}, rc0 a0 a1 h = some r → lez h (hX r.2) (hV r.2)) (hgm1 : ∀ {a0 : Nat} {a1 : Int32} {h : PH} {r : (Option Nat × PH)}, rc1 a0 a1 h = some r → lez h (hX r.2) (hV r.2)) (hgm2 : ∀ {a0 : Nat} {a1 : Int32} {h : PH} {r : (Option Nat × PH)}, rc2 a0 a1 h = some r → lez h (hX r.2) (hV r.2)) {v0 : Nat} {v1 : Int32} {h : PH} {r : (Option Nat × PH)} (hf : fX6_readBoth_R_b0 rc0 rc1 rc2 v0 v1 h = some r) : lez h (hX r.2) (hV r.2) := by
  unfold fX6_readBoth_R_b0 at hf
  have hle := lez_rf h
  obtain ⟨hk1, hf⟩ := gd_some hf
  obtain ⟨z2, hz2, hf⟩ := bd_some hf
  have hle := lez_rt (hgm1 hz2) hle
  exact lez_rt (mX6_readBoth_R_b5 hgm0 hgm1 hgm2 hf) hle
set_option maxRecDepth 100000 in
theorem wX6_readBoth_R_b0 {E : PE} {p : Program} {l : Launch} {e : Env} {s : State} {m : MethodId} {args : Array Value} {below : List Frame} {meth : Method} {c : Code} {X0 V0 MC MS uc us : Nat} {nn : Nat} (X : Cx E p l e (rmv (8 + nn + 1) MC MS) s m args below meth c RX6 cX6_readBoth 6 (some (.object "WordFinder$Node"))) (hG : Gs E l) (hnm : meth.name = yX6_readBoth.name) {rc0 : (Nat → Int32 → PH → Option (Option Nat × PH))} {rc1 : (Nat → Int32 → PH → Option (Option Nat × PH))} {rc2 : (Nat → Int32 → PH → Option (Option Nat × PH))} (hw0 : ∀ {a0 : Nat} {a1 : Int32} {h : PH} {r : (Option Nat × PH)}, rc0 a0 a1 h = some r → Ct E l (8 + nn) ((hX r.2) - hX h) ((hV r.2) - hV h) yX6_readBoth cX6_readBoth 6 (some (.object "WordFinder$Node")) [.ref a0, .int a1] h (fun v u => v = some (va_rf r.1) ∧ u = r.2)) (hw1 : ∀ {a0 : Nat} {a1 : Int32} {h : PH} {r : (Option Nat × PH)}, rc1 a0 a1 h = some r → Ct E l (8 + nn) ((hX r.2) - hX h) ((hV r.2) - hV h) yX6_readPlain cX6_readPlain 4 (some (.object "WordFinder$Node")) [.ref a0, .int a1] h (fun v u => v = some (va_rf r.1) ∧ u = r.2)) (hw2 : ∀ {a0 : Nat} {a1 : Int32} {h : PH} {r : (Option Nat × PH)}, rc2 a0 a1 h = some r → Ct E l (8 + nn) ((hX r.2) - hX h) ((hV r.2) - hV h) yX6_readQuery cX6_readQuery 6 (some (.object "WordFinder$Node")) [.ref a0, .int a1] h (fun v u => v = some (va_rf r.1) ∧ u = r.2)) (hgm0 : ∀ {a0 : Nat} {a1 : Int32} {h : PH} {r : (Option Nat × PH)}, rc0 a0 a1 h = some r → lez h (hX r.2) (hV r.2)) (hgm1 : ∀ {a0 : Nat} {a1 : Int32} {h : PH} {r : (Option Nat × PH)}, rc1 a0 a1 h = some r → lez h (hX r.2) (hV r.2)) (hgm2 : ∀ {a0 : Nat} {a1 : Int32} {h : PH} {r : (Option Nat × PH)}, rc2 a0 a1 h = some r → lez h (hX r.2) (hV r.2)) {v0 : Nat} {v1 : Int32} {h : PH} {r : (Option Nat × PH)} (hM : MC + X0 = (hX r.2)) (hN : MS + V0 = (hV r.2)) (hu : uc + X0 = hX h) (hv : us + V0 = hV h) (hf : fX6_readBoth_R_b0 rc0 rc1 rc2 v0 v1 h = some r)  : PW E p l e (rmv (8 + nn + 1) MC MS) s m args below meth c 6 uc us (MQ below (QG E (fun v u => v = some (va_rf r.1) ∧ u = r.2)) args s MC MS (pA E)) h 0 [(0, some (.ref v0)), (1, some (.int v1))] [] := by
  have hm1 : lez h (hX r.2) (hV r.2) := mX6_readBoth_R_b0 hgm0 hgm1 hgm2 hf
  have hcm : uc ≤ MC := (by have o0 := hm1.1; have o1 := hM; have o2 := hu; (try simp only [hX_sI, hX_sR, hX_sL, hX_sD, hX_sIa, hX_sRa, hV_sI, hV_sR, hV_sL, hV_sD, hV_sIa, hV_sRa, hX_new, hV_new] at o0 o1 o2 ⊢); omega)
  have hsm : us ≤ MS := (by have o0 := hm1.2; have o1 := hN; have o2 := hv; (try simp only [hX_sI, hX_sR, hX_sL, hX_sD, hX_sIa, hX_sRa, hV_sI, hV_sR, hV_sL, hV_sD, hV_sIa, hV_sRa, hX_new, hV_new] at o0 o1 o2 ⊢); omega)
  clear hm1
  unfold fX6_readBoth_R_b0 at hf
  refine p_aload_n X (dcg dc_X6_readBoth 0 rfl) rfl rfl ?_
  refine p_iload_n X (dcg dc_X6_readBoth 1 rfl) rfl rfl ?_
  obtain ⟨hk1, hf⟩ := gd_some hf
  obtain ⟨z2, hz2, hf⟩ := bd_some hf
  have hc1 := hgm1 hz2
  have hm1 : lez _ (hX r.2) (hV r.2) := mX6_readBoth_R_b5 hgm0 hgm1 hgm2 hf
  refine p_callV (As := [_]) X ml_X6_70 (dcg dc_X6_readBoth 2 rfl) rfl rfl hk1 (hw1 hz2) (by omega) (room4 (Nat.le_of_ble_eq_true rfl)) (by have o0 := hm1.1; have o1 := hc1.1; have o2 := hM; have o3 := hu; (try simp only [hX_sI, hX_sR, hX_sL, hX_sD, hX_sIa, hX_sRa, hV_sI, hV_sR, hV_sL, hV_sD, hV_sIa, hV_sRa, hX_new, hV_new] at o0 o1 o2 o3 ⊢); omega) (by have o0 := hm1.2; have o1 := hc1.2; have o2 := hN; have o3 := hv; (try simp only [hX_sI, hX_sR, hX_sL, hX_sD, hX_sIa, hX_sRa, hV_sI, hV_sR, hV_sL, hV_sD, hV_sIa, hV_sRa, hX_new, hV_new] at o0 o1 o2 o3 ⊢); omega) ?_
  rintro _ u9 ⟨rfl, e9⟩; have e9 := e9.symm; subst e9
  refine p_pick [0, 1] ?_
  exact wX6_readBoth_R_b5 X hG hnm hw0 hw1 hw2 hgm0 hgm1 hgm2 hM hN (by have o0 := hc1.1; have o1 := hu; (try simp only [hX_sI, hX_sR, hX_sL, hX_sD, hX_sIa, hX_sRa, hV_sI, hV_sR, hV_sL, hV_sD, hV_sIa, hV_sRa, hX_new, hV_new] at o0 o1 ⊢); omega) (by have o0 := hc1.2; have o1 := hv; (try simp only [hX_sI, hX_sR, hX_sL, hX_sD, hX_sIa, hX_sRa, hV_sI, hV_sR, hV_sL, hV_sD, hV_sIa, hV_sRa, hX_new, hV_new] at o0 o1 ⊢); omega) hf 
noncomputable def fX6_readBoth_R (rc0 : (Nat → Int32 → PH → Option (Option Nat × PH))) (rc1 : (Nat → Int32 → PH → Option (Option Nat × PH))) (rc2 : (Nat → Int32 → PH → Option (Option Nat × PH))) (v0 : Nat) (v1 : Int32) (h : PH) : Option (Option Nat × PH) :=
  fX6_readBoth_R_b0 rc0 rc1 rc2 v0 v1 h
set_option maxRecDepth 100000 in
theorem mX6_readBoth_R {rc0 : (Nat → Int32 → PH → Option (Option Nat × PH))} {rc1 : (Nat → Int32 → PH → Option (Option Nat × PH))} {rc2 : (Nat → Int32 → PH → Option (Option Nat × PH))} (hgm0 : ∀ {a0 : Nat} {a1 : Int32} {h : PH} {r : (Option Nat × PH)}, rc0 a0 a1 h = some r → lez h (hX r.2) (hV r.2)) (hgm1 : ∀ {a0 : Nat} {a1 : Int32} {h : PH} {r : (Option Nat × PH)}, rc1 a0 a1 h = some r → lez h (hX r.2) (hV r.2)) (hgm2 : ∀ {a0 : Nat} {a1 : Int32} {h : PH} {r : (Option Nat × PH)}, rc2 a0 a1 h = some r → lez h (hX r.2) (hV r.2)) {v0 : Nat} {v1 : Int32} {h : PH} {r : (Option Nat × PH)} (hf : fX6_readBoth_R rc0 rc1 rc2 v0 v1 h = some r) : lez h (hX r.2) (hV r.2) := by
  unfold fX6_readBoth_R at hf
  have hle := lez_rf h
  exact lez_rt (mX6_readBoth_R_b0 hgm0 hgm1 hgm2 hf) hle
set_option maxRecDepth 100000 in
theorem wX6_readBoth_R {E : PE} {l : Launch} (hG : Gs E l) {nn : Nat} {rc0 : (Nat → Int32 → PH → Option (Option Nat × PH))} {rc1 : (Nat → Int32 → PH → Option (Option Nat × PH))} {rc2 : (Nat → Int32 → PH → Option (Option Nat × PH))} (hw0 : ∀ {a0 : Nat} {a1 : Int32} {h : PH} {r : (Option Nat × PH)}, rc0 a0 a1 h = some r → Ct E l (8 + nn) ((hX r.2) - hX h) ((hV r.2) - hV h) yX6_readBoth cX6_readBoth 6 (some (.object "WordFinder$Node")) [.ref a0, .int a1] h (fun v u => v = some (va_rf r.1) ∧ u = r.2)) (hw1 : ∀ {a0 : Nat} {a1 : Int32} {h : PH} {r : (Option Nat × PH)}, rc1 a0 a1 h = some r → Ct E l (8 + nn) ((hX r.2) - hX h) ((hV r.2) - hV h) yX6_readPlain cX6_readPlain 4 (some (.object "WordFinder$Node")) [.ref a0, .int a1] h (fun v u => v = some (va_rf r.1) ∧ u = r.2)) (hw2 : ∀ {a0 : Nat} {a1 : Int32} {h : PH} {r : (Option Nat × PH)}, rc2 a0 a1 h = some r → Ct E l (8 + nn) ((hX r.2) - hX h) ((hV r.2) - hV h) yX6_readQuery cX6_readQuery 6 (some (.object "WordFinder$Node")) [.ref a0, .int a1] h (fun v u => v = some (va_rf r.1) ∧ u = r.2)) (hgm0 : ∀ {a0 : Nat} {a1 : Int32} {h : PH} {r : (Option Nat × PH)}, rc0 a0 a1 h = some r → lez h (hX r.2) (hV r.2)) (hgm1 : ∀ {a0 : Nat} {a1 : Int32} {h : PH} {r : (Option Nat × PH)}, rc1 a0 a1 h = some r → lez h (hX r.2) (hV r.2)) (hgm2 : ∀ {a0 : Nat} {a1 : Int32} {h : PH} {r : (Option Nat × PH)}, rc2 a0 a1 h = some r → lez h (hX r.2) (hV r.2)) {v0 : Nat} {v1 : Int32} {h : PH} {r : (Option Nat × PH)} (hf : fX6_readBoth_R rc0 rc1 rc2 v0 v1 h = some r) : Ct E l (8 + nn + 1) ((hX r.2) - hX h) ((hV r.2) - hV h) yX6_readBoth cX6_readBoth 6 (some (.object "WordFinder$Node")) [.ref v0, .int v1] h (fun v u => v = some (va_rf r.1) ∧ u = r.2) := by
  have hmm := mX6_readBoth_R hgm0 hgm1 hgm2 hf
  refine ct_of hG (by decide) (Nat.le_of_ble_eq_true rfl) ?_
  intro p e s m args below meth c X hnm
  show PW E p l e _ s m args below meth c _ 0 0 _ h 0 [(0, some (.ref v0)), (1, some (.int v1))] []
  unfold fX6_readBoth_R at hf
  have hM := Nat.sub_add_cancel hmm.1
  have hN := Nat.sub_add_cancel hmm.2
  refine p_pick [0, 1] ?_
  exact wX6_readBoth_R_b0 X hG hnm hw0 hw1 hw2 hgm0 hgm1 hgm2 hM hN (Nat.zero_add _) (Nat.zero_add _) hf
theorem dc_X6_readPlain : decs cX6_readPlain [(0, .aload_n 0, 1), (1, .getfield 36, 3), (4, .iconst 2, 1), (5, .if_icmp .ne 8, 3), (8, .aload_n 0, 1), (9, .invokevirtual 73, 3), (12, .areturn, 1), (13, .aload_n 0, 1), (14, .getfield 36, 3), (17, .bipush 91, 2), (19, .if_icmp .ne 8, 3), (22, .aload_n 0, 1), (23, .invokevirtual 76, 3), (26, .areturn, 1), (27, .aload_n 0, 1), (28, .getfield 36, 3), (31, .bipush 33, 2), (33, .if_icmp .eq 12, 3), (36, .aload_n 0, 1), (37, .getfield 36, 3), (40, .bipush 40, 2), (42, .if_icmp .ne 9, 3), (45, .iload_n 1, 1), (46, .bipush 8, 2), (48, .if_icmp .lt 8, 3), (51, .aload_n 0, 1), (52, .invokevirtual 39, 3), (55, .areturn, 1), (56, .aload_n 0, 1), (57, .getfield 36, 3), (60, .bipush 33, 2), (62, .if_icmp .ne 7, 3), (65, .iconst 1, 1), (66, .goto 4, 3), (69, .iconst 0, 1), (70, .istore_n 2, 1), (71, .aload_n 0, 1), (72, .invokevirtual 29, 3), (75, .iload_n 2, 1), (76, .ifCond .eq 13, 3), (79, .aload_n 0, 1), (80, .iload_n 1, 1), (81, .iconst 1, 1), (82, .iadd, 1), (83, .invokevirtual 70, 3), (86, .goto 10, 3), (89, .aload_n 0, 1), (90, .iload_n 1, 1), (91, .iconst 1, 1), (92, .iadd, 1), (93, .invokevirtual 32, 3), (96, .astore_n 3, 1), (97, .aload_n 3, 1), (98, .ifnull 7, 3), (101, .iload_n 2, 1), (102, .ifCond .eq 16, 3), (105, .aload_n 3, 1), (106, .ifnonnull 7, 3), (109, .aconst_null, 1), (110, .goto 7, 3), (113, .aload_n 3, 1), (114, .invokestatic 79, 3), (117, .areturn, 1), (118, .aload_n 0, 1), (119, .getfield 36, 3), (122, .bipush 41, 2), (124, .if_icmp .eq 8, 3), (127, .aload_n 0, 1), (128, .invokevirtual 39, 3), (131, .areturn, 1), (132, .aload_n 0, 1), (133, .invokevirtual 29, 3), (136, .aload_n 3, 1), (137, .areturn, 1)] = true := by decide +kernel
noncomputable def fX6_readPlain_R_b117 (rc0 : (Nat → Int32 → PH → Option (Option Nat × PH))) (rc1 : (Nat → Int32 → PH → Option (Option Nat × PH))) (rc2 : (Nat → Int32 → PH → Option (Option Nat × PH))) (t0 : Option Nat) (h : PH) : Option (Option Nat × PH) :=
  some ((t0, h))
set_option maxRecDepth 100000 in
theorem mX6_readPlain_R_b117 {rc0 : (Nat → Int32 → PH → Option (Option Nat × PH))} {rc1 : (Nat → Int32 → PH → Option (Option Nat × PH))} {rc2 : (Nat → Int32 → PH → Option (Option Nat × PH))} (hgm0 : ∀ {a0 : Nat} {a1 : Int32} {h : PH} {r : (Option Nat × PH)}, rc0 a0 a1 h = some r → lez h (hX r.2) (hV r.2)) (hgm1 : ∀ {a0 : Nat} {a1 : Int32} {h : PH} {r : (Option Nat × PH)}, rc1 a0 a1 h = some r → lez h (hX r.2) (hV r.2)) (hgm2 : ∀ {a0 : Nat} {a1 : Int32} {h : PH} {r : (Option Nat × PH)}, rc2 a0 a1 h = some r → lez h (hX r.2) (hV r.2)) {t0 : Option Nat} {h : PH} {r : (Option Nat × PH)} (hf : fX6_readPlain_R_b117 rc0 rc1 rc2 t0 h = some r) : lez h (hX r.2) (hV r.2) := by
  unfold fX6_readPlain_R_b117 at hf
  have hle := lez_rf h
  have ee := Option.some.inj hf; subst ee; exact hle
set_option maxRecDepth 100000 in
theorem wX6_readPlain_R_b117 {E : PE} {p : Program} {l : Launch} {e : Env} {s : State} {m : MethodId} {args : Array Value} {below : List Frame} {meth : Method} {c : Code} {X0 V0 MC MS uc us : Nat} {nn : Nat} (X : Cx E p l e (rmv (8 + nn + 1) MC MS) s m args below meth c RX6 cX6_readPlain 4 (some (.object "WordFinder$Node"))) (hG : Gs E l) (hnm : meth.name = yX6_readPlain.name) {rc0 : (Nat → Int32 → PH → Option (Option Nat × PH))} {rc1 : (Nat → Int32 → PH → Option (Option Nat × PH))} {rc2 : (Nat → Int32 → PH → Option (Option Nat × PH))} (hw0 : ∀ {a0 : Nat} {a1 : Int32} {h : PH} {r : (Option Nat × PH)}, rc0 a0 a1 h = some r → Ct E l (8 + nn) ((hX r.2) - hX h) ((hV r.2) - hV h) yX6_readBoth cX6_readBoth 6 (some (.object "WordFinder$Node")) [.ref a0, .int a1] h (fun v u => v = some (va_rf r.1) ∧ u = r.2)) (hw1 : ∀ {a0 : Nat} {a1 : Int32} {h : PH} {r : (Option Nat × PH)}, rc1 a0 a1 h = some r → Ct E l (8 + nn) ((hX r.2) - hX h) ((hV r.2) - hV h) yX6_readPlain cX6_readPlain 4 (some (.object "WordFinder$Node")) [.ref a0, .int a1] h (fun v u => v = some (va_rf r.1) ∧ u = r.2)) (hw2 : ∀ {a0 : Nat} {a1 : Int32} {h : PH} {r : (Option Nat × PH)}, rc2 a0 a1 h = some r → Ct E l (8 + nn) ((hX r.2) - hX h) ((hV r.2) - hV h) yX6_readQuery cX6_readQuery 6 (some (.object "WordFinder$Node")) [.ref a0, .int a1] h (fun v u => v = some (va_rf r.1) ∧ u = r.2)) (hgm0 : ∀ {a0 : Nat} {a1 : Int32} {h : PH} {r : (Option Nat × PH)}, rc0 a0 a1 h = some r → lez h (hX r.2) (hV r.2)) (hgm1 : ∀ {a0 : Nat} {a1 : Int32} {h : PH} {r : (Option Nat × PH)}, rc1 a0 a1 h = some r → lez h (hX r.2) (hV r.2)) (hgm2 : ∀ {a0 : Nat} {a1 : Int32} {h : PH} {r : (Option Nat × PH)}, rc2 a0 a1 h = some r → lez h (hX r.2) (hV r.2)) {t0 : Option Nat} {h : PH} {r : (Option Nat × PH)} (hM : MC + X0 = (hX r.2)) (hN : MS + V0 = (hV r.2)) (hu : uc + X0 = hX h) (hv : us + V0 = hV h) (hf : fX6_readPlain_R_b117 rc0 rc1 rc2 t0 h = some r)  : PW E p l e (rmv (8 + nn + 1) MC MS) s m args below meth c 4 uc us (MQ below (QG E (fun v u => v = some (va_rf r.1) ∧ u = r.2)) args s MC MS (pA E)) h 117 [] [va_rf t0] := by
  have hm1 : lez h (hX r.2) (hV r.2) := mX6_readPlain_R_b117 hgm0 hgm1 hgm2 hf
  have hcm : uc ≤ MC := (by have o0 := hm1.1; have o1 := hM; have o2 := hu; (try simp only [hX_sI, hX_sR, hX_sL, hX_sD, hX_sIa, hX_sRa, hV_sI, hV_sR, hV_sL, hV_sD, hV_sIa, hV_sRa, hX_new, hV_new] at o0 o1 o2 ⊢); omega)
  have hsm : us ≤ MS := (by have o0 := hm1.2; have o1 := hN; have o2 := hv; (try simp only [hX_sI, hX_sR, hX_sL, hX_sD, hX_sIa, hX_sRa, hV_sI, hV_sR, hV_sL, hV_sD, hV_sIa, hV_sRa, hX_new, hV_new] at o0 o1 o2 ⊢); omega)
  clear hm1
  unfold fX6_readPlain_R_b117 at hf
  have er := Option.some.inj hf
  subst er
  exact p_aret X rfl (Or.inl ⟨_, rfl⟩) (dcg dc_X6_readPlain 62 rfl) ⟨rfl, rfl⟩ hcm hsm
noncomputable def fX6_readPlain_R_b105 (rc0 : (Nat → Int32 → PH → Option (Option Nat × PH))) (rc1 : (Nat → Int32 → PH → Option (Option Nat × PH))) (rc2 : (Nat → Int32 → PH → Option (Option Nat × PH))) (v3 : Option Nat) (h : PH) : Option (Option Nat × PH) :=
  mq v3 (fX6_readPlain_R_b117 rc0 rc1 rc2 none h) (fun a8 =>
  bd (fX4_not (some a8) h) (fun z9 =>
  fX6_readPlain_R_b117 rc0 rc1 rc2 z9.1 z9.2))
set_option maxRecDepth 100000 in
theorem mX6_readPlain_R_b105 {rc0 : (Nat → Int32 → PH → Option (Option Nat × PH))} {rc1 : (Nat → Int32 → PH → Option (Option Nat × PH))} {rc2 : (Nat → Int32 → PH → Option (Option Nat × PH))} (hgm0 : ∀ {a0 : Nat} {a1 : Int32} {h : PH} {r : (Option Nat × PH)}, rc0 a0 a1 h = some r → lez h (hX r.2) (hV r.2)) (hgm1 : ∀ {a0 : Nat} {a1 : Int32} {h : PH} {r : (Option Nat × PH)}, rc1 a0 a1 h = some r → lez h (hX r.2) (hV r.2)) (hgm2 : ∀ {a0 : Nat} {a1 : Int32} {h : PH} {r : (Option Nat × PH)}, rc2 a0 a1 h = some r → lez h (hX r.2) (hV r.2)) {v3 : Option Nat} {h : PH} {r : (Option Nat × PH)} (hf : fX6_readPlain_R_b105 rc0 rc1 rc2 v3 h = some r) : lez h (hX r.2) (hV r.2) := by
  unfold fX6_readPlain_R_b105 at hf
  have hle := lez_rf h
  rcases mq_or hf with ⟨q, hf⟩ | ⟨a8, q, hf⟩
  · have hf := mq_n q hf
    exact lez_rt (mX6_readPlain_R_b117 hgm0 hgm1 hgm2 hf) hle
  · have hk10 := mq_s q hf
    first | subst q | skip
    have hf := hk10
    obtain ⟨z9, hz9, hf⟩ := bd_some hf
    have hle := lez_rt (mX4_not hz9) hle
    exact lez_rt (mX6_readPlain_R_b117 hgm0 hgm1 hgm2 hf) hle
set_option maxRecDepth 100000 in
theorem wX6_readPlain_R_b105 {E : PE} {p : Program} {l : Launch} {e : Env} {s : State} {m : MethodId} {args : Array Value} {below : List Frame} {meth : Method} {c : Code} {X0 V0 MC MS uc us : Nat} {nn : Nat} (X : Cx E p l e (rmv (8 + nn + 1) MC MS) s m args below meth c RX6 cX6_readPlain 4 (some (.object "WordFinder$Node"))) (hG : Gs E l) (hnm : meth.name = yX6_readPlain.name) {rc0 : (Nat → Int32 → PH → Option (Option Nat × PH))} {rc1 : (Nat → Int32 → PH → Option (Option Nat × PH))} {rc2 : (Nat → Int32 → PH → Option (Option Nat × PH))} (hw0 : ∀ {a0 : Nat} {a1 : Int32} {h : PH} {r : (Option Nat × PH)}, rc0 a0 a1 h = some r → Ct E l (8 + nn) ((hX r.2) - hX h) ((hV r.2) - hV h) yX6_readBoth cX6_readBoth 6 (some (.object "WordFinder$Node")) [.ref a0, .int a1] h (fun v u => v = some (va_rf r.1) ∧ u = r.2)) (hw1 : ∀ {a0 : Nat} {a1 : Int32} {h : PH} {r : (Option Nat × PH)}, rc1 a0 a1 h = some r → Ct E l (8 + nn) ((hX r.2) - hX h) ((hV r.2) - hV h) yX6_readPlain cX6_readPlain 4 (some (.object "WordFinder$Node")) [.ref a0, .int a1] h (fun v u => v = some (va_rf r.1) ∧ u = r.2)) (hw2 : ∀ {a0 : Nat} {a1 : Int32} {h : PH} {r : (Option Nat × PH)}, rc2 a0 a1 h = some r → Ct E l (8 + nn) ((hX r.2) - hX h) ((hV r.2) - hV h) yX6_readQuery cX6_readQuery 6 (some (.object "WordFinder$Node")) [.ref a0, .int a1] h (fun v u => v = some (va_rf r.1) ∧ u = r.2)) (hgm0 : ∀ {a0 : Nat} {a1 : Int32} {h : PH} {r : (Option Nat × PH)}, rc0 a0 a1 h = some r → lez h (hX r.2) (hV r.2)) (hgm1 : ∀ {a0 : Nat} {a1 : Int32} {h : PH} {r : (Option Nat × PH)}, rc1 a0 a1 h = some r → lez h (hX r.2) (hV r.2)) (hgm2 : ∀ {a0 : Nat} {a1 : Int32} {h : PH} {r : (Option Nat × PH)}, rc2 a0 a1 h = some r → lez h (hX r.2) (hV r.2)) {v3 : Option Nat} {h : PH} {r : (Option Nat × PH)} (hM : MC + X0 = (hX r.2)) (hN : MS + V0 = (hV r.2)) (hu : uc + X0 = hX h) (hv : us + V0 = hV h) (hf : fX6_readPlain_R_b105 rc0 rc1 rc2 v3 h = some r)  : PW E p l e (rmv (8 + nn + 1) MC MS) s m args below meth c 4 uc us (MQ below (QG E (fun v u => v = some (va_rf r.1) ∧ u = r.2)) args s MC MS (pA E)) h 105 [(3, some (va_rf v3))] [] := by
  have hm1 : lez h (hX r.2) (hV r.2) := mX6_readPlain_R_b105 hgm0 hgm1 hgm2 hf
  have hcm : uc ≤ MC := (by have o0 := hm1.1; have o1 := hM; have o2 := hu; (try simp only [hX_sI, hX_sR, hX_sL, hX_sD, hX_sIa, hX_sRa, hV_sI, hV_sR, hV_sL, hV_sD, hV_sIa, hV_sRa, hX_new, hV_new] at o0 o1 o2 ⊢); omega)
  have hsm : us ≤ MS := (by have o0 := hm1.2; have o1 := hN; have o2 := hv; (try simp only [hX_sI, hX_sR, hX_sL, hX_sD, hX_sIa, hX_sRa, hV_sI, hV_sR, hV_sL, hV_sD, hV_sIa, hV_sRa, hX_new, hV_new] at o0 o1 o2 ⊢); omega)
  clear hm1
  unfold fX6_readPlain_R_b105 at hf
  refine p_aloadq_n X (dcg dc_X6_readPlain 56 rfl) rfl rfl ?_
  refine p_ifnonnull (tgt := 113) X (dcg dc_X6_readPlain 57 rfl) (by decide) (fun a8 q => ?_) (fun q => ?_)
  · have hk10 := mq_s q hf
    first | subst q | (try rw [q])
    have hf := hk10
    refine p_aload_n X (dcg dc_X6_readPlain 60 rfl) rfl rfl ?_
    obtain ⟨z9, hz9, hf⟩ := bd_some hf
    have hc1 := mX4_not hz9
    have hm1 : lez _ (hX r.2) (hV r.2) := mX6_readPlain_R_b117 hgm0 hgm1 hgm2 hf
    refine p_callS (As := [va_rf (some _)]) X ml_X6_79 (dcg dc_X6_readPlain 61 rfl) rfl rfl  (wX4_not hG hz9) (by omega) (room4 (Nat.le_of_ble_eq_true rfl)) (by have o0 := hm1.1; have o1 := hc1.1; have o2 := hM; have o3 := hu; (try simp only [hX_sI, hX_sR, hX_sL, hX_sD, hX_sIa, hX_sRa, hV_sI, hV_sR, hV_sL, hV_sD, hV_sIa, hV_sRa, hX_new, hV_new] at o0 o1 o2 o3 ⊢); omega) (by have o0 := hm1.2; have o1 := hc1.2; have o2 := hN; have o3 := hv; (try simp only [hX_sI, hX_sR, hX_sL, hX_sD, hX_sIa, hX_sRa, hV_sI, hV_sR, hV_sL, hV_sD, hV_sIa, hV_sRa, hX_new, hV_new] at o0 o1 o2 o3 ⊢); omega) ?_
    rintro _ u9 ⟨rfl, e9⟩; have e9 := e9.symm; subst e9
    refine p_pick [] ?_
    exact wX6_readPlain_R_b117 X hG hnm hw0 hw1 hw2 hgm0 hgm1 hgm2 hM hN (by have o0 := hc1.1; have o1 := hu; (try simp only [hX_sI, hX_sR, hX_sL, hX_sD, hX_sIa, hX_sRa, hV_sI, hV_sR, hV_sL, hV_sD, hV_sIa, hV_sRa, hX_new, hV_new] at o0 o1 ⊢); omega) (by have o0 := hc1.2; have o1 := hv; (try simp only [hX_sI, hX_sR, hX_sL, hX_sD, hX_sIa, hX_sRa, hV_sI, hV_sR, hV_sL, hV_sD, hV_sIa, hV_sRa, hX_new, hV_new] at o0 o1 ⊢); omega) hf 
  · have hk10 := mq_n q hf
    first | subst q | (try rw [q])
    have hf := hk10
    refine p_null X (dcg dc_X6_readPlain 58 rfl) ?_
    refine p_goto (tgt := 117) X (dcg dc_X6_readPlain 59 rfl) (by decide) ?_
    refine p_pick [] ?_
    exact wX6_readPlain_R_b117 X hG hnm hw0 hw1 hw2 hgm0 hgm1 hgm2 hM hN hu hv hf 
noncomputable def fX6_readPlain_R_b96 (rc0 : (Nat → Int32 → PH → Option (Option Nat × PH))) (rc1 : (Nat → Int32 → PH → Option (Option Nat × PH))) (rc2 : (Nat → Int32 → PH → Option (Option Nat × PH))) (v0 : Nat) (v2 : Int32) (t0 : Option Nat) (h : PH) : Option (Option Nat × PH) :=
  mq t0 (fX6_readPlain_R_b105 rc0 rc1 rc2 t0 h) (fun a7 =>
  if (v2 = 0) then (gd (hK h v0 = 6) (if ((hI h 6 v0 3) = (41 : Int32)) then (bd (fX6_advance v0 h) (fun z12 =>
  some (((some a7), z12)))) else
  bd (fX6_fail v0 h) (fun z13 =>
  some ((z13.1, z13.2))))) else
  fX6_readPlain_R_b105 rc0 rc1 rc2 (some a7) h)
set_option maxRecDepth 100000 in
theorem mX6_readPlain_R_b96 {rc0 : (Nat → Int32 → PH → Option (Option Nat × PH))} {rc1 : (Nat → Int32 → PH → Option (Option Nat × PH))} {rc2 : (Nat → Int32 → PH → Option (Option Nat × PH))} (hgm0 : ∀ {a0 : Nat} {a1 : Int32} {h : PH} {r : (Option Nat × PH)}, rc0 a0 a1 h = some r → lez h (hX r.2) (hV r.2)) (hgm1 : ∀ {a0 : Nat} {a1 : Int32} {h : PH} {r : (Option Nat × PH)}, rc1 a0 a1 h = some r → lez h (hX r.2) (hV r.2)) (hgm2 : ∀ {a0 : Nat} {a1 : Int32} {h : PH} {r : (Option Nat × PH)}, rc2 a0 a1 h = some r → lez h (hX r.2) (hV r.2)) {v0 : Nat} {v2 : Int32} {t0 : Option Nat} {h : PH} {r : (Option Nat × PH)} (hf : fX6_readPlain_R_b96 rc0 rc1 rc2 v0 v2 t0 h = some r) : lez h (hX r.2) (hV r.2) := by
  unfold fX6_readPlain_R_b96 at hf
  have hle := lez_rf h
  rcases mq_or hf with ⟨q, hf⟩ | ⟨a7, q, hf⟩
  · have hf := mq_n q hf
    exact lez_rt (mX6_readPlain_R_b105 hgm0 hgm1 hgm2 hf) hle
  · have hk14 := mq_s q hf
    first | subst q | skip
    have hf := hk14
    rcases ite_or hf with ⟨q, hf⟩ | ⟨q, hf⟩
    · have hf := if_t q hf
      obtain ⟨hk11, hf⟩ := gd_some hf
      rcases ite_or hf with ⟨q, hf⟩ | ⟨q, hf⟩
      · have hf := if_t q hf
        obtain ⟨z12, hz12, hf⟩ := bd_some hf
        have hle := lez_rt (lez_eq (mX6_advance hz12)) hle
        have ee := Option.some.inj hf; subst ee; exact hle
      · have hf := if_f q hf
        obtain ⟨z13, hz13, hf⟩ := bd_some hf
        have hle := lez_rt (lez_eq (mX6_fail hz13)) hle
        have ee := Option.some.inj hf; subst ee; exact hle
    · have hf := if_f q hf
      exact lez_rt (mX6_readPlain_R_b105 hgm0 hgm1 hgm2 hf) hle
set_option maxRecDepth 100000 in
theorem wX6_readPlain_R_b96 {E : PE} {p : Program} {l : Launch} {e : Env} {s : State} {m : MethodId} {args : Array Value} {below : List Frame} {meth : Method} {c : Code} {X0 V0 MC MS uc us : Nat} {nn : Nat} (X : Cx E p l e (rmv (8 + nn + 1) MC MS) s m args below meth c RX6 cX6_readPlain 4 (some (.object "WordFinder$Node"))) (hG : Gs E l) (hnm : meth.name = yX6_readPlain.name) {rc0 : (Nat → Int32 → PH → Option (Option Nat × PH))} {rc1 : (Nat → Int32 → PH → Option (Option Nat × PH))} {rc2 : (Nat → Int32 → PH → Option (Option Nat × PH))} (hw0 : ∀ {a0 : Nat} {a1 : Int32} {h : PH} {r : (Option Nat × PH)}, rc0 a0 a1 h = some r → Ct E l (8 + nn) ((hX r.2) - hX h) ((hV r.2) - hV h) yX6_readBoth cX6_readBoth 6 (some (.object "WordFinder$Node")) [.ref a0, .int a1] h (fun v u => v = some (va_rf r.1) ∧ u = r.2)) (hw1 : ∀ {a0 : Nat} {a1 : Int32} {h : PH} {r : (Option Nat × PH)}, rc1 a0 a1 h = some r → Ct E l (8 + nn) ((hX r.2) - hX h) ((hV r.2) - hV h) yX6_readPlain cX6_readPlain 4 (some (.object "WordFinder$Node")) [.ref a0, .int a1] h (fun v u => v = some (va_rf r.1) ∧ u = r.2)) (hw2 : ∀ {a0 : Nat} {a1 : Int32} {h : PH} {r : (Option Nat × PH)}, rc2 a0 a1 h = some r → Ct E l (8 + nn) ((hX r.2) - hX h) ((hV r.2) - hV h) yX6_readQuery cX6_readQuery 6 (some (.object "WordFinder$Node")) [.ref a0, .int a1] h (fun v u => v = some (va_rf r.1) ∧ u = r.2)) (hgm0 : ∀ {a0 : Nat} {a1 : Int32} {h : PH} {r : (Option Nat × PH)}, rc0 a0 a1 h = some r → lez h (hX r.2) (hV r.2)) (hgm1 : ∀ {a0 : Nat} {a1 : Int32} {h : PH} {r : (Option Nat × PH)}, rc1 a0 a1 h = some r → lez h (hX r.2) (hV r.2)) (hgm2 : ∀ {a0 : Nat} {a1 : Int32} {h : PH} {r : (Option Nat × PH)}, rc2 a0 a1 h = some r → lez h (hX r.2) (hV r.2)) {v0 : Nat} {v2 : Int32} {t0 : Option Nat} {h : PH} {r : (Option Nat × PH)} (hM : MC + X0 = (hX r.2)) (hN : MS + V0 = (hV r.2)) (hu : uc + X0 = hX h) (hv : us + V0 = hV h) (hf : fX6_readPlain_R_b96 rc0 rc1 rc2 v0 v2 t0 h = some r)  : PW E p l e (rmv (8 + nn + 1) MC MS) s m args below meth c 4 uc us (MQ below (QG E (fun v u => v = some (va_rf r.1) ∧ u = r.2)) args s MC MS (pA E)) h 96 [(0, some (.ref v0)), (2, some (.int v2))] [va_rf t0] := by
  have hm1 : lez h (hX r.2) (hV r.2) := mX6_readPlain_R_b96 hgm0 hgm1 hgm2 hf
  have hcm : uc ≤ MC := (by have o0 := hm1.1; have o1 := hM; have o2 := hu; (try simp only [hX_sI, hX_sR, hX_sL, hX_sD, hX_sIa, hX_sRa, hV_sI, hV_sR, hV_sL, hV_sD, hV_sIa, hV_sRa, hX_new, hV_new] at o0 o1 o2 ⊢); omega)
  have hsm : us ≤ MS := (by have o0 := hm1.2; have o1 := hN; have o2 := hv; (try simp only [hX_sI, hX_sR, hX_sL, hX_sD, hX_sIa, hX_sRa, hV_sI, hV_sR, hV_sL, hV_sD, hV_sIa, hV_sRa, hX_new, hV_new] at o0 o1 o2 ⊢); omega)
  clear hm1
  unfold fX6_readPlain_R_b96 at hf
  refine p_astoreq_n X (dcg dc_X6_readPlain 51 rfl) rfl (by decide) rfl ?_
  refine p_aloadq_n X (dcg dc_X6_readPlain 52 rfl) rfl rfl ?_
  refine p_ifnull (tgt := 105) X (dcg dc_X6_readPlain 53 rfl) (by decide) (fun q => ?_) (fun a7 q => ?_)
  · have hk14 := mq_n q hf
    first | subst q | (try rw [q])
    have hf := hk14
    refine p_pick [3] ?_
    exact wX6_readPlain_R_b105 X hG hnm hw0 hw1 hw2 hgm0 hgm1 hgm2 hM hN hu hv hf 
  · have hk14 := mq_s q hf
    first | subst q | (try rw [q])
    have hf := hk14
    refine p_iload_n X (dcg dc_X6_readPlain 54 rfl) rfl rfl ?_
    refine p_if_eq (tgt := 118) X (dcg dc_X6_readPlain 55 rfl) (by decide) (fun q => ?_) (fun q => ?_)
    · have hf := if_t q hf
      refine p_aload_n X (dcg dc_X6_readPlain 63 rfl) rfl rfl ?_
      obtain ⟨hk11, hf⟩ := gd_some hf
      refine p_getI X fl_X6_36 rfl (by decide) (dcg dc_X6_readPlain 64 rfl) hk11 ?_
      refine p_bipush (v := 41) X (dcg dc_X6_readPlain 65 rfl) (by decide) ?_
      refine p_icmp_eq (tgt := 132) X (dcg dc_X6_readPlain 66 rfl) (by decide) (fun q => ?_) (fun q => ?_)
      · have hf := if_t q hf
        refine p_aload_n X (dcg dc_X6_readPlain 70 rfl) rfl rfl ?_
        obtain ⟨z12, hz12, hf⟩ := bd_some hf
        refine p_callV (As := []) X ml_X6_29 (dcg dc_X6_readPlain 71 rfl) rfl rfl hk11 (wX6_advance hG hz12) (by omega) (room4 (Nat.le_of_ble_eq_true rfl)) hcm hsm ?_
        rintro _ u9 ⟨rfl, e9⟩; have e9 := e9.symm; subst e9
        have hu := hu.trans (mX6_advance hz12).1
        have hv := hv.trans (mX6_advance hz12).2
        refine p_aload_n X (dcg dc_X6_readPlain 72 rfl) rfl rfl ?_
        have er := Option.some.inj hf
        subst er
        exact p_aret (r := some _) X rfl (Or.inl ⟨_, rfl⟩) (dcg dc_X6_readPlain 73 rfl) ⟨rfl, rfl⟩ hcm hsm
      · have hf := if_f q hf
        refine p_aload_n X (dcg dc_X6_readPlain 67 rfl) rfl rfl ?_
        obtain ⟨z13, hz13, hf⟩ := bd_some hf
        refine p_callV (As := []) X ml_X6_39 (dcg dc_X6_readPlain 68 rfl) rfl rfl hk11 (wX6_fail hG hz13) (by omega) (room4 (Nat.le_of_ble_eq_true rfl)) hcm hsm ?_
        rintro _ u9 ⟨rfl, e9⟩; have e9 := e9.symm; subst e9
        have hu := hu.trans (mX6_fail hz13).1
        have hv := hv.trans (mX6_fail hz13).2
        have er := Option.some.inj hf
        subst er
        exact p_aret X rfl (Or.inl ⟨_, rfl⟩) (dcg dc_X6_readPlain 69 rfl) ⟨rfl, rfl⟩ hcm hsm
    · have hf := if_f q hf
      refine p_pick [3] ?_
      exact wX6_readPlain_R_b105 X hG hnm hw0 hw1 hw2 hgm0 hgm1 hgm2 hM hN hu hv hf 
noncomputable def fX6_readPlain_R_b86 (rc0 : (Nat → Int32 → PH → Option (Option Nat × PH))) (rc1 : (Nat → Int32 → PH → Option (Option Nat × PH))) (rc2 : (Nat → Int32 → PH → Option (Option Nat × PH))) (v0 : Nat) (v2 : Int32) (t0 : Option Nat) (h : PH) : Option (Option Nat × PH) :=
  fX6_readPlain_R_b96 rc0 rc1 rc2 v0 v2 t0 h
set_option maxRecDepth 100000 in
theorem mX6_readPlain_R_b86 {rc0 : (Nat → Int32 → PH → Option (Option Nat × PH))} {rc1 : (Nat → Int32 → PH → Option (Option Nat × PH))} {rc2 : (Nat → Int32 → PH → Option (Option Nat × PH))} (hgm0 : ∀ {a0 : Nat} {a1 : Int32} {h : PH} {r : (Option Nat × PH)}, rc0 a0 a1 h = some r → lez h (hX r.2) (hV r.2)) (hgm1 : ∀ {a0 : Nat} {a1 : Int32} {h : PH} {r : (Option Nat × PH)}, rc1 a0 a1 h = some r → lez h (hX r.2) (hV r.2)) (hgm2 : ∀ {a0 : Nat} {a1 : Int32} {h : PH} {r : (Option Nat × PH)}, rc2 a0 a1 h = some r → lez h (hX r.2) (hV r.2)) {v0 : Nat} {v2 : Int32} {t0 : Option Nat} {h : PH} {r : (Option Nat × PH)} (hf : fX6_readPlain_R_b86 rc0 rc1 rc2 v0 v2 t0 h = some r) : lez h (hX r.2) (hV r.2) := by
  unfold fX6_readPlain_R_b86 at hf
  have hle := lez_rf h
  exact lez_rt (mX6_readPlain_R_b96 hgm0 hgm1 hgm2 hf) hle
set_option maxRecDepth 100000 in
theorem wX6_readPlain_R_b86 {E : PE} {p : Program} {l : Launch} {e : Env} {s : State} {m : MethodId} {args : Array Value} {below : List Frame} {meth : Method} {c : Code} {X0 V0 MC MS uc us : Nat} {nn : Nat} (X : Cx E p l e (rmv (8 + nn + 1) MC MS) s m args below meth c RX6 cX6_readPlain 4 (some (.object "WordFinder$Node"))) (hG : Gs E l) (hnm : meth.name = yX6_readPlain.name) {rc0 : (Nat → Int32 → PH → Option (Option Nat × PH))} {rc1 : (Nat → Int32 → PH → Option (Option Nat × PH))} {rc2 : (Nat → Int32 → PH → Option (Option Nat × PH))} (hw0 : ∀ {a0 : Nat} {a1 : Int32} {h : PH} {r : (Option Nat × PH)}, rc0 a0 a1 h = some r → Ct E l (8 + nn) ((hX r.2) - hX h) ((hV r.2) - hV h) yX6_readBoth cX6_readBoth 6 (some (.object "WordFinder$Node")) [.ref a0, .int a1] h (fun v u => v = some (va_rf r.1) ∧ u = r.2)) (hw1 : ∀ {a0 : Nat} {a1 : Int32} {h : PH} {r : (Option Nat × PH)}, rc1 a0 a1 h = some r → Ct E l (8 + nn) ((hX r.2) - hX h) ((hV r.2) - hV h) yX6_readPlain cX6_readPlain 4 (some (.object "WordFinder$Node")) [.ref a0, .int a1] h (fun v u => v = some (va_rf r.1) ∧ u = r.2)) (hw2 : ∀ {a0 : Nat} {a1 : Int32} {h : PH} {r : (Option Nat × PH)}, rc2 a0 a1 h = some r → Ct E l (8 + nn) ((hX r.2) - hX h) ((hV r.2) - hV h) yX6_readQuery cX6_readQuery 6 (some (.object "WordFinder$Node")) [.ref a0, .int a1] h (fun v u => v = some (va_rf r.1) ∧ u = r.2)) (hgm0 : ∀ {a0 : Nat} {a1 : Int32} {h : PH} {r : (Option Nat × PH)}, rc0 a0 a1 h = some r → lez h (hX r.2) (hV r.2)) (hgm1 : ∀ {a0 : Nat} {a1 : Int32} {h : PH} {r : (Option Nat × PH)}, rc1 a0 a1 h = some r → lez h (hX r.2) (hV r.2)) (hgm2 : ∀ {a0 : Nat} {a1 : Int32} {h : PH} {r : (Option Nat × PH)}, rc2 a0 a1 h = some r → lez h (hX r.2) (hV r.2)) {v0 : Nat} {v2 : Int32} {t0 : Option Nat} {h : PH} {r : (Option Nat × PH)} (hM : MC + X0 = (hX r.2)) (hN : MS + V0 = (hV r.2)) (hu : uc + X0 = hX h) (hv : us + V0 = hV h) (hf : fX6_readPlain_R_b86 rc0 rc1 rc2 v0 v2 t0 h = some r)  : PW E p l e (rmv (8 + nn + 1) MC MS) s m args below meth c 4 uc us (MQ below (QG E (fun v u => v = some (va_rf r.1) ∧ u = r.2)) args s MC MS (pA E)) h 86 [(0, some (.ref v0)), (2, some (.int v2))] [va_rf t0] := by
  have hm1 : lez h (hX r.2) (hV r.2) := mX6_readPlain_R_b86 hgm0 hgm1 hgm2 hf
  have hcm : uc ≤ MC := (by have o0 := hm1.1; have o1 := hM; have o2 := hu; (try simp only [hX_sI, hX_sR, hX_sL, hX_sD, hX_sIa, hX_sRa, hV_sI, hV_sR, hV_sL, hV_sD, hV_sIa, hV_sRa, hX_new, hV_new] at o0 o1 o2 ⊢); omega)
  have hsm : us ≤ MS := (by have o0 := hm1.2; have o1 := hN; have o2 := hv; (try simp only [hX_sI, hX_sR, hX_sL, hX_sD, hX_sIa, hX_sRa, hV_sI, hV_sR, hV_sL, hV_sD, hV_sIa, hV_sRa, hX_new, hV_new] at o0 o1 o2 ⊢); omega)
  clear hm1
  unfold fX6_readPlain_R_b86 at hf
  refine p_goto (tgt := 96) X (dcg dc_X6_readPlain 45 rfl) (by decide) ?_
  refine p_pick [0, 2] ?_
  exact wX6_readPlain_R_b96 X hG hnm hw0 hw1 hw2 hgm0 hgm1 hgm2 hM hN hu hv hf 
noncomputable def fX6_readPlain_R_b70 (rc0 : (Nat → Int32 → PH → Option (Option Nat × PH))) (rc1 : (Nat → Int32 → PH → Option (Option Nat × PH))) (rc2 : (Nat → Int32 → PH → Option (Option Nat × PH))) (v0 : Nat) (v1 : Int32) (t0 : Int32) (h : PH) : Option (Option Nat × PH) :=
  gd (hK h v0 = 6) (bd (fX6_advance v0 h) (fun z4 =>
  if (t0 = 0) then (gd (hK z4 v0 = 6) (bd (rc2 v0 (v1 + (1 : Int32)) z4) (fun z6 =>
  fX6_readPlain_R_b96 rc0 rc1 rc2 v0 t0 z6.1 z6.2))) else
  gd (hK z4 v0 = 6) (bd (rc1 v0 (v1 + (1 : Int32)) z4) (fun z16 =>
  fX6_readPlain_R_b86 rc0 rc1 rc2 v0 t0 z16.1 z16.2))))
set_option maxRecDepth 100000 in
theorem mX6_readPlain_R_b70 {rc0 : (Nat → Int32 → PH → Option (Option Nat × PH))} {rc1 : (Nat → Int32 → PH → Option (Option Nat × PH))} {rc2 : (Nat → Int32 → PH → Option (Option Nat × PH))} (hgm0 : ∀ {a0 : Nat} {a1 : Int32} {h : PH} {r : (Option Nat × PH)}, rc0 a0 a1 h = some r → lez h (hX r.2) (hV r.2)) (hgm1 : ∀ {a0 : Nat} {a1 : Int32} {h : PH} {r : (Option Nat × PH)}, rc1 a0 a1 h = some r → lez h (hX r.2) (hV r.2)) (hgm2 : ∀ {a0 : Nat} {a1 : Int32} {h : PH} {r : (Option Nat × PH)}, rc2 a0 a1 h = some r → lez h (hX r.2) (hV r.2)) {v0 : Nat} {v1 : Int32} {t0 : Int32} {h : PH} {r : (Option Nat × PH)} (hf : fX6_readPlain_R_b70 rc0 rc1 rc2 v0 v1 t0 h = some r) : lez h (hX r.2) (hV r.2) := by
  unfold fX6_readPlain_R_b70 at hf
  have hle := lez_rf h
  obtain ⟨hk3, hf⟩ := gd_some hf
  obtain ⟨z4, hz4, hf⟩ := bd_some hf
  have hle := lez_rt (lez_eq (mX6_advance hz4)) hle
  rcases ite_or hf with ⟨q, hf⟩ | ⟨q, hf⟩
  · have hf := if_t q hf
    obtain ⟨hk5, hf⟩ := gd_some hf
    obtain ⟨z6, hz6, hf⟩ := bd_some hf
    have hle := lez_rt (hgm2 hz6) hle
    exact lez_rt (mX6_readPlain_R_b96 hgm0 hgm1 hgm2 hf) hle
  · have hf := if_f q hf
    obtain ⟨hk15, hf⟩ := gd_some hf
    obtain ⟨z16, hz16, hf⟩ := bd_some hf
    have hle := lez_rt (hgm1 hz16) hle
    exact lez_rt (mX6_readPlain_R_b86 hgm0 hgm1 hgm2 hf) hle
set_option maxRecDepth 100000 in
theorem wX6_readPlain_R_b70 {E : PE} {p : Program} {l : Launch} {e : Env} {s : State} {m : MethodId} {args : Array Value} {below : List Frame} {meth : Method} {c : Code} {X0 V0 MC MS uc us : Nat} {nn : Nat} (X : Cx E p l e (rmv (8 + nn + 1) MC MS) s m args below meth c RX6 cX6_readPlain 4 (some (.object "WordFinder$Node"))) (hG : Gs E l) (hnm : meth.name = yX6_readPlain.name) {rc0 : (Nat → Int32 → PH → Option (Option Nat × PH))} {rc1 : (Nat → Int32 → PH → Option (Option Nat × PH))} {rc2 : (Nat → Int32 → PH → Option (Option Nat × PH))} (hw0 : ∀ {a0 : Nat} {a1 : Int32} {h : PH} {r : (Option Nat × PH)}, rc0 a0 a1 h = some r → Ct E l (8 + nn) ((hX r.2) - hX h) ((hV r.2) - hV h) yX6_readBoth cX6_readBoth 6 (some (.object "WordFinder$Node")) [.ref a0, .int a1] h (fun v u => v = some (va_rf r.1) ∧ u = r.2)) (hw1 : ∀ {a0 : Nat} {a1 : Int32} {h : PH} {r : (Option Nat × PH)}, rc1 a0 a1 h = some r → Ct E l (8 + nn) ((hX r.2) - hX h) ((hV r.2) - hV h) yX6_readPlain cX6_readPlain 4 (some (.object "WordFinder$Node")) [.ref a0, .int a1] h (fun v u => v = some (va_rf r.1) ∧ u = r.2)) (hw2 : ∀ {a0 : Nat} {a1 : Int32} {h : PH} {r : (Option Nat × PH)}, rc2 a0 a1 h = some r → Ct E l (8 + nn) ((hX r.2) - hX h) ((hV r.2) - hV h) yX6_readQuery cX6_readQuery 6 (some (.object "WordFinder$Node")) [.ref a0, .int a1] h (fun v u => v = some (va_rf r.1) ∧ u = r.2)) (hgm0 : ∀ {a0 : Nat} {a1 : Int32} {h : PH} {r : (Option Nat × PH)}, rc0 a0 a1 h = some r → lez h (hX r.2) (hV r.2)) (hgm1 : ∀ {a0 : Nat} {a1 : Int32} {h : PH} {r : (Option Nat × PH)}, rc1 a0 a1 h = some r → lez h (hX r.2) (hV r.2)) (hgm2 : ∀ {a0 : Nat} {a1 : Int32} {h : PH} {r : (Option Nat × PH)}, rc2 a0 a1 h = some r → lez h (hX r.2) (hV r.2)) {v0 : Nat} {v1 : Int32} {t0 : Int32} {h : PH} {r : (Option Nat × PH)} (hM : MC + X0 = (hX r.2)) (hN : MS + V0 = (hV r.2)) (hu : uc + X0 = hX h) (hv : us + V0 = hV h) (hf : fX6_readPlain_R_b70 rc0 rc1 rc2 v0 v1 t0 h = some r)  : PW E p l e (rmv (8 + nn + 1) MC MS) s m args below meth c 4 uc us (MQ below (QG E (fun v u => v = some (va_rf r.1) ∧ u = r.2)) args s MC MS (pA E)) h 70 [(0, some (.ref v0)), (1, some (.int v1))] [.int t0] := by
  have hm1 : lez h (hX r.2) (hV r.2) := mX6_readPlain_R_b70 hgm0 hgm1 hgm2 hf
  have hcm : uc ≤ MC := (by have o0 := hm1.1; have o1 := hM; have o2 := hu; (try simp only [hX_sI, hX_sR, hX_sL, hX_sD, hX_sIa, hX_sRa, hV_sI, hV_sR, hV_sL, hV_sD, hV_sIa, hV_sRa, hX_new, hV_new] at o0 o1 o2 ⊢); omega)
  have hsm : us ≤ MS := (by have o0 := hm1.2; have o1 := hN; have o2 := hv; (try simp only [hX_sI, hX_sR, hX_sL, hX_sD, hX_sIa, hX_sRa, hV_sI, hV_sR, hV_sL, hV_sD, hV_sIa, hV_sRa, hX_new, hV_new] at o0 o1 o2 ⊢); omega)
  clear hm1
  unfold fX6_readPlain_R_b70 at hf
  refine p_istore_n X (dcg dc_X6_readPlain 35 rfl) rfl (by decide) rfl ?_
  refine p_aload_n X (dcg dc_X6_readPlain 36 rfl) rfl rfl ?_
  obtain ⟨hk3, hf⟩ := gd_some hf
  obtain ⟨z4, hz4, hf⟩ := bd_some hf
  refine p_callV (As := []) X ml_X6_29 (dcg dc_X6_readPlain 37 rfl) rfl rfl hk3 (wX6_advance hG hz4) (by omega) (room4 (Nat.le_of_ble_eq_true rfl)) hcm hsm ?_
  rintro _ u9 ⟨rfl, e9⟩; have e9 := e9.symm; subst e9
  have hu := hu.trans (mX6_advance hz4).1
  have hv := hv.trans (mX6_advance hz4).2
  refine p_iload_n X (dcg dc_X6_readPlain 38 rfl) rfl rfl ?_
  refine p_if_eq (tgt := 89) X (dcg dc_X6_readPlain 39 rfl) (by decide) (fun q => ?_) (fun q => ?_)
  · have hf := if_t q hf
    refine p_aload_n X (dcg dc_X6_readPlain 46 rfl) rfl rfl ?_
    refine p_iload_n X (dcg dc_X6_readPlain 47 rfl) rfl rfl ?_
    refine p_iconst (v := 1) X (dcg dc_X6_readPlain 48 rfl) (by decide) ?_
    refine p_iadd X (dcg dc_X6_readPlain 49 rfl) ?_
    obtain ⟨hk5, hf⟩ := gd_some hf
    obtain ⟨z6, hz6, hf⟩ := bd_some hf
    have hc1 := hgm2 hz6
    have hm1 : lez _ (hX r.2) (hV r.2) := mX6_readPlain_R_b96 hgm0 hgm1 hgm2 hf
    refine p_callV (As := [_]) X ml_X6_32 (dcg dc_X6_readPlain 50 rfl) rfl rfl hk5 (hw2 hz6) (by omega) (room4 (Nat.le_of_ble_eq_true rfl)) (by have o0 := hm1.1; have o1 := hc1.1; have o2 := hM; have o3 := hu; (try simp only [hX_sI, hX_sR, hX_sL, hX_sD, hX_sIa, hX_sRa, hV_sI, hV_sR, hV_sL, hV_sD, hV_sIa, hV_sRa, hX_new, hV_new] at o0 o1 o2 o3 ⊢); omega) (by have o0 := hm1.2; have o1 := hc1.2; have o2 := hN; have o3 := hv; (try simp only [hX_sI, hX_sR, hX_sL, hX_sD, hX_sIa, hX_sRa, hV_sI, hV_sR, hV_sL, hV_sD, hV_sIa, hV_sRa, hX_new, hV_new] at o0 o1 o2 o3 ⊢); omega) ?_
    rintro _ u9 ⟨rfl, e9⟩; have e9 := e9.symm; subst e9
    refine p_pick [0, 2] ?_
    exact wX6_readPlain_R_b96 X hG hnm hw0 hw1 hw2 hgm0 hgm1 hgm2 hM hN (by have o0 := hc1.1; have o1 := hu; (try simp only [hX_sI, hX_sR, hX_sL, hX_sD, hX_sIa, hX_sRa, hV_sI, hV_sR, hV_sL, hV_sD, hV_sIa, hV_sRa, hX_new, hV_new] at o0 o1 ⊢); omega) (by have o0 := hc1.2; have o1 := hv; (try simp only [hX_sI, hX_sR, hX_sL, hX_sD, hX_sIa, hX_sRa, hV_sI, hV_sR, hV_sL, hV_sD, hV_sIa, hV_sRa, hX_new, hV_new] at o0 o1 ⊢); omega) hf 
  · have hf := if_f q hf
    refine p_aload_n X (dcg dc_X6_readPlain 40 rfl) rfl rfl ?_
    refine p_iload_n X (dcg dc_X6_readPlain 41 rfl) rfl rfl ?_
    refine p_iconst (v := 1) X (dcg dc_X6_readPlain 42 rfl) (by decide) ?_
    refine p_iadd X (dcg dc_X6_readPlain 43 rfl) ?_
    obtain ⟨hk15, hf⟩ := gd_some hf
    obtain ⟨z16, hz16, hf⟩ := bd_some hf
    have hc1 := hgm1 hz16
    have hm1 : lez _ (hX r.2) (hV r.2) := mX6_readPlain_R_b86 hgm0 hgm1 hgm2 hf
    refine p_callV (As := [_]) X ml_X6_70 (dcg dc_X6_readPlain 44 rfl) rfl rfl hk15 (hw1 hz16) (by omega) (room4 (Nat.le_of_ble_eq_true rfl)) (by have o0 := hm1.1; have o1 := hc1.1; have o2 := hM; have o3 := hu; (try simp only [hX_sI, hX_sR, hX_sL, hX_sD, hX_sIa, hX_sRa, hV_sI, hV_sR, hV_sL, hV_sD, hV_sIa, hV_sRa, hX_new, hV_new] at o0 o1 o2 o3 ⊢); omega) (by have o0 := hm1.2; have o1 := hc1.2; have o2 := hN; have o3 := hv; (try simp only [hX_sI, hX_sR, hX_sL, hX_sD, hX_sIa, hX_sRa, hV_sI, hV_sR, hV_sL, hV_sD, hV_sIa, hV_sRa, hX_new, hV_new] at o0 o1 o2 o3 ⊢); omega) ?_
    rintro _ u9 ⟨rfl, e9⟩; have e9 := e9.symm; subst e9
    refine p_pick [0, 2] ?_
    exact wX6_readPlain_R_b86 X hG hnm hw0 hw1 hw2 hgm0 hgm1 hgm2 hM hN (by have o0 := hc1.1; have o1 := hu; (try simp only [hX_sI, hX_sR, hX_sL, hX_sD, hX_sIa, hX_sRa, hV_sI, hV_sR, hV_sL, hV_sD, hV_sIa, hV_sRa, hX_new, hV_new] at o0 o1 ⊢); omega) (by have o0 := hc1.2; have o1 := hv; (try simp only [hX_sI, hX_sR, hX_sL, hX_sD, hX_sIa, hX_sRa, hV_sI, hV_sR, hV_sL, hV_sD, hV_sIa, hV_sRa, hX_new, hV_new] at o0 o1 ⊢); omega) hf 
noncomputable def fX6_readPlain_R_b51 (rc0 : (Nat → Int32 → PH → Option (Option Nat × PH))) (rc1 : (Nat → Int32 → PH → Option (Option Nat × PH))) (rc2 : (Nat → Int32 → PH → Option (Option Nat × PH))) (v0 : Nat) (h : PH) : Option (Option Nat × PH) :=
  gd (hK h v0 = 6) (bd (fX6_fail v0 h) (fun z18 =>
  some ((z18.1, z18.2))))
set_option maxRecDepth 100000 in
theorem mX6_readPlain_R_b51 {rc0 : (Nat → Int32 → PH → Option (Option Nat × PH))} {rc1 : (Nat → Int32 → PH → Option (Option Nat × PH))} {rc2 : (Nat → Int32 → PH → Option (Option Nat × PH))} (hgm0 : ∀ {a0 : Nat} {a1 : Int32} {h : PH} {r : (Option Nat × PH)}, rc0 a0 a1 h = some r → lez h (hX r.2) (hV r.2)) (hgm1 : ∀ {a0 : Nat} {a1 : Int32} {h : PH} {r : (Option Nat × PH)}, rc1 a0 a1 h = some r → lez h (hX r.2) (hV r.2)) (hgm2 : ∀ {a0 : Nat} {a1 : Int32} {h : PH} {r : (Option Nat × PH)}, rc2 a0 a1 h = some r → lez h (hX r.2) (hV r.2)) {v0 : Nat} {h : PH} {r : (Option Nat × PH)} (hf : fX6_readPlain_R_b51 rc0 rc1 rc2 v0 h = some r) : lez h (hX r.2) (hV r.2) := by
  unfold fX6_readPlain_R_b51 at hf
  have hle := lez_rf h
  obtain ⟨hk17, hf⟩ := gd_some hf
  obtain ⟨z18, hz18, hf⟩ := bd_some hf
  have hle := lez_rt (lez_eq (mX6_fail hz18)) hle
  have ee := Option.some.inj hf; subst ee; exact hle
set_option maxRecDepth 100000 in
theorem wX6_readPlain_R_b51 {E : PE} {p : Program} {l : Launch} {e : Env} {s : State} {m : MethodId} {args : Array Value} {below : List Frame} {meth : Method} {c : Code} {X0 V0 MC MS uc us : Nat} {nn : Nat} (X : Cx E p l e (rmv (8 + nn + 1) MC MS) s m args below meth c RX6 cX6_readPlain 4 (some (.object "WordFinder$Node"))) (hG : Gs E l) (hnm : meth.name = yX6_readPlain.name) {rc0 : (Nat → Int32 → PH → Option (Option Nat × PH))} {rc1 : (Nat → Int32 → PH → Option (Option Nat × PH))} {rc2 : (Nat → Int32 → PH → Option (Option Nat × PH))} (hw0 : ∀ {a0 : Nat} {a1 : Int32} {h : PH} {r : (Option Nat × PH)}, rc0 a0 a1 h = some r → Ct E l (8 + nn) ((hX r.2) - hX h) ((hV r.2) - hV h) yX6_readBoth cX6_readBoth 6 (some (.object "WordFinder$Node")) [.ref a0, .int a1] h (fun v u => v = some (va_rf r.1) ∧ u = r.2)) (hw1 : ∀ {a0 : Nat} {a1 : Int32} {h : PH} {r : (Option Nat × PH)}, rc1 a0 a1 h = some r → Ct E l (8 + nn) ((hX r.2) - hX h) ((hV r.2) - hV h) yX6_readPlain cX6_readPlain 4 (some (.object "WordFinder$Node")) [.ref a0, .int a1] h (fun v u => v = some (va_rf r.1) ∧ u = r.2)) (hw2 : ∀ {a0 : Nat} {a1 : Int32} {h : PH} {r : (Option Nat × PH)}, rc2 a0 a1 h = some r → Ct E l (8 + nn) ((hX r.2) - hX h) ((hV r.2) - hV h) yX6_readQuery cX6_readQuery 6 (some (.object "WordFinder$Node")) [.ref a0, .int a1] h (fun v u => v = some (va_rf r.1) ∧ u = r.2)) (hgm0 : ∀ {a0 : Nat} {a1 : Int32} {h : PH} {r : (Option Nat × PH)}, rc0 a0 a1 h = some r → lez h (hX r.2) (hV r.2)) (hgm1 : ∀ {a0 : Nat} {a1 : Int32} {h : PH} {r : (Option Nat × PH)}, rc1 a0 a1 h = some r → lez h (hX r.2) (hV r.2)) (hgm2 : ∀ {a0 : Nat} {a1 : Int32} {h : PH} {r : (Option Nat × PH)}, rc2 a0 a1 h = some r → lez h (hX r.2) (hV r.2)) {v0 : Nat} {h : PH} {r : (Option Nat × PH)} (hM : MC + X0 = (hX r.2)) (hN : MS + V0 = (hV r.2)) (hu : uc + X0 = hX h) (hv : us + V0 = hV h) (hf : fX6_readPlain_R_b51 rc0 rc1 rc2 v0 h = some r)  : PW E p l e (rmv (8 + nn + 1) MC MS) s m args below meth c 4 uc us (MQ below (QG E (fun v u => v = some (va_rf r.1) ∧ u = r.2)) args s MC MS (pA E)) h 51 [(0, some (.ref v0))] [] := by
  have hm1 : lez h (hX r.2) (hV r.2) := mX6_readPlain_R_b51 hgm0 hgm1 hgm2 hf
  have hcm : uc ≤ MC := (by have o0 := hm1.1; have o1 := hM; have o2 := hu; (try simp only [hX_sI, hX_sR, hX_sL, hX_sD, hX_sIa, hX_sRa, hV_sI, hV_sR, hV_sL, hV_sD, hV_sIa, hV_sRa, hX_new, hV_new] at o0 o1 o2 ⊢); omega)
  have hsm : us ≤ MS := (by have o0 := hm1.2; have o1 := hN; have o2 := hv; (try simp only [hX_sI, hX_sR, hX_sL, hX_sD, hX_sIa, hX_sRa, hV_sI, hV_sR, hV_sL, hV_sD, hV_sIa, hV_sRa, hX_new, hV_new] at o0 o1 o2 ⊢); omega)
  clear hm1
  unfold fX6_readPlain_R_b51 at hf
  refine p_aload_n X (dcg dc_X6_readPlain 25 rfl) rfl rfl ?_
  obtain ⟨hk17, hf⟩ := gd_some hf
  obtain ⟨z18, hz18, hf⟩ := bd_some hf
  refine p_callV (As := []) X ml_X6_39 (dcg dc_X6_readPlain 26 rfl) rfl rfl hk17 (wX6_fail hG hz18) (by omega) (room4 (Nat.le_of_ble_eq_true rfl)) hcm hsm ?_
  rintro _ u9 ⟨rfl, e9⟩; have e9 := e9.symm; subst e9
  have hu := hu.trans (mX6_fail hz18).1
  have hv := hv.trans (mX6_fail hz18).2
  have er := Option.some.inj hf
  subst er
  exact p_aret X rfl (Or.inl ⟨_, rfl⟩) (dcg dc_X6_readPlain 27 rfl) ⟨rfl, rfl⟩ hcm hsm
noncomputable def fX6_readPlain_R_b45 (rc0 : (Nat → Int32 → PH → Option (Option Nat × PH))) (rc1 : (Nat → Int32 → PH → Option (Option Nat × PH))) (rc2 : (Nat → Int32 → PH → Option (Option Nat × PH))) (v0 : Nat) (v1 : Int32) (h : PH) : Option (Option Nat × PH) :=
  if (v1 < (8 : Int32)) then (gd (hK h v0 = 6) (if (¬ (hI h 6 v0 3) = (33 : Int32)) then (fX6_readPlain_R_b70 rc0 rc1 rc2 v0 v1 (0 : Int32) h) else
  fX6_readPlain_R_b70 rc0 rc1 rc2 v0 v1 (1 : Int32) h)) else
  fX6_readPlain_R_b51 rc0 rc1 rc2 v0 h
set_option maxRecDepth 100000 in
theorem mX6_readPlain_R_b45 {rc0 : (Nat → Int32 → PH → Option (Option Nat × PH))} {rc1 : (Nat → Int32 → PH → Option (Option Nat × PH))} {rc2 : (Nat → Int32 → PH → Option (Option Nat × PH))} (hgm0 : ∀ {a0 : Nat} {a1 : Int32} {h : PH} {r : (Option Nat × PH)}, rc0 a0 a1 h = some r → lez h (hX r.2) (hV r.2)) (hgm1 : ∀ {a0 : Nat} {a1 : Int32} {h : PH} {r : (Option Nat × PH)}, rc1 a0 a1 h = some r → lez h (hX r.2) (hV r.2)) (hgm2 : ∀ {a0 : Nat} {a1 : Int32} {h : PH} {r : (Option Nat × PH)}, rc2 a0 a1 h = some r → lez h (hX r.2) (hV r.2)) {v0 : Nat} {v1 : Int32} {h : PH} {r : (Option Nat × PH)} (hf : fX6_readPlain_R_b45 rc0 rc1 rc2 v0 v1 h = some r) : lez h (hX r.2) (hV r.2) := by
  unfold fX6_readPlain_R_b45 at hf
  have hle := lez_rf h
  rcases ite_or hf with ⟨q, hf⟩ | ⟨q, hf⟩
  · have hf := if_t q hf
    obtain ⟨hk2, hf⟩ := gd_some hf
    rcases ite_or hf with ⟨q, hf⟩ | ⟨q, hf⟩
    · have hf := if_t q hf
      exact lez_rt (mX6_readPlain_R_b70 hgm0 hgm1 hgm2 hf) hle
    · have hf := if_f q hf
      exact lez_rt (mX6_readPlain_R_b70 hgm0 hgm1 hgm2 hf) hle
  · have hf := if_f q hf
    exact lez_rt (mX6_readPlain_R_b51 hgm0 hgm1 hgm2 hf) hle
set_option maxRecDepth 100000 in
theorem wX6_readPlain_R_b45 {E : PE} {p : Program} {l : Launch} {e : Env} {s : State} {m : MethodId} {args : Array Value} {below : List Frame} {meth : Method} {c : Code} {X0 V0 MC MS uc us : Nat} {nn : Nat} (X : Cx E p l e (rmv (8 + nn + 1) MC MS) s m args below meth c RX6 cX6_readPlain 4 (some (.object "WordFinder$Node"))) (hG : Gs E l) (hnm : meth.name = yX6_readPlain.name) {rc0 : (Nat → Int32 → PH → Option (Option Nat × PH))} {rc1 : (Nat → Int32 → PH → Option (Option Nat × PH))} {rc2 : (Nat → Int32 → PH → Option (Option Nat × PH))} (hw0 : ∀ {a0 : Nat} {a1 : Int32} {h : PH} {r : (Option Nat × PH)}, rc0 a0 a1 h = some r → Ct E l (8 + nn) ((hX r.2) - hX h) ((hV r.2) - hV h) yX6_readBoth cX6_readBoth 6 (some (.object "WordFinder$Node")) [.ref a0, .int a1] h (fun v u => v = some (va_rf r.1) ∧ u = r.2)) (hw1 : ∀ {a0 : Nat} {a1 : Int32} {h : PH} {r : (Option Nat × PH)}, rc1 a0 a1 h = some r → Ct E l (8 + nn) ((hX r.2) - hX h) ((hV r.2) - hV h) yX6_readPlain cX6_readPlain 4 (some (.object "WordFinder$Node")) [.ref a0, .int a1] h (fun v u => v = some (va_rf r.1) ∧ u = r.2)) (hw2 : ∀ {a0 : Nat} {a1 : Int32} {h : PH} {r : (Option Nat × PH)}, rc2 a0 a1 h = some r → Ct E l (8 + nn) ((hX r.2) - hX h) ((hV r.2) - hV h) yX6_readQuery cX6_readQuery 6 (some (.object "WordFinder$Node")) [.ref a0, .int a1] h (fun v u => v = some (va_rf r.1) ∧ u = r.2)) (hgm0 : ∀ {a0 : Nat} {a1 : Int32} {h : PH} {r : (Option Nat × PH)}, rc0 a0 a1 h = some r → lez h (hX r.2) (hV r.2)) (hgm1 : ∀ {a0 : Nat} {a1 : Int32} {h : PH} {r : (Option Nat × PH)}, rc1 a0 a1 h = some r → lez h (hX r.2) (hV r.2)) (hgm2 : ∀ {a0 : Nat} {a1 : Int32} {h : PH} {r : (Option Nat × PH)}, rc2 a0 a1 h = some r → lez h (hX r.2) (hV r.2)) {v0 : Nat} {v1 : Int32} {h : PH} {r : (Option Nat × PH)} (hM : MC + X0 = (hX r.2)) (hN : MS + V0 = (hV r.2)) (hu : uc + X0 = hX h) (hv : us + V0 = hV h) (hf : fX6_readPlain_R_b45 rc0 rc1 rc2 v0 v1 h = some r)  : PW E p l e (rmv (8 + nn + 1) MC MS) s m args below meth c 4 uc us (MQ below (QG E (fun v u => v = some (va_rf r.1) ∧ u = r.2)) args s MC MS (pA E)) h 45 [(0, some (.ref v0)), (1, some (.int v1))] [] := by
  have hm1 : lez h (hX r.2) (hV r.2) := mX6_readPlain_R_b45 hgm0 hgm1 hgm2 hf
  have hcm : uc ≤ MC := (by have o0 := hm1.1; have o1 := hM; have o2 := hu; (try simp only [hX_sI, hX_sR, hX_sL, hX_sD, hX_sIa, hX_sRa, hV_sI, hV_sR, hV_sL, hV_sD, hV_sIa, hV_sRa, hX_new, hV_new] at o0 o1 o2 ⊢); omega)
  have hsm : us ≤ MS := (by have o0 := hm1.2; have o1 := hN; have o2 := hv; (try simp only [hX_sI, hX_sR, hX_sL, hX_sD, hX_sIa, hX_sRa, hV_sI, hV_sR, hV_sL, hV_sD, hV_sIa, hV_sRa, hX_new, hV_new] at o0 o1 o2 ⊢); omega)
  clear hm1
  unfold fX6_readPlain_R_b45 at hf
  refine p_iload_n X (dcg dc_X6_readPlain 22 rfl) rfl rfl ?_
  refine p_bipush (v := 8) X (dcg dc_X6_readPlain 23 rfl) (by decide) ?_
  refine p_icmp_lt (tgt := 56) X (dcg dc_X6_readPlain 24 rfl) (by decide) (fun q => ?_) (fun q => ?_)
  · have hf := if_t q hf
    refine p_aload_n X (dcg dc_X6_readPlain 28 rfl) rfl rfl ?_
    obtain ⟨hk2, hf⟩ := gd_some hf
    refine p_getI X fl_X6_36 rfl (by decide) (dcg dc_X6_readPlain 29 rfl) hk2 ?_
    refine p_bipush (v := 33) X (dcg dc_X6_readPlain 30 rfl) (by decide) ?_
    refine p_icmp_ne (tgt := 69) X (dcg dc_X6_readPlain 31 rfl) (by decide) (fun q => ?_) (fun q => ?_)
    · have hf := if_t q hf
      refine p_iconst (v := 0) X (dcg dc_X6_readPlain 34 rfl) (by decide) ?_
      refine p_pick [0, 1] ?_
      exact wX6_readPlain_R_b70 X hG hnm hw0 hw1 hw2 hgm0 hgm1 hgm2 hM hN hu hv hf 
    · have hf := if_f q hf
      refine p_iconst (v := 1) X (dcg dc_X6_readPlain 32 rfl) (by decide) ?_
      refine p_goto (tgt := 70) X (dcg dc_X6_readPlain 33 rfl) (by decide) ?_
      refine p_pick [0, 1] ?_
      exact wX6_readPlain_R_b70 X hG hnm hw0 hw1 hw2 hgm0 hgm1 hgm2 hM hN hu hv hf 
  · have hf := if_f q hf
    refine p_pick [0] ?_
    exact wX6_readPlain_R_b51 X hG hnm hw0 hw1 hw2 hgm0 hgm1 hgm2 hM hN hu hv hf 
noncomputable def fX6_readPlain_R_b26 (rc0 : (Nat → Int32 → PH → Option (Option Nat × PH))) (rc1 : (Nat → Int32 → PH → Option (Option Nat × PH))) (rc2 : (Nat → Int32 → PH → Option (Option Nat × PH))) (t0 : Option Nat) (h : PH) : Option (Option Nat × PH) :=
  some ((t0, h))
set_option maxRecDepth 100000 in
theorem mX6_readPlain_R_b26 {rc0 : (Nat → Int32 → PH → Option (Option Nat × PH))} {rc1 : (Nat → Int32 → PH → Option (Option Nat × PH))} {rc2 : (Nat → Int32 → PH → Option (Option Nat × PH))} (hgm0 : ∀ {a0 : Nat} {a1 : Int32} {h : PH} {r : (Option Nat × PH)}, rc0 a0 a1 h = some r → lez h (hX r.2) (hV r.2)) (hgm1 : ∀ {a0 : Nat} {a1 : Int32} {h : PH} {r : (Option Nat × PH)}, rc1 a0 a1 h = some r → lez h (hX r.2) (hV r.2)) (hgm2 : ∀ {a0 : Nat} {a1 : Int32} {h : PH} {r : (Option Nat × PH)}, rc2 a0 a1 h = some r → lez h (hX r.2) (hV r.2)) {t0 : Option Nat} {h : PH} {r : (Option Nat × PH)} (hf : fX6_readPlain_R_b26 rc0 rc1 rc2 t0 h = some r) : lez h (hX r.2) (hV r.2) := by
  unfold fX6_readPlain_R_b26 at hf
  have hle := lez_rf h
  have ee := Option.some.inj hf; subst ee; exact hle
set_option maxRecDepth 100000 in
theorem wX6_readPlain_R_b26 {E : PE} {p : Program} {l : Launch} {e : Env} {s : State} {m : MethodId} {args : Array Value} {below : List Frame} {meth : Method} {c : Code} {X0 V0 MC MS uc us : Nat} {nn : Nat} (X : Cx E p l e (rmv (8 + nn + 1) MC MS) s m args below meth c RX6 cX6_readPlain 4 (some (.object "WordFinder$Node"))) (hG : Gs E l) (hnm : meth.name = yX6_readPlain.name) {rc0 : (Nat → Int32 → PH → Option (Option Nat × PH))} {rc1 : (Nat → Int32 → PH → Option (Option Nat × PH))} {rc2 : (Nat → Int32 → PH → Option (Option Nat × PH))} (hw0 : ∀ {a0 : Nat} {a1 : Int32} {h : PH} {r : (Option Nat × PH)}, rc0 a0 a1 h = some r → Ct E l (8 + nn) ((hX r.2) - hX h) ((hV r.2) - hV h) yX6_readBoth cX6_readBoth 6 (some (.object "WordFinder$Node")) [.ref a0, .int a1] h (fun v u => v = some (va_rf r.1) ∧ u = r.2)) (hw1 : ∀ {a0 : Nat} {a1 : Int32} {h : PH} {r : (Option Nat × PH)}, rc1 a0 a1 h = some r → Ct E l (8 + nn) ((hX r.2) - hX h) ((hV r.2) - hV h) yX6_readPlain cX6_readPlain 4 (some (.object "WordFinder$Node")) [.ref a0, .int a1] h (fun v u => v = some (va_rf r.1) ∧ u = r.2)) (hw2 : ∀ {a0 : Nat} {a1 : Int32} {h : PH} {r : (Option Nat × PH)}, rc2 a0 a1 h = some r → Ct E l (8 + nn) ((hX r.2) - hX h) ((hV r.2) - hV h) yX6_readQuery cX6_readQuery 6 (some (.object "WordFinder$Node")) [.ref a0, .int a1] h (fun v u => v = some (va_rf r.1) ∧ u = r.2)) (hgm0 : ∀ {a0 : Nat} {a1 : Int32} {h : PH} {r : (Option Nat × PH)}, rc0 a0 a1 h = some r → lez h (hX r.2) (hV r.2)) (hgm1 : ∀ {a0 : Nat} {a1 : Int32} {h : PH} {r : (Option Nat × PH)}, rc1 a0 a1 h = some r → lez h (hX r.2) (hV r.2)) (hgm2 : ∀ {a0 : Nat} {a1 : Int32} {h : PH} {r : (Option Nat × PH)}, rc2 a0 a1 h = some r → lez h (hX r.2) (hV r.2)) {t0 : Option Nat} {h : PH} {r : (Option Nat × PH)} (hM : MC + X0 = (hX r.2)) (hN : MS + V0 = (hV r.2)) (hu : uc + X0 = hX h) (hv : us + V0 = hV h) (hf : fX6_readPlain_R_b26 rc0 rc1 rc2 t0 h = some r)  : PW E p l e (rmv (8 + nn + 1) MC MS) s m args below meth c 4 uc us (MQ below (QG E (fun v u => v = some (va_rf r.1) ∧ u = r.2)) args s MC MS (pA E)) h 26 [] [va_rf t0] := by
  have hm1 : lez h (hX r.2) (hV r.2) := mX6_readPlain_R_b26 hgm0 hgm1 hgm2 hf
  have hcm : uc ≤ MC := (by have o0 := hm1.1; have o1 := hM; have o2 := hu; (try simp only [hX_sI, hX_sR, hX_sL, hX_sD, hX_sIa, hX_sRa, hV_sI, hV_sR, hV_sL, hV_sD, hV_sIa, hV_sRa, hX_new, hV_new] at o0 o1 o2 ⊢); omega)
  have hsm : us ≤ MS := (by have o0 := hm1.2; have o1 := hN; have o2 := hv; (try simp only [hX_sI, hX_sR, hX_sL, hX_sD, hX_sIa, hX_sRa, hV_sI, hV_sR, hV_sL, hV_sD, hV_sIa, hV_sRa, hX_new, hV_new] at o0 o1 o2 ⊢); omega)
  clear hm1
  unfold fX6_readPlain_R_b26 at hf
  have er := Option.some.inj hf
  subst er
  exact p_aret X rfl (Or.inl ⟨_, rfl⟩) (dcg dc_X6_readPlain 13 rfl) ⟨rfl, rfl⟩ hcm hsm
noncomputable def fX6_readPlain_R_b12 (rc0 : (Nat → Int32 → PH → Option (Option Nat × PH))) (rc1 : (Nat → Int32 → PH → Option (Option Nat × PH))) (rc2 : (Nat → Int32 → PH → Option (Option Nat × PH))) (t0 : Option Nat) (h : PH) : Option (Option Nat × PH) :=
  some ((t0, h))
set_option maxRecDepth 100000 in
theorem mX6_readPlain_R_b12 {rc0 : (Nat → Int32 → PH → Option (Option Nat × PH))} {rc1 : (Nat → Int32 → PH → Option (Option Nat × PH))} {rc2 : (Nat → Int32 → PH → Option (Option Nat × PH))} (hgm0 : ∀ {a0 : Nat} {a1 : Int32} {h : PH} {r : (Option Nat × PH)}, rc0 a0 a1 h = some r → lez h (hX r.2) (hV r.2)) (hgm1 : ∀ {a0 : Nat} {a1 : Int32} {h : PH} {r : (Option Nat × PH)}, rc1 a0 a1 h = some r → lez h (hX r.2) (hV r.2)) (hgm2 : ∀ {a0 : Nat} {a1 : Int32} {h : PH} {r : (Option Nat × PH)}, rc2 a0 a1 h = some r → lez h (hX r.2) (hV r.2)) {t0 : Option Nat} {h : PH} {r : (Option Nat × PH)} (hf : fX6_readPlain_R_b12 rc0 rc1 rc2 t0 h = some r) : lez h (hX r.2) (hV r.2) := by
  unfold fX6_readPlain_R_b12 at hf
  have hle := lez_rf h
  have ee := Option.some.inj hf; subst ee; exact hle
set_option maxRecDepth 100000 in
theorem wX6_readPlain_R_b12 {E : PE} {p : Program} {l : Launch} {e : Env} {s : State} {m : MethodId} {args : Array Value} {below : List Frame} {meth : Method} {c : Code} {X0 V0 MC MS uc us : Nat} {nn : Nat} (X : Cx E p l e (rmv (8 + nn + 1) MC MS) s m args below meth c RX6 cX6_readPlain 4 (some (.object "WordFinder$Node"))) (hG : Gs E l) (hnm : meth.name = yX6_readPlain.name) {rc0 : (Nat → Int32 → PH → Option (Option Nat × PH))} {rc1 : (Nat → Int32 → PH → Option (Option Nat × PH))} {rc2 : (Nat → Int32 → PH → Option (Option Nat × PH))} (hw0 : ∀ {a0 : Nat} {a1 : Int32} {h : PH} {r : (Option Nat × PH)}, rc0 a0 a1 h = some r → Ct E l (8 + nn) ((hX r.2) - hX h) ((hV r.2) - hV h) yX6_readBoth cX6_readBoth 6 (some (.object "WordFinder$Node")) [.ref a0, .int a1] h (fun v u => v = some (va_rf r.1) ∧ u = r.2)) (hw1 : ∀ {a0 : Nat} {a1 : Int32} {h : PH} {r : (Option Nat × PH)}, rc1 a0 a1 h = some r → Ct E l (8 + nn) ((hX r.2) - hX h) ((hV r.2) - hV h) yX6_readPlain cX6_readPlain 4 (some (.object "WordFinder$Node")) [.ref a0, .int a1] h (fun v u => v = some (va_rf r.1) ∧ u = r.2)) (hw2 : ∀ {a0 : Nat} {a1 : Int32} {h : PH} {r : (Option Nat × PH)}, rc2 a0 a1 h = some r → Ct E l (8 + nn) ((hX r.2) - hX h) ((hV r.2) - hV h) yX6_readQuery cX6_readQuery 6 (some (.object "WordFinder$Node")) [.ref a0, .int a1] h (fun v u => v = some (va_rf r.1) ∧ u = r.2)) (hgm0 : ∀ {a0 : Nat} {a1 : Int32} {h : PH} {r : (Option Nat × PH)}, rc0 a0 a1 h = some r → lez h (hX r.2) (hV r.2)) (hgm1 : ∀ {a0 : Nat} {a1 : Int32} {h : PH} {r : (Option Nat × PH)}, rc1 a0 a1 h = some r → lez h (hX r.2) (hV r.2)) (hgm2 : ∀ {a0 : Nat} {a1 : Int32} {h : PH} {r : (Option Nat × PH)}, rc2 a0 a1 h = some r → lez h (hX r.2) (hV r.2)) {t0 : Option Nat} {h : PH} {r : (Option Nat × PH)} (hM : MC + X0 = (hX r.2)) (hN : MS + V0 = (hV r.2)) (hu : uc + X0 = hX h) (hv : us + V0 = hV h) (hf : fX6_readPlain_R_b12 rc0 rc1 rc2 t0 h = some r)  : PW E p l e (rmv (8 + nn + 1) MC MS) s m args below meth c 4 uc us (MQ below (QG E (fun v u => v = some (va_rf r.1) ∧ u = r.2)) args s MC MS (pA E)) h 12 [] [va_rf t0] := by
  have hm1 : lez h (hX r.2) (hV r.2) := mX6_readPlain_R_b12 hgm0 hgm1 hgm2 hf
  have hcm : uc ≤ MC := (by have o0 := hm1.1; have o1 := hM; have o2 := hu; (try simp only [hX_sI, hX_sR, hX_sL, hX_sD, hX_sIa, hX_sRa, hV_sI, hV_sR, hV_sL, hV_sD, hV_sIa, hV_sRa, hX_new, hV_new] at o0 o1 o2 ⊢); omega)
  have hsm : us ≤ MS := (by have o0 := hm1.2; have o1 := hN; have o2 := hv; (try simp only [hX_sI, hX_sR, hX_sL, hX_sD, hX_sIa, hX_sRa, hV_sI, hV_sR, hV_sL, hV_sD, hV_sIa, hV_sRa, hX_new, hV_new] at o0 o1 o2 ⊢); omega)
  clear hm1
  unfold fX6_readPlain_R_b12 at hf
  have er := Option.some.inj hf
  subst er
  exact p_aret X rfl (Or.inl ⟨_, rfl⟩) (dcg dc_X6_readPlain 6 rfl) ⟨rfl, rfl⟩ hcm hsm
noncomputable def fX6_readPlain_R_b0 (rc0 : (Nat → Int32 → PH → Option (Option Nat × PH))) (rc1 : (Nat → Int32 → PH → Option (Option Nat × PH))) (rc2 : (Nat → Int32 → PH → Option (Option Nat × PH))) (v0 : Nat) (v1 : Int32) (h : PH) : Option (Option Nat × PH) :=
  gd (hK h v0 = 6) (if (¬ (hI h 6 v0 3) = (2 : Int32)) then (if (¬ (hI h 6 v0 3) = (91 : Int32)) then (if ((hI h 6 v0 3) = (33 : Int32)) then (fX6_readPlain_R_b45 rc0 rc1 rc2 v0 v1 h) else
  if (¬ (hI h 6 v0 3) = (40 : Int32)) then (fX6_readPlain_R_b51 rc0 rc1 rc2 v0 h) else
  fX6_readPlain_R_b45 rc0 rc1 rc2 v0 v1 h) else
  bd (fX6_readRow v0 h) (fun z19 =>
  fX6_readPlain_R_b26 rc0 rc1 rc2 z19.1 z19.2)) else
  bd (fX6_readWord v0 h) (fun z20 =>
  fX6_readPlain_R_b12 rc0 rc1 rc2 z20.1 z20.2))
set_option maxRecDepth 100000 in
theorem mX6_readPlain_R_b0 {rc0 : (Nat → Int32 → PH → Option (Option Nat × PH))} {rc1 : (Nat → Int32 → PH → Option (Option Nat × PH))} {rc2 : (Nat → Int32 → PH → Option (Option Nat × PH))} (hgm0 : ∀ {a0 : Nat} {a1 : Int32} {h : PH} {r : (Option Nat × PH)}, rc0 a0 a1 h = some r → lez h (hX r.2) (hV r.2)) (hgm1 : ∀ {a0 : Nat} {a1 : Int32} {h : PH} {r : (Option Nat × PH)}, rc1 a0 a1 h = some r → lez h (hX r.2) (hV r.2)) (hgm2 : ∀ {a0 : Nat} {a1 : Int32} {h : PH} {r : (Option Nat × PH)}, rc2 a0 a1 h = some r → lez h (hX r.2) (hV r.2)) {v0 : Nat} {v1 : Int32} {h : PH} {r : (Option Nat × PH)} (hf : fX6_readPlain_R_b0 rc0 rc1 rc2 v0 v1 h = some r) : lez h (hX r.2) (hV r.2) := by
  unfold fX6_readPlain_R_b0 at hf
  have hle := lez_rf h
  obtain ⟨hk1, hf⟩ := gd_some hf
  rcases ite_or hf with ⟨q, hf⟩ | ⟨q, hf⟩
  · have hf := if_t q hf
    rcases ite_or hf with ⟨q, hf⟩ | ⟨q, hf⟩
    · have hf := if_t q hf
      rcases ite_or hf with ⟨q, hf⟩ | ⟨q, hf⟩
      · have hf := if_t q hf
        exact lez_rt (mX6_readPlain_R_b45 hgm0 hgm1 hgm2 hf) hle
      · have hf := if_f q hf
        rcases ite_or hf with ⟨q, hf⟩ | ⟨q, hf⟩
        · have hf := if_t q hf
          exact lez_rt (mX6_readPlain_R_b51 hgm0 hgm1 hgm2 hf) hle
        · have hf := if_f q hf
          exact lez_rt (mX6_readPlain_R_b45 hgm0 hgm1 hgm2 hf) hle
    · have hf := if_f q hf
      obtain ⟨z19, hz19, hf⟩ := bd_some hf
      have hle := lez_rt (mX6_readRow hz19) hle
      exact lez_rt (mX6_readPlain_R_b26 hgm0 hgm1 hgm2 hf) hle
  · have hf := if_f q hf
    obtain ⟨z20, hz20, hf⟩ := bd_some hf
    have hle := lez_rt (mX6_readWord hz20) hle
    exact lez_rt (mX6_readPlain_R_b12 hgm0 hgm1 hgm2 hf) hle
set_option maxRecDepth 100000 in
theorem wX6_readPlain_R_b0 {E : PE} {p : Program} {l : Launch} {e : Env} {s : State} {m : MethodId} {args : Array Value} {below : List Frame} {meth : Method} {c : Code} {X0 V0 MC MS uc us : Nat} {nn : Nat} (X : Cx E p l e (rmv (8 + nn + 1) MC MS) s m args below meth c RX6 cX6_readPlain 4 (some (.object "WordFinder$Node"))) (hG : Gs E l) (hnm : meth.name = yX6_readPlain.name) {rc0 : (Nat → Int32 → PH → Option (Option Nat × PH))} {rc1 : (Nat → Int32 → PH → Option (Option Nat × PH))} {rc2 : (Nat → Int32 → PH → Option (Option Nat × PH))} (hw0 : ∀ {a0 : Nat} {a1 : Int32} {h : PH} {r : (Option Nat × PH)}, rc0 a0 a1 h = some r → Ct E l (8 + nn) ((hX r.2) - hX h) ((hV r.2) - hV h) yX6_readBoth cX6_readBoth 6 (some (.object "WordFinder$Node")) [.ref a0, .int a1] h (fun v u => v = some (va_rf r.1) ∧ u = r.2)) (hw1 : ∀ {a0 : Nat} {a1 : Int32} {h : PH} {r : (Option Nat × PH)}, rc1 a0 a1 h = some r → Ct E l (8 + nn) ((hX r.2) - hX h) ((hV r.2) - hV h) yX6_readPlain cX6_readPlain 4 (some (.object "WordFinder$Node")) [.ref a0, .int a1] h (fun v u => v = some (va_rf r.1) ∧ u = r.2)) (hw2 : ∀ {a0 : Nat} {a1 : Int32} {h : PH} {r : (Option Nat × PH)}, rc2 a0 a1 h = some r → Ct E l (8 + nn) ((hX r.2) - hX h) ((hV r.2) - hV h) yX6_readQuery cX6_readQuery 6 (some (.object "WordFinder$Node")) [.ref a0, .int a1] h (fun v u => v = some (va_rf r.1) ∧ u = r.2)) (hgm0 : ∀ {a0 : Nat} {a1 : Int32} {h : PH} {r : (Option Nat × PH)}, rc0 a0 a1 h = some r → lez h (hX r.2) (hV r.2)) (hgm1 : ∀ {a0 : Nat} {a1 : Int32} {h : PH} {r : (Option Nat × PH)}, rc1 a0 a1 h = some r → lez h (hX r.2) (hV r.2)) (hgm2 : ∀ {a0 : Nat} {a1 : Int32} {h : PH} {r : (Option Nat × PH)}, rc2 a0 a1 h = some r → lez h (hX r.2) (hV r.2)) {v0 : Nat} {v1 : Int32} {h : PH} {r : (Option Nat × PH)} (hM : MC + X0 = (hX r.2)) (hN : MS + V0 = (hV r.2)) (hu : uc + X0 = hX h) (hv : us + V0 = hV h) (hf : fX6_readPlain_R_b0 rc0 rc1 rc2 v0 v1 h = some r)  : PW E p l e (rmv (8 + nn + 1) MC MS) s m args below meth c 4 uc us (MQ below (QG E (fun v u => v = some (va_rf r.1) ∧ u = r.2)) args s MC MS (pA E)) h 0 [(0, some (.ref v0)), (1, some (.int v1))] [] := by
  have hm1 : lez h (hX r.2) (hV r.2) := mX6_readPlain_R_b0 hgm0 hgm1 hgm2 hf
  have hcm : uc ≤ MC := (by have o0 := hm1.1; have o1 := hM; have o2 := hu; (try simp only [hX_sI, hX_sR, hX_sL, hX_sD, hX_sIa, hX_sRa, hV_sI, hV_sR, hV_sL, hV_sD, hV_sIa, hV_sRa, hX_new, hV_new] at o0 o1 o2 ⊢); omega)
  have hsm : us ≤ MS := (by have o0 := hm1.2; have o1 := hN; have o2 := hv; (try simp only [hX_sI, hX_sR, hX_sL, hX_sD, hX_sIa, hX_sRa, hV_sI, hV_sR, hV_sL, hV_sD, hV_sIa, hV_sRa, hX_new, hV_new] at o0 o1 o2 ⊢); omega)
  clear hm1
  unfold fX6_readPlain_R_b0 at hf
  refine p_aload_n X (dcg dc_X6_readPlain 0 rfl) rfl rfl ?_
  obtain ⟨hk1, hf⟩ := gd_some hf
  refine p_getI X fl_X6_36 rfl (by decide) (dcg dc_X6_readPlain 1 rfl) hk1 ?_
  refine p_iconst (v := 2) X (dcg dc_X6_readPlain 2 rfl) (by decide) ?_
  refine p_icmp_ne (tgt := 13) X (dcg dc_X6_readPlain 3 rfl) (by decide) (fun q => ?_) (fun q => ?_)
  · have hf := if_t q hf
    refine p_aload_n X (dcg dc_X6_readPlain 7 rfl) rfl rfl ?_
    refine p_getI X fl_X6_36 rfl (by decide) (dcg dc_X6_readPlain 8 rfl) hk1 ?_
    refine p_bipush (v := 91) X (dcg dc_X6_readPlain 9 rfl) (by decide) ?_
    refine p_icmp_ne (tgt := 27) X (dcg dc_X6_readPlain 10 rfl) (by decide) (fun q => ?_) (fun q => ?_)
    · have hf := if_t q hf
      refine p_aload_n X (dcg dc_X6_readPlain 14 rfl) rfl rfl ?_
      refine p_getI X fl_X6_36 rfl (by decide) (dcg dc_X6_readPlain 15 rfl) hk1 ?_
      refine p_bipush (v := 33) X (dcg dc_X6_readPlain 16 rfl) (by decide) ?_
      refine p_icmp_eq (tgt := 45) X (dcg dc_X6_readPlain 17 rfl) (by decide) (fun q => ?_) (fun q => ?_)
      · have hf := if_t q hf
        refine p_pick [0, 1] ?_
        exact wX6_readPlain_R_b45 X hG hnm hw0 hw1 hw2 hgm0 hgm1 hgm2 hM hN hu hv hf 
      · have hf := if_f q hf
        refine p_aload_n X (dcg dc_X6_readPlain 18 rfl) rfl rfl ?_
        refine p_getI X fl_X6_36 rfl (by decide) (dcg dc_X6_readPlain 19 rfl) hk1 ?_
        refine p_bipush (v := 40) X (dcg dc_X6_readPlain 20 rfl) (by decide) ?_
        refine p_icmp_ne (tgt := 51) X (dcg dc_X6_readPlain 21 rfl) (by decide) (fun q => ?_) (fun q => ?_)
        · have hf := if_t q hf
          refine p_pick [0] ?_
          exact wX6_readPlain_R_b51 X hG hnm hw0 hw1 hw2 hgm0 hgm1 hgm2 hM hN hu hv hf 
        · have hf := if_f q hf
          refine p_pick [0, 1] ?_
          exact wX6_readPlain_R_b45 X hG hnm hw0 hw1 hw2 hgm0 hgm1 hgm2 hM hN hu hv hf 
    · have hf := if_f q hf
      refine p_aload_n X (dcg dc_X6_readPlain 11 rfl) rfl rfl ?_
      obtain ⟨z19, hz19, hf⟩ := bd_some hf
      have hc1 := mX6_readRow hz19
      have hm1 : lez _ (hX r.2) (hV r.2) := mX6_readPlain_R_b26 hgm0 hgm1 hgm2 hf
      refine p_callV (As := []) X ml_X6_76 (dcg dc_X6_readPlain 12 rfl) rfl rfl hk1 (wX6_readRow hG hz19) (by omega) (room4 (Nat.le_of_ble_eq_true rfl)) (by have o0 := hm1.1; have o1 := hc1.1; have o2 := hM; have o3 := hu; (try simp only [hX_sI, hX_sR, hX_sL, hX_sD, hX_sIa, hX_sRa, hV_sI, hV_sR, hV_sL, hV_sD, hV_sIa, hV_sRa, hX_new, hV_new] at o0 o1 o2 o3 ⊢); omega) (by have o0 := hm1.2; have o1 := hc1.2; have o2 := hN; have o3 := hv; (try simp only [hX_sI, hX_sR, hX_sL, hX_sD, hX_sIa, hX_sRa, hV_sI, hV_sR, hV_sL, hV_sD, hV_sIa, hV_sRa, hX_new, hV_new] at o0 o1 o2 o3 ⊢); omega) ?_
      rintro _ u9 ⟨rfl, e9⟩; have e9 := e9.symm; subst e9
      refine p_pick [] ?_
      exact wX6_readPlain_R_b26 X hG hnm hw0 hw1 hw2 hgm0 hgm1 hgm2 hM hN (by have o0 := hc1.1; have o1 := hu; (try simp only [hX_sI, hX_sR, hX_sL, hX_sD, hX_sIa, hX_sRa, hV_sI, hV_sR, hV_sL, hV_sD, hV_sIa, hV_sRa, hX_new, hV_new] at o0 o1 ⊢); omega) (by have o0 := hc1.2; have o1 := hv; (try simp only [hX_sI, hX_sR, hX_sL, hX_sD, hX_sIa, hX_sRa, hV_sI, hV_sR, hV_sL, hV_sD, hV_sIa, hV_sRa, hX_new, hV_new] at o0 o1 ⊢); omega) hf 
  · have hf := if_f q hf
    refine p_aload_n X (dcg dc_X6_readPlain 4 rfl) rfl rfl ?_
    obtain ⟨z20, hz20, hf⟩ := bd_some hf
    have hc1 := mX6_readWord hz20
    have hm1 : lez _ (hX r.2) (hV r.2) := mX6_readPlain_R_b12 hgm0 hgm1 hgm2 hf
    refine p_callV (As := []) X ml_X6_73 (dcg dc_X6_readPlain 5 rfl) rfl rfl hk1 (wX6_readWord hG hz20) (by omega) (room4 (Nat.le_of_ble_eq_true rfl)) (by have o0 := hm1.1; have o1 := hc1.1; have o2 := hM; have o3 := hu; (try simp only [hX_sI, hX_sR, hX_sL, hX_sD, hX_sIa, hX_sRa, hV_sI, hV_sR, hV_sL, hV_sD, hV_sIa, hV_sRa, hX_new, hV_new] at o0 o1 o2 o3 ⊢); omega) (by have o0 := hm1.2; have o1 := hc1.2; have o2 := hN; have o3 := hv; (try simp only [hX_sI, hX_sR, hX_sL, hX_sD, hX_sIa, hX_sRa, hV_sI, hV_sR, hV_sL, hV_sD, hV_sIa, hV_sRa, hX_new, hV_new] at o0 o1 o2 o3 ⊢); omega) ?_
    rintro _ u9 ⟨rfl, e9⟩; have e9 := e9.symm; subst e9
    refine p_pick [] ?_
    exact wX6_readPlain_R_b12 X hG hnm hw0 hw1 hw2 hgm0 hgm1 hgm2 hM hN (by have o0 := hc1.1; have o1 := hu; (try simp only [hX_sI, hX_sR, hX_sL, hX_sD, hX_sIa, hX_sRa, hV_sI, hV_sR, hV_sL, hV_sD, hV_sIa, hV_sRa, hX_new, hV_new] at o0 o1 ⊢); omega) (by have o0 := hc1.2; have o1 := hv; (try simp only [hX_sI, hX_sR, hX_sL, hX_sD, hX_sIa, hX_sRa, hV_sI, hV_sR, hV_sL, hV_sD, hV_sIa, hV_sRa, hX_new, hV_new] at o0 o1 ⊢); omega) hf 
noncomputable def fX6_readPlain_R (rc0 : (Nat → Int32 → PH → Option (Option Nat × PH))) (rc1 : (Nat → Int32 → PH → Option (Option Nat × PH))) (rc2 : (Nat → Int32 → PH → Option (Option Nat × PH))) (v0 : Nat) (v1 : Int32) (h : PH) : Option (Option Nat × PH) :=
  fX6_readPlain_R_b0 rc0 rc1 rc2 v0 v1 h
set_option maxRecDepth 100000 in
theorem mX6_readPlain_R {rc0 : (Nat → Int32 → PH → Option (Option Nat × PH))} {rc1 : (Nat → Int32 → PH → Option (Option Nat × PH))} {rc2 : (Nat → Int32 → PH → Option (Option Nat × PH))} (hgm0 : ∀ {a0 : Nat} {a1 : Int32} {h : PH} {r : (Option Nat × PH)}, rc0 a0 a1 h = some r → lez h (hX r.2) (hV r.2)) (hgm1 : ∀ {a0 : Nat} {a1 : Int32} {h : PH} {r : (Option Nat × PH)}, rc1 a0 a1 h = some r → lez h (hX r.2) (hV r.2)) (hgm2 : ∀ {a0 : Nat} {a1 : Int32} {h : PH} {r : (Option Nat × PH)}, rc2 a0 a1 h = some r → lez h (hX r.2) (hV r.2)) {v0 : Nat} {v1 : Int32} {h : PH} {r : (Option Nat × PH)} (hf : fX6_readPlain_R rc0 rc1 rc2 v0 v1 h = some r) : lez h (hX r.2) (hV r.2) := by
  unfold fX6_readPlain_R at hf
  have hle := lez_rf h
  exact lez_rt (mX6_readPlain_R_b0 hgm0 hgm1 hgm2 hf) hle
set_option maxRecDepth 100000 in
theorem wX6_readPlain_R {E : PE} {l : Launch} (hG : Gs E l) {nn : Nat} {rc0 : (Nat → Int32 → PH → Option (Option Nat × PH))} {rc1 : (Nat → Int32 → PH → Option (Option Nat × PH))} {rc2 : (Nat → Int32 → PH → Option (Option Nat × PH))} (hw0 : ∀ {a0 : Nat} {a1 : Int32} {h : PH} {r : (Option Nat × PH)}, rc0 a0 a1 h = some r → Ct E l (8 + nn) ((hX r.2) - hX h) ((hV r.2) - hV h) yX6_readBoth cX6_readBoth 6 (some (.object "WordFinder$Node")) [.ref a0, .int a1] h (fun v u => v = some (va_rf r.1) ∧ u = r.2)) (hw1 : ∀ {a0 : Nat} {a1 : Int32} {h : PH} {r : (Option Nat × PH)}, rc1 a0 a1 h = some r → Ct E l (8 + nn) ((hX r.2) - hX h) ((hV r.2) - hV h) yX6_readPlain cX6_readPlain 4 (some (.object "WordFinder$Node")) [.ref a0, .int a1] h (fun v u => v = some (va_rf r.1) ∧ u = r.2)) (hw2 : ∀ {a0 : Nat} {a1 : Int32} {h : PH} {r : (Option Nat × PH)}, rc2 a0 a1 h = some r → Ct E l (8 + nn) ((hX r.2) - hX h) ((hV r.2) - hV h) yX6_readQuery cX6_readQuery 6 (some (.object "WordFinder$Node")) [.ref a0, .int a1] h (fun v u => v = some (va_rf r.1) ∧ u = r.2)) (hgm0 : ∀ {a0 : Nat} {a1 : Int32} {h : PH} {r : (Option Nat × PH)}, rc0 a0 a1 h = some r → lez h (hX r.2) (hV r.2)) (hgm1 : ∀ {a0 : Nat} {a1 : Int32} {h : PH} {r : (Option Nat × PH)}, rc1 a0 a1 h = some r → lez h (hX r.2) (hV r.2)) (hgm2 : ∀ {a0 : Nat} {a1 : Int32} {h : PH} {r : (Option Nat × PH)}, rc2 a0 a1 h = some r → lez h (hX r.2) (hV r.2)) {v0 : Nat} {v1 : Int32} {h : PH} {r : (Option Nat × PH)} (hf : fX6_readPlain_R rc0 rc1 rc2 v0 v1 h = some r) : Ct E l (8 + nn + 1) ((hX r.2) - hX h) ((hV r.2) - hV h) yX6_readPlain cX6_readPlain 4 (some (.object "WordFinder$Node")) [.ref v0, .int v1] h (fun v u => v = some (va_rf r.1) ∧ u = r.2) := by
  have hmm := mX6_readPlain_R hgm0 hgm1 hgm2 hf
  refine ct_of hG (by decide) (Nat.le_of_ble_eq_true rfl) ?_
  intro p e s m args below meth c X hnm
  show PW E p l e _ s m args below meth c _ 0 0 _ h 0 [(0, some (.ref v0)), (1, some (.int v1))] []
  unfold fX6_readPlain_R at hf
  have hM := Nat.sub_add_cancel hmm.1
  have hN := Nat.sub_add_cancel hmm.2
  refine p_pick [0, 1] ?_
  exact wX6_readPlain_R_b0 X hG hnm hw0 hw1 hw2 hgm0 hgm1 hgm2 hM hN (Nat.zero_add _) (Nat.zero_add _) hf
theorem dc_X6_readQuery : decs cX6_readQuery [(0, .aload_n 0, 1), (1, .iload_n 1, 1), (2, .invokevirtual 52, 3), (5, .astore_n 2, 1), (6, .aload_n 2, 1), (7, .ifnull 12, 3), (10, .aload_n 0, 1), (11, .getfield 36, 3), (14, .bipush 124, 2), (16, .if_icmp .eq 5, 3), (19, .aload_n 2, 1), (20, .areturn, 1), (21, .bipush 6, 2), (23, .invokestatic 57, 3), (26, .astore_n 3, 1), (27, .aload_n 3, 1), (28, .getfield 60, 3), (31, .aload_n 2, 1), (32, .invokevirtual 64, 3), (35, .pop, 1), (36, .iconst 0, 1), (37, .istore 4, 2), (39, .iload 4, 2), (41, .bipush 20, 2), (43, .if_icmp .ge 46, 3), (46, .aload_n 0, 1), (47, .getfield 36, 3), (50, .bipush 124, 2), (52, .if_icmp .ne 37, 3), (55, .aload_n 0, 1), (56, .invokevirtual 29, 3), (59, .aload_n 0, 1), (60, .iload_n 1, 1), (61, .invokevirtual 52, 3), (64, .astore 5, 2), (66, .aload 5, 2), (68, .ifnonnull 5, 3), (71, .aconst_null, 1), (72, .areturn, 1), (73, .aload_n 3, 1), (74, .getfield 60, 3), (77, .aload 5, 2), (79, .invokevirtual 64, 3), (82, .pop, 1), (83, .iinc 4 1, 3), (86, .goto (-47), 3), (89, .aload_n 3, 1), (90, .areturn, 1)] = true := by decide +kernel
noncomputable def fX6_readQuery_R_b19 (rc0 : (Nat → Int32 → PH → Option (Option Nat × PH))) (rc1 : (Nat → Int32 → PH → Option (Option Nat × PH))) (rc2 : (Nat → Int32 → PH → Option (Option Nat × PH))) (v2 : Option Nat) (h : PH) : Option (Option Nat × PH) :=
  some ((v2, h))
set_option maxRecDepth 100000 in
theorem mX6_readQuery_R_b19 {rc0 : (Nat → Int32 → PH → Option (Option Nat × PH))} {rc1 : (Nat → Int32 → PH → Option (Option Nat × PH))} {rc2 : (Nat → Int32 → PH → Option (Option Nat × PH))} (hgm0 : ∀ {a0 : Nat} {a1 : Int32} {h : PH} {r : (Option Nat × PH)}, rc0 a0 a1 h = some r → lez h (hX r.2) (hV r.2)) (hgm1 : ∀ {a0 : Nat} {a1 : Int32} {h : PH} {r : (Option Nat × PH)}, rc1 a0 a1 h = some r → lez h (hX r.2) (hV r.2)) (hgm2 : ∀ {a0 : Nat} {a1 : Int32} {h : PH} {r : (Option Nat × PH)}, rc2 a0 a1 h = some r → lez h (hX r.2) (hV r.2)) {v2 : Option Nat} {h : PH} {r : (Option Nat × PH)} (hf : fX6_readQuery_R_b19 rc0 rc1 rc2 v2 h = some r) : lez h (hX r.2) (hV r.2) := by
  unfold fX6_readQuery_R_b19 at hf
  have hle := lez_rf h
  have ee := Option.some.inj hf; subst ee; exact hle
set_option maxRecDepth 100000 in
theorem wX6_readQuery_R_b19 {E : PE} {p : Program} {l : Launch} {e : Env} {s : State} {m : MethodId} {args : Array Value} {below : List Frame} {meth : Method} {c : Code} {X0 V0 MC MS uc us : Nat} {nn : Nat} (X : Cx E p l e (rmv (8 + nn + 1) MC MS) s m args below meth c RX6 cX6_readQuery 6 (some (.object "WordFinder$Node"))) (hG : Gs E l) (hnm : meth.name = yX6_readQuery.name) {rc0 : (Nat → Int32 → PH → Option (Option Nat × PH))} {rc1 : (Nat → Int32 → PH → Option (Option Nat × PH))} {rc2 : (Nat → Int32 → PH → Option (Option Nat × PH))} (hw0 : ∀ {a0 : Nat} {a1 : Int32} {h : PH} {r : (Option Nat × PH)}, rc0 a0 a1 h = some r → Ct E l (8 + nn) ((hX r.2) - hX h) ((hV r.2) - hV h) yX6_readBoth cX6_readBoth 6 (some (.object "WordFinder$Node")) [.ref a0, .int a1] h (fun v u => v = some (va_rf r.1) ∧ u = r.2)) (hw1 : ∀ {a0 : Nat} {a1 : Int32} {h : PH} {r : (Option Nat × PH)}, rc1 a0 a1 h = some r → Ct E l (8 + nn) ((hX r.2) - hX h) ((hV r.2) - hV h) yX6_readPlain cX6_readPlain 4 (some (.object "WordFinder$Node")) [.ref a0, .int a1] h (fun v u => v = some (va_rf r.1) ∧ u = r.2)) (hw2 : ∀ {a0 : Nat} {a1 : Int32} {h : PH} {r : (Option Nat × PH)}, rc2 a0 a1 h = some r → Ct E l (8 + nn) ((hX r.2) - hX h) ((hV r.2) - hV h) yX6_readQuery cX6_readQuery 6 (some (.object "WordFinder$Node")) [.ref a0, .int a1] h (fun v u => v = some (va_rf r.1) ∧ u = r.2)) (hgm0 : ∀ {a0 : Nat} {a1 : Int32} {h : PH} {r : (Option Nat × PH)}, rc0 a0 a1 h = some r → lez h (hX r.2) (hV r.2)) (hgm1 : ∀ {a0 : Nat} {a1 : Int32} {h : PH} {r : (Option Nat × PH)}, rc1 a0 a1 h = some r → lez h (hX r.2) (hV r.2)) (hgm2 : ∀ {a0 : Nat} {a1 : Int32} {h : PH} {r : (Option Nat × PH)}, rc2 a0 a1 h = some r → lez h (hX r.2) (hV r.2)) {v2 : Option Nat} {h : PH} {r : (Option Nat × PH)} (hM : MC + X0 = (hX r.2)) (hN : MS + V0 = (hV r.2)) (hu : uc + X0 = hX h) (hv : us + V0 = hV h) (hf : fX6_readQuery_R_b19 rc0 rc1 rc2 v2 h = some r)  : PW E p l e (rmv (8 + nn + 1) MC MS) s m args below meth c 6 uc us (MQ below (QG E (fun v u => v = some (va_rf r.1) ∧ u = r.2)) args s MC MS (pA E)) h 19 [(2, some (va_rf v2))] [] := by
  have hm1 : lez h (hX r.2) (hV r.2) := mX6_readQuery_R_b19 hgm0 hgm1 hgm2 hf
  have hcm : uc ≤ MC := (by have o0 := hm1.1; have o1 := hM; have o2 := hu; (try simp only [hX_sI, hX_sR, hX_sL, hX_sD, hX_sIa, hX_sRa, hV_sI, hV_sR, hV_sL, hV_sD, hV_sIa, hV_sRa, hX_new, hV_new] at o0 o1 o2 ⊢); omega)
  have hsm : us ≤ MS := (by have o0 := hm1.2; have o1 := hN; have o2 := hv; (try simp only [hX_sI, hX_sR, hX_sL, hX_sD, hX_sIa, hX_sRa, hV_sI, hV_sR, hV_sL, hV_sD, hV_sIa, hV_sRa, hX_new, hV_new] at o0 o1 o2 ⊢); omega)
  clear hm1
  unfold fX6_readQuery_R_b19 at hf
  refine p_aloadq_n X (dcg dc_X6_readQuery 10 rfl) rfl rfl ?_
  have er := Option.some.inj hf
  subst er
  exact p_aret X rfl (Or.inl ⟨_, rfl⟩) (dcg dc_X6_readQuery 11 rfl) ⟨rfl, rfl⟩ hcm hsm
noncomputable def fX6_readQuery_R_b89 (rc0 : (Nat → Int32 → PH → Option (Option Nat × PH))) (rc1 : (Nat → Int32 → PH → Option (Option Nat × PH))) (rc2 : (Nat → Int32 → PH → Option (Option Nat × PH))) (v3 : Option Nat) (h : PH) : Option (Option Nat × PH) :=
  some ((v3, h))
set_option maxRecDepth 100000 in
theorem mX6_readQuery_R_b89 {rc0 : (Nat → Int32 → PH → Option (Option Nat × PH))} {rc1 : (Nat → Int32 → PH → Option (Option Nat × PH))} {rc2 : (Nat → Int32 → PH → Option (Option Nat × PH))} (hgm0 : ∀ {a0 : Nat} {a1 : Int32} {h : PH} {r : (Option Nat × PH)}, rc0 a0 a1 h = some r → lez h (hX r.2) (hV r.2)) (hgm1 : ∀ {a0 : Nat} {a1 : Int32} {h : PH} {r : (Option Nat × PH)}, rc1 a0 a1 h = some r → lez h (hX r.2) (hV r.2)) (hgm2 : ∀ {a0 : Nat} {a1 : Int32} {h : PH} {r : (Option Nat × PH)}, rc2 a0 a1 h = some r → lez h (hX r.2) (hV r.2)) {v3 : Option Nat} {h : PH} {r : (Option Nat × PH)} (hf : fX6_readQuery_R_b89 rc0 rc1 rc2 v3 h = some r) : lez h (hX r.2) (hV r.2) := by
  unfold fX6_readQuery_R_b89 at hf
  have hle := lez_rf h
  have ee := Option.some.inj hf; subst ee; exact hle
set_option maxRecDepth 100000 in
theorem wX6_readQuery_R_b89 {E : PE} {p : Program} {l : Launch} {e : Env} {s : State} {m : MethodId} {args : Array Value} {below : List Frame} {meth : Method} {c : Code} {X0 V0 MC MS uc us : Nat} {nn : Nat} (X : Cx E p l e (rmv (8 + nn + 1) MC MS) s m args below meth c RX6 cX6_readQuery 6 (some (.object "WordFinder$Node"))) (hG : Gs E l) (hnm : meth.name = yX6_readQuery.name) {rc0 : (Nat → Int32 → PH → Option (Option Nat × PH))} {rc1 : (Nat → Int32 → PH → Option (Option Nat × PH))} {rc2 : (Nat → Int32 → PH → Option (Option Nat × PH))} (hw0 : ∀ {a0 : Nat} {a1 : Int32} {h : PH} {r : (Option Nat × PH)}, rc0 a0 a1 h = some r → Ct E l (8 + nn) ((hX r.2) - hX h) ((hV r.2) - hV h) yX6_readBoth cX6_readBoth 6 (some (.object "WordFinder$Node")) [.ref a0, .int a1] h (fun v u => v = some (va_rf r.1) ∧ u = r.2)) (hw1 : ∀ {a0 : Nat} {a1 : Int32} {h : PH} {r : (Option Nat × PH)}, rc1 a0 a1 h = some r → Ct E l (8 + nn) ((hX r.2) - hX h) ((hV r.2) - hV h) yX6_readPlain cX6_readPlain 4 (some (.object "WordFinder$Node")) [.ref a0, .int a1] h (fun v u => v = some (va_rf r.1) ∧ u = r.2)) (hw2 : ∀ {a0 : Nat} {a1 : Int32} {h : PH} {r : (Option Nat × PH)}, rc2 a0 a1 h = some r → Ct E l (8 + nn) ((hX r.2) - hX h) ((hV r.2) - hV h) yX6_readQuery cX6_readQuery 6 (some (.object "WordFinder$Node")) [.ref a0, .int a1] h (fun v u => v = some (va_rf r.1) ∧ u = r.2)) (hgm0 : ∀ {a0 : Nat} {a1 : Int32} {h : PH} {r : (Option Nat × PH)}, rc0 a0 a1 h = some r → lez h (hX r.2) (hV r.2)) (hgm1 : ∀ {a0 : Nat} {a1 : Int32} {h : PH} {r : (Option Nat × PH)}, rc1 a0 a1 h = some r → lez h (hX r.2) (hV r.2)) (hgm2 : ∀ {a0 : Nat} {a1 : Int32} {h : PH} {r : (Option Nat × PH)}, rc2 a0 a1 h = some r → lez h (hX r.2) (hV r.2)) {v3 : Option Nat} {h : PH} {r : (Option Nat × PH)} (hM : MC + X0 = (hX r.2)) (hN : MS + V0 = (hV r.2)) (hu : uc + X0 = hX h) (hv : us + V0 = hV h) (hf : fX6_readQuery_R_b89 rc0 rc1 rc2 v3 h = some r)  : PW E p l e (rmv (8 + nn + 1) MC MS) s m args below meth c 6 uc us (MQ below (QG E (fun v u => v = some (va_rf r.1) ∧ u = r.2)) args s MC MS (pA E)) h 89 [(3, some (va_rf v3))] [] := by
  have hm1 : lez h (hX r.2) (hV r.2) := mX6_readQuery_R_b89 hgm0 hgm1 hgm2 hf
  have hcm : uc ≤ MC := (by have o0 := hm1.1; have o1 := hM; have o2 := hu; (try simp only [hX_sI, hX_sR, hX_sL, hX_sD, hX_sIa, hX_sRa, hV_sI, hV_sR, hV_sL, hV_sD, hV_sIa, hV_sRa, hX_new, hV_new] at o0 o1 o2 ⊢); omega)
  have hsm : us ≤ MS := (by have o0 := hm1.2; have o1 := hN; have o2 := hv; (try simp only [hX_sI, hX_sR, hX_sL, hX_sD, hX_sIa, hX_sRa, hV_sI, hV_sR, hV_sL, hV_sD, hV_sIa, hV_sRa, hX_new, hV_new] at o0 o1 o2 ⊢); omega)
  clear hm1
  unfold fX6_readQuery_R_b89 at hf
  refine p_aloadq_n X (dcg dc_X6_readQuery 46 rfl) rfl rfl ?_
  have er := Option.some.inj hf
  subst er
  exact p_aret X rfl (Or.inl ⟨_, rfl⟩) (dcg dc_X6_readQuery 47 rfl) ⟨rfl, rfl⟩ hcm hsm
noncomputable def fX6_readQuery_R_b82 (rc0 : (Nat → Int32 → PH → Option (Option Nat × PH))) (rc1 : (Nat → Int32 → PH → Option (Option Nat × PH))) (rc2 : (Nat → Int32 → PH → Option (Option Nat × PH))) (v0 : Nat) (v1 : Int32) (v3 : Option Nat) (v4 : Int32) (t0 : Int32) (h : PH) : Option ((Int32 × PH) ⊕ (Option Nat × PH)) :=
  some (.inl ((v4 + 1), h))
set_option maxRecDepth 100000 in
theorem mX6_readQuery_R_b82 {rc0 : (Nat → Int32 → PH → Option (Option Nat × PH))} {rc1 : (Nat → Int32 → PH → Option (Option Nat × PH))} {rc2 : (Nat → Int32 → PH → Option (Option Nat × PH))} (hgm0 : ∀ {a0 : Nat} {a1 : Int32} {h : PH} {r : (Option Nat × PH)}, rc0 a0 a1 h = some r → lez h (hX r.2) (hV r.2)) (hgm1 : ∀ {a0 : Nat} {a1 : Int32} {h : PH} {r : (Option Nat × PH)}, rc1 a0 a1 h = some r → lez h (hX r.2) (hV r.2)) (hgm2 : ∀ {a0 : Nat} {a1 : Int32} {h : PH} {r : (Option Nat × PH)}, rc2 a0 a1 h = some r → lez h (hX r.2) (hV r.2)) {v0 : Nat} {v1 : Int32} {v3 : Option Nat} {v4 : Int32} {t0 : Int32} {h : PH} {x : ((Int32 × PH) ⊕ (Option Nat × PH))} (hf : fX6_readQuery_R_b82 rc0 rc1 rc2 v0 v1 v3 v4 t0 h = some x) : (∀ w9 : (Int32 × PH), x = .inl w9 → lez h (hX (w9.2)) (hV (w9.2))) ∧ (∀ w9 : (Option Nat × PH), x = .inr w9 → lez h (hX w9.2) (hV w9.2)) := by
  unfold fX6_readQuery_R_b82 at hf
  have hle := lez_rf h
  have ee := Option.some.inj hf; subst ee
  exact ⟨(fun z e => by have ee := Sum.inl.inj (e); subst ee; exact hle), (fun z e => nomatch e)⟩
set_option maxRecDepth 100000 in
theorem wX6_readQuery_R_b82 {E : PE} {p : Program} {l : Launch} {e : Env} {s : State} {m : MethodId} {args : Array Value} {below : List Frame} {meth : Method} {c : Code} {X0 V0 MC MS uc us : Nat} {nn : Nat} (X : Cx E p l e (rmv (8 + nn + 1) MC MS) s m args below meth c RX6 cX6_readQuery 6 (some (.object "WordFinder$Node"))) (hG : Gs E l) (hnm : meth.name = yX6_readQuery.name) {rc0 : (Nat → Int32 → PH → Option (Option Nat × PH))} {rc1 : (Nat → Int32 → PH → Option (Option Nat × PH))} {rc2 : (Nat → Int32 → PH → Option (Option Nat × PH))} (hw0 : ∀ {a0 : Nat} {a1 : Int32} {h : PH} {r : (Option Nat × PH)}, rc0 a0 a1 h = some r → Ct E l (8 + nn) ((hX r.2) - hX h) ((hV r.2) - hV h) yX6_readBoth cX6_readBoth 6 (some (.object "WordFinder$Node")) [.ref a0, .int a1] h (fun v u => v = some (va_rf r.1) ∧ u = r.2)) (hw1 : ∀ {a0 : Nat} {a1 : Int32} {h : PH} {r : (Option Nat × PH)}, rc1 a0 a1 h = some r → Ct E l (8 + nn) ((hX r.2) - hX h) ((hV r.2) - hV h) yX6_readPlain cX6_readPlain 4 (some (.object "WordFinder$Node")) [.ref a0, .int a1] h (fun v u => v = some (va_rf r.1) ∧ u = r.2)) (hw2 : ∀ {a0 : Nat} {a1 : Int32} {h : PH} {r : (Option Nat × PH)}, rc2 a0 a1 h = some r → Ct E l (8 + nn) ((hX r.2) - hX h) ((hV r.2) - hV h) yX6_readQuery cX6_readQuery 6 (some (.object "WordFinder$Node")) [.ref a0, .int a1] h (fun v u => v = some (va_rf r.1) ∧ u = r.2)) (hgm0 : ∀ {a0 : Nat} {a1 : Int32} {h : PH} {r : (Option Nat × PH)}, rc0 a0 a1 h = some r → lez h (hX r.2) (hV r.2)) (hgm1 : ∀ {a0 : Nat} {a1 : Int32} {h : PH} {r : (Option Nat × PH)}, rc1 a0 a1 h = some r → lez h (hX r.2) (hV r.2)) (hgm2 : ∀ {a0 : Nat} {a1 : Int32} {h : PH} {r : (Option Nat × PH)}, rc2 a0 a1 h = some r → lez h (hX r.2) (hV r.2)) {v0 : Nat} {v1 : Int32} {v3 : Option Nat} {v4 : Int32} {t0 : Int32} {h : PH} {r : (Option Nat × PH)} {x : ((Int32 × PH) ⊕ (Option Nat × PH))} (hM : MC + X0 = (hX r.2)) (hN : MS + V0 = (hV r.2)) (hu : uc + X0 = hX h) (hv : us + V0 = hV h) (hf : fX6_readQuery_R_b82 rc0 rc1 rc2 v0 v1 v3 v4 t0 h = some x) (k0 : ∀ (z : (Int32 × PH)) (uc us : Nat), x = .inl z → uc + X0 = hX (z.2) → us + V0 = hV (z.2) → PW E p l e (rmv (8 + nn + 1) MC MS) s m args below meth c 6 uc us (MQ below (QG E (fun v u => v = some (va_rf r.1) ∧ u = r.2)) args s MC MS (pA E)) (z.2) 39 [(0, some (.ref v0)), (1, some (.int v1)), (3, some (va_rf v3)), (4, some (.int (z.1)))] []) (kl0 : ∀ z : (Int32 × PH), x = .inl z → lez (z.2) (hX r.2) (hV r.2)) (kf : ∀ z : (Option Nat × PH), x = .inr z → z = r) : PW E p l e (rmv (8 + nn + 1) MC MS) s m args below meth c 6 uc us (MQ below (QG E (fun v u => v = some (va_rf r.1) ∧ u = r.2)) args s MC MS (pA E)) h 82 [(0, some (.ref v0)), (1, some (.int v1)), (3, some (va_rf v3)), (4, some (.int v4))] [.int t0] := by
  have hm1 : lez h (hX r.2) (hV r.2) := by
    obtain ⟨c0, cf⟩ := mX6_readQuery_R_b82 hgm0 hgm1 hgm2 hf
    rcases hxx : x with zz | zz
    · exact lez_tr (c0 zz hxx) (kl0 zz hxx)
    · have ee := kf zz hxx; subst ee; exact cf zz hxx
  have hcm : uc ≤ MC := (by have o0 := hm1.1; have o1 := hM; have o2 := hu; (try simp only [hX_sI, hX_sR, hX_sL, hX_sD, hX_sIa, hX_sRa, hV_sI, hV_sR, hV_sL, hV_sD, hV_sIa, hV_sRa, hX_new, hV_new] at o0 o1 o2 ⊢); omega)
  have hsm : us ≤ MS := (by have o0 := hm1.2; have o1 := hN; have o2 := hv; (try simp only [hX_sI, hX_sR, hX_sL, hX_sD, hX_sIa, hX_sRa, hV_sI, hV_sR, hV_sL, hV_sD, hV_sIa, hV_sRa, hX_new, hV_new] at o0 o1 o2 ⊢); omega)
  clear hm1
  unfold fX6_readQuery_R_b82 at hf
  refine p_pop X (dcg dc_X6_readQuery 43 rfl) rfl ?_
  refine p_iinc (v := 1) X (dcg dc_X6_readQuery 44 rfl) rfl (by decide) (by decide) (nwq (k := 3) rfl) ?_
  refine p_goto (tgt := 39) X (dcg dc_X6_readQuery 45 rfl) (by decide) ?_
  refine p_pick [0, 1, 3, 4] ?_
  exact k0 _ _ _ (Option.some.inj hf).symm hu hv
noncomputable def fX6_readQuery_R_b64 (rc0 : (Nat → Int32 → PH → Option (Option Nat × PH))) (rc1 : (Nat → Int32 → PH → Option (Option Nat × PH))) (rc2 : (Nat → Int32 → PH → Option (Option Nat × PH))) (v0 : Nat) (v1 : Int32) (v3 : Option Nat) (v4 : Int32) (t0 : Option Nat) (h : PH) : Option ((Int32 × PH) ⊕ (Option Nat × PH)) :=
  mq t0 (mr (some ((none, h)))) (fun a21 =>
  gs v3 (fun a24 =>
  gd (hK h a24 = 4) (gs (hR h 4 a24 3) (fun a27 =>
  gd (hK h a27 = 14) (bd (fJx4a65c_add_9ea2d a27 (some a21) h) (fun z30 =>
  fX6_readQuery_R_b82 rc0 rc1 rc2 v0 v1 (some a24) v4 z30.1 z30.2))))))
set_option maxRecDepth 100000 in
theorem mX6_readQuery_R_b64 {rc0 : (Nat → Int32 → PH → Option (Option Nat × PH))} {rc1 : (Nat → Int32 → PH → Option (Option Nat × PH))} {rc2 : (Nat → Int32 → PH → Option (Option Nat × PH))} (hgm0 : ∀ {a0 : Nat} {a1 : Int32} {h : PH} {r : (Option Nat × PH)}, rc0 a0 a1 h = some r → lez h (hX r.2) (hV r.2)) (hgm1 : ∀ {a0 : Nat} {a1 : Int32} {h : PH} {r : (Option Nat × PH)}, rc1 a0 a1 h = some r → lez h (hX r.2) (hV r.2)) (hgm2 : ∀ {a0 : Nat} {a1 : Int32} {h : PH} {r : (Option Nat × PH)}, rc2 a0 a1 h = some r → lez h (hX r.2) (hV r.2)) {v0 : Nat} {v1 : Int32} {v3 : Option Nat} {v4 : Int32} {t0 : Option Nat} {h : PH} {x : ((Int32 × PH) ⊕ (Option Nat × PH))} (hf : fX6_readQuery_R_b64 rc0 rc1 rc2 v0 v1 v3 v4 t0 h = some x) : (∀ w9 : (Int32 × PH), x = .inl w9 → lez h (hX (w9.2)) (hV (w9.2))) ∧ (∀ w9 : (Option Nat × PH), x = .inr w9 → lez h (hX w9.2) (hV w9.2)) := by
  unfold fX6_readQuery_R_b64 at hf
  have hle := lez_rf h
  rcases mq_or hf with ⟨q, hf⟩ | ⟨a21, q, hf⟩
  · have hf := mq_n q hf
    obtain ⟨y22, hfm, rfl⟩ := mr_some hf; have hf := hfm; clear hfm
    have ee := Option.some.inj hf; subst ee
    exact ⟨(fun z e => nomatch e), (fun z e => by have ee := Sum.inr.inj (e); subst ee; exact hle)⟩
  · have hk31 := mq_s q hf
    first | subst q | skip
    have hf := hk31
    obtain ⟨a24, e25, hf⟩ := gs_some hf
    obtain ⟨hk26, hf⟩ := gd_some hf
    obtain ⟨a27, e28, hf⟩ := gs_some hf
    obtain ⟨hk29, hf⟩ := gd_some hf
    obtain ⟨z30, hz30, hf⟩ := bd_some hf
    have hle := lez_rt (mJx4a65c_add_9ea2d hz30) hle
    obtain ⟨c0, cf⟩ := mX6_readQuery_R_b82 hgm0 hgm1 hgm2 hf
    exact ⟨fun z e => lez_rt (c0 z (e)) hle, fun z e => lez_rt (cf z (e)) hle⟩
set_option maxRecDepth 100000 in
theorem wX6_readQuery_R_b64 {E : PE} {p : Program} {l : Launch} {e : Env} {s : State} {m : MethodId} {args : Array Value} {below : List Frame} {meth : Method} {c : Code} {X0 V0 MC MS uc us : Nat} {nn : Nat} (X : Cx E p l e (rmv (8 + nn + 1) MC MS) s m args below meth c RX6 cX6_readQuery 6 (some (.object "WordFinder$Node"))) (hG : Gs E l) (hnm : meth.name = yX6_readQuery.name) {rc0 : (Nat → Int32 → PH → Option (Option Nat × PH))} {rc1 : (Nat → Int32 → PH → Option (Option Nat × PH))} {rc2 : (Nat → Int32 → PH → Option (Option Nat × PH))} (hw0 : ∀ {a0 : Nat} {a1 : Int32} {h : PH} {r : (Option Nat × PH)}, rc0 a0 a1 h = some r → Ct E l (8 + nn) ((hX r.2) - hX h) ((hV r.2) - hV h) yX6_readBoth cX6_readBoth 6 (some (.object "WordFinder$Node")) [.ref a0, .int a1] h (fun v u => v = some (va_rf r.1) ∧ u = r.2)) (hw1 : ∀ {a0 : Nat} {a1 : Int32} {h : PH} {r : (Option Nat × PH)}, rc1 a0 a1 h = some r → Ct E l (8 + nn) ((hX r.2) - hX h) ((hV r.2) - hV h) yX6_readPlain cX6_readPlain 4 (some (.object "WordFinder$Node")) [.ref a0, .int a1] h (fun v u => v = some (va_rf r.1) ∧ u = r.2)) (hw2 : ∀ {a0 : Nat} {a1 : Int32} {h : PH} {r : (Option Nat × PH)}, rc2 a0 a1 h = some r → Ct E l (8 + nn) ((hX r.2) - hX h) ((hV r.2) - hV h) yX6_readQuery cX6_readQuery 6 (some (.object "WordFinder$Node")) [.ref a0, .int a1] h (fun v u => v = some (va_rf r.1) ∧ u = r.2)) (hgm0 : ∀ {a0 : Nat} {a1 : Int32} {h : PH} {r : (Option Nat × PH)}, rc0 a0 a1 h = some r → lez h (hX r.2) (hV r.2)) (hgm1 : ∀ {a0 : Nat} {a1 : Int32} {h : PH} {r : (Option Nat × PH)}, rc1 a0 a1 h = some r → lez h (hX r.2) (hV r.2)) (hgm2 : ∀ {a0 : Nat} {a1 : Int32} {h : PH} {r : (Option Nat × PH)}, rc2 a0 a1 h = some r → lez h (hX r.2) (hV r.2)) {v0 : Nat} {v1 : Int32} {v3 : Option Nat} {v4 : Int32} {t0 : Option Nat} {h : PH} {r : (Option Nat × PH)} {x : ((Int32 × PH) ⊕ (Option Nat × PH))} (hM : MC + X0 = (hX r.2)) (hN : MS + V0 = (hV r.2)) (hu : uc + X0 = hX h) (hv : us + V0 = hV h) (hf : fX6_readQuery_R_b64 rc0 rc1 rc2 v0 v1 v3 v4 t0 h = some x) (k0 : ∀ (z : (Int32 × PH)) (uc us : Nat), x = .inl z → uc + X0 = hX (z.2) → us + V0 = hV (z.2) → PW E p l e (rmv (8 + nn + 1) MC MS) s m args below meth c 6 uc us (MQ below (QG E (fun v u => v = some (va_rf r.1) ∧ u = r.2)) args s MC MS (pA E)) (z.2) 39 [(0, some (.ref v0)), (1, some (.int v1)), (3, some (va_rf v3)), (4, some (.int (z.1)))] []) (kl0 : ∀ z : (Int32 × PH), x = .inl z → lez (z.2) (hX r.2) (hV r.2)) (kf : ∀ z : (Option Nat × PH), x = .inr z → z = r) : PW E p l e (rmv (8 + nn + 1) MC MS) s m args below meth c 6 uc us (MQ below (QG E (fun v u => v = some (va_rf r.1) ∧ u = r.2)) args s MC MS (pA E)) h 64 [(0, some (.ref v0)), (1, some (.int v1)), (3, some (va_rf v3)), (4, some (.int v4))] [va_rf t0] := by
  have hm1 : lez h (hX r.2) (hV r.2) := by
    obtain ⟨c0, cf⟩ := mX6_readQuery_R_b64 hgm0 hgm1 hgm2 hf
    rcases hxx : x with zz | zz
    · exact lez_tr (c0 zz hxx) (kl0 zz hxx)
    · have ee := kf zz hxx; subst ee; exact cf zz hxx
  have hcm : uc ≤ MC := (by have o0 := hm1.1; have o1 := hM; have o2 := hu; (try simp only [hX_sI, hX_sR, hX_sL, hX_sD, hX_sIa, hX_sRa, hV_sI, hV_sR, hV_sL, hV_sD, hV_sIa, hV_sRa, hX_new, hV_new] at o0 o1 o2 ⊢); omega)
  have hsm : us ≤ MS := (by have o0 := hm1.2; have o1 := hN; have o2 := hv; (try simp only [hX_sI, hX_sR, hX_sL, hX_sD, hX_sIa, hX_sRa, hV_sI, hV_sR, hV_sL, hV_sD, hV_sIa, hV_sRa, hX_new, hV_new] at o0 o1 o2 ⊢); omega)
  clear hm1
  unfold fX6_readQuery_R_b64 at hf
  refine p_astoreq X (dcg dc_X6_readQuery 34 rfl) (by decide) rfl ?_
  refine p_aloadq X (dcg dc_X6_readQuery 35 rfl) rfl ?_
  refine p_ifnonnull (tgt := 73) X (dcg dc_X6_readQuery 36 rfl) (by decide) (fun a21 q => ?_) (fun q => ?_)
  · have hk31 := mq_s q hf
    first | subst q | (try rw [q])
    have hf := hk31
    refine p_aloadq_n X (dcg dc_X6_readQuery 39 rfl) rfl rfl ?_
    obtain ⟨a24, e25, hf⟩ := gs_some hf
    first | subst e25 | (try rw [e25])
    obtain ⟨hk26, hf⟩ := gd_some hf
    refine p_getRn X fl_X6_60 rfl (by decide) (dcg dc_X6_readQuery 40 rfl) hk26 ?_
    refine p_aload X (dcg dc_X6_readQuery 41 rfl) rfl ?_
    obtain ⟨a27, e28, hf⟩ := gs_some hf
    first | subst e28 | (try rw [e28])
    obtain ⟨hk29, hf⟩ := gd_some hf
    obtain ⟨z30, hz30, hf⟩ := bd_some hf
    have hc1 := mJx4a65c_add_9ea2d hz30
    obtain ⟨c0, cf⟩ := mX6_readQuery_R_b82 hgm0 hgm1 hgm2 hf
    have hm1 := (nst1 (fun zz hxx => lez_tr (c0 zz hxx) (kl0 zz hxx)) (fun zz hxx => by have ee := kf zz hxx; subst ee; exact cf zz hxx))
    refine p_callV (As := [va_rf (some _)]) X ml_X6_64 (dcg dc_X6_readQuery 42 rfl) rfl rfl hk29 (wJx4a65c_add_9ea2d hG hz30) (by omega) (room4 (Nat.le_of_ble_eq_true rfl)) (by have o0 := hm1.1; have o1 := hc1.1; have o2 := hM; have o3 := hu; (try simp only [hX_sI, hX_sR, hX_sL, hX_sD, hX_sIa, hX_sRa, hV_sI, hV_sR, hV_sL, hV_sD, hV_sIa, hV_sRa, hX_new, hV_new] at o0 o1 o2 o3 ⊢); omega) (by have o0 := hm1.2; have o1 := hc1.2; have o2 := hN; have o3 := hv; (try simp only [hX_sI, hX_sR, hX_sL, hX_sD, hX_sIa, hX_sRa, hV_sI, hV_sR, hV_sL, hV_sD, hV_sIa, hV_sRa, hX_new, hV_new] at o0 o1 o2 o3 ⊢); omega) ?_
    rintro _ u9 ⟨rfl, e9⟩; have e9 := e9.symm; subst e9
    refine p_pick [0, 1, 3, 4] ?_
    exact wX6_readQuery_R_b82 X hG hnm hw0 hw1 hw2 hgm0 hgm1 hgm2 hM hN (by have o0 := hc1.1; have o1 := hu; (try simp only [hX_sI, hX_sR, hX_sL, hX_sD, hX_sIa, hX_sRa, hV_sI, hV_sR, hV_sL, hV_sD, hV_sIa, hV_sRa, hX_new, hV_new] at o0 o1 ⊢); omega) (by have o0 := hc1.2; have o1 := hv; (try simp only [hX_sI, hX_sR, hX_sL, hX_sD, hX_sIa, hX_sRa, hV_sI, hV_sR, hV_sL, hV_sD, hV_sIa, hV_sRa, hX_new, hV_new] at o0 o1 ⊢); omega) hf k0 kl0 kf
  · have hk31 := mq_n q hf
    first | subst q | (try rw [q])
    have hf := hk31
    obtain ⟨y22, hf, hy23⟩ := mr_some hf
    have hy23f := kf y22 hy23
    subst hy23f
    refine p_null X (dcg dc_X6_readQuery 37 rfl) ?_
    have er := Option.some.inj hf
    subst er
    exact p_aret X rfl (Or.inl ⟨_, rfl⟩) (dcg dc_X6_readQuery 38 rfl) ⟨rfl, rfl⟩ hcm hsm
noncomputable def fX6_readQuery_R_c39 (rc0 : (Nat → Int32 → PH → Option (Option Nat × PH))) (rc1 : (Nat → Int32 → PH → Option (Option Nat × PH))) (rc2 : (Nat → Int32 → PH → Option (Option Nat × PH))) (v0 : Nat) (v1 : Int32) (v3 : Option Nat) (v4 : Int32) (h : PH) : Option ((Int32 × PH) ⊕ (Option Nat × PH)) :=
  if ((20 : Int32) ≤ v4) then (mr (fX6_readQuery_R_b89 rc0 rc1 rc2 v3 h)) else
  gd (hK h v0 = 6) (if (¬ (hI h 6 v0 3) = (124 : Int32)) then (mr (fX6_readQuery_R_b89 rc0 rc1 rc2 v3 h)) else
  bd (fX6_advance v0 h) (fun z18 =>
  gd (hK z18 v0 = 6) (bd (rc0 v0 v1 z18) (fun z20 =>
  fX6_readQuery_R_b64 rc0 rc1 rc2 v0 v1 v3 v4 z20.1 z20.2))))
set_option maxRecDepth 100000 in
theorem mX6_readQuery_R_c39 {rc0 : (Nat → Int32 → PH → Option (Option Nat × PH))} {rc1 : (Nat → Int32 → PH → Option (Option Nat × PH))} {rc2 : (Nat → Int32 → PH → Option (Option Nat × PH))} (hgm0 : ∀ {a0 : Nat} {a1 : Int32} {h : PH} {r : (Option Nat × PH)}, rc0 a0 a1 h = some r → lez h (hX r.2) (hV r.2)) (hgm1 : ∀ {a0 : Nat} {a1 : Int32} {h : PH} {r : (Option Nat × PH)}, rc1 a0 a1 h = some r → lez h (hX r.2) (hV r.2)) (hgm2 : ∀ {a0 : Nat} {a1 : Int32} {h : PH} {r : (Option Nat × PH)}, rc2 a0 a1 h = some r → lez h (hX r.2) (hV r.2)) {v0 : Nat} {v1 : Int32} {v3 : Option Nat} {v4 : Int32} {h : PH} {x : ((Int32 × PH) ⊕ (Option Nat × PH))} (hf : fX6_readQuery_R_c39 rc0 rc1 rc2 v0 v1 v3 v4 h = some x) : (∀ w9 : (Int32 × PH), x = .inl w9 → lez h (hX (w9.2)) (hV (w9.2))) ∧ (∀ w9 : (Option Nat × PH), x = .inr w9 → lez h (hX w9.2) (hV w9.2)) := by
  unfold fX6_readQuery_R_c39 at hf
  have hle := lez_rf h
  rcases ite_or hf with ⟨q, hf⟩ | ⟨q, hf⟩
  · have hf := if_t q hf
    obtain ⟨y13, hfm, rfl⟩ := mr_some hf; have hf := hfm; clear hfm
    have cf := mX6_readQuery_R_b89 hgm0 hgm1 hgm2 hf
    exact ⟨(fun z e => nomatch e), (fun z e => by cases e <;> exact lez_rt cf hle)⟩
  · have hf := if_f q hf
    obtain ⟨hk15, hf⟩ := gd_some hf
    rcases ite_or hf with ⟨q, hf⟩ | ⟨q, hf⟩
    · have hf := if_t q hf
      obtain ⟨y16, hfm, rfl⟩ := mr_some hf; have hf := hfm; clear hfm
      have cf := mX6_readQuery_R_b89 hgm0 hgm1 hgm2 hf
      exact ⟨(fun z e => nomatch e), (fun z e => by cases e <;> exact lez_rt cf hle)⟩
    · have hf := if_f q hf
      obtain ⟨z18, hz18, hf⟩ := bd_some hf
      have hle := lez_rt (lez_eq (mX6_advance hz18)) hle
      obtain ⟨hk19, hf⟩ := gd_some hf
      obtain ⟨z20, hz20, hf⟩ := bd_some hf
      have hle := lez_rt (hgm0 hz20) hle
      obtain ⟨c0, cf⟩ := mX6_readQuery_R_b64 hgm0 hgm1 hgm2 hf
      exact ⟨fun z e => lez_rt (c0 z (e)) hle, fun z e => lez_rt (cf z (e)) hle⟩
set_option maxRecDepth 100000 in
theorem wX6_readQuery_R_c39 {E : PE} {p : Program} {l : Launch} {e : Env} {s : State} {m : MethodId} {args : Array Value} {below : List Frame} {meth : Method} {c : Code} {X0 V0 MC MS uc us : Nat} {nn : Nat} (X : Cx E p l e (rmv (8 + nn + 1) MC MS) s m args below meth c RX6 cX6_readQuery 6 (some (.object "WordFinder$Node"))) (hG : Gs E l) (hnm : meth.name = yX6_readQuery.name) {rc0 : (Nat → Int32 → PH → Option (Option Nat × PH))} {rc1 : (Nat → Int32 → PH → Option (Option Nat × PH))} {rc2 : (Nat → Int32 → PH → Option (Option Nat × PH))} (hw0 : ∀ {a0 : Nat} {a1 : Int32} {h : PH} {r : (Option Nat × PH)}, rc0 a0 a1 h = some r → Ct E l (8 + nn) ((hX r.2) - hX h) ((hV r.2) - hV h) yX6_readBoth cX6_readBoth 6 (some (.object "WordFinder$Node")) [.ref a0, .int a1] h (fun v u => v = some (va_rf r.1) ∧ u = r.2)) (hw1 : ∀ {a0 : Nat} {a1 : Int32} {h : PH} {r : (Option Nat × PH)}, rc1 a0 a1 h = some r → Ct E l (8 + nn) ((hX r.2) - hX h) ((hV r.2) - hV h) yX6_readPlain cX6_readPlain 4 (some (.object "WordFinder$Node")) [.ref a0, .int a1] h (fun v u => v = some (va_rf r.1) ∧ u = r.2)) (hw2 : ∀ {a0 : Nat} {a1 : Int32} {h : PH} {r : (Option Nat × PH)}, rc2 a0 a1 h = some r → Ct E l (8 + nn) ((hX r.2) - hX h) ((hV r.2) - hV h) yX6_readQuery cX6_readQuery 6 (some (.object "WordFinder$Node")) [.ref a0, .int a1] h (fun v u => v = some (va_rf r.1) ∧ u = r.2)) (hgm0 : ∀ {a0 : Nat} {a1 : Int32} {h : PH} {r : (Option Nat × PH)}, rc0 a0 a1 h = some r → lez h (hX r.2) (hV r.2)) (hgm1 : ∀ {a0 : Nat} {a1 : Int32} {h : PH} {r : (Option Nat × PH)}, rc1 a0 a1 h = some r → lez h (hX r.2) (hV r.2)) (hgm2 : ∀ {a0 : Nat} {a1 : Int32} {h : PH} {r : (Option Nat × PH)}, rc2 a0 a1 h = some r → lez h (hX r.2) (hV r.2)) {v0 : Nat} {v1 : Int32} {v3 : Option Nat} {v4 : Int32} {h : PH} {r : (Option Nat × PH)} {x : ((Int32 × PH) ⊕ (Option Nat × PH))} (hM : MC + X0 = (hX r.2)) (hN : MS + V0 = (hV r.2)) (hu : uc + X0 = hX h) (hv : us + V0 = hV h) (hf : fX6_readQuery_R_c39 rc0 rc1 rc2 v0 v1 v3 v4 h = some x) (k0 : ∀ (z : (Int32 × PH)) (uc us : Nat), x = .inl z → uc + X0 = hX (z.2) → us + V0 = hV (z.2) → PW E p l e (rmv (8 + nn + 1) MC MS) s m args below meth c 6 uc us (MQ below (QG E (fun v u => v = some (va_rf r.1) ∧ u = r.2)) args s MC MS (pA E)) (z.2) 39 [(0, some (.ref v0)), (1, some (.int v1)), (3, some (va_rf v3)), (4, some (.int (z.1)))] []) (kl0 : ∀ z : (Int32 × PH), x = .inl z → lez (z.2) (hX r.2) (hV r.2)) (kf : ∀ z : (Option Nat × PH), x = .inr z → z = r) : PW E p l e (rmv (8 + nn + 1) MC MS) s m args below meth c 6 uc us (MQ below (QG E (fun v u => v = some (va_rf r.1) ∧ u = r.2)) args s MC MS (pA E)) h 39 [(0, some (.ref v0)), (1, some (.int v1)), (3, some (va_rf v3)), (4, some (.int v4))] [] := by
  have hm1 : lez h (hX r.2) (hV r.2) := by
    obtain ⟨c0, cf⟩ := mX6_readQuery_R_c39 hgm0 hgm1 hgm2 hf
    rcases hxx : x with zz | zz
    · exact lez_tr (c0 zz hxx) (kl0 zz hxx)
    · have ee := kf zz hxx; subst ee; exact cf zz hxx
  have hcm : uc ≤ MC := (by have o0 := hm1.1; have o1 := hM; have o2 := hu; (try simp only [hX_sI, hX_sR, hX_sL, hX_sD, hX_sIa, hX_sRa, hV_sI, hV_sR, hV_sL, hV_sD, hV_sIa, hV_sRa, hX_new, hV_new] at o0 o1 o2 ⊢); omega)
  have hsm : us ≤ MS := (by have o0 := hm1.2; have o1 := hN; have o2 := hv; (try simp only [hX_sI, hX_sR, hX_sL, hX_sD, hX_sIa, hX_sRa, hV_sI, hV_sR, hV_sL, hV_sD, hV_sIa, hV_sRa, hX_new, hV_new] at o0 o1 o2 ⊢); omega)
  clear hm1
  unfold fX6_readQuery_R_c39 at hf
  refine p_iload X (dcg dc_X6_readQuery 22 rfl) rfl ?_
  refine p_bipush (v := 20) X (dcg dc_X6_readQuery 23 rfl) (by decide) ?_
  refine p_icmp_ge (tgt := 89) X (dcg dc_X6_readQuery 24 rfl) (by decide) (fun q => ?_) (fun q => ?_)
  · have hf := if_t q hf
    obtain ⟨y13, hf, hy14⟩ := mr_some hf
    have hy14f := kf y13 hy14
    subst hy14f
    refine p_pick [3] ?_
    exact wX6_readQuery_R_b89 X hG hnm hw0 hw1 hw2 hgm0 hgm1 hgm2 hM hN hu hv hf 
  · have hf := if_f q hf
    refine p_aload_n X (dcg dc_X6_readQuery 25 rfl) rfl rfl ?_
    obtain ⟨hk15, hf⟩ := gd_some hf
    refine p_getI X fl_X6_36 rfl (by decide) (dcg dc_X6_readQuery 26 rfl) hk15 ?_
    refine p_bipush (v := 124) X (dcg dc_X6_readQuery 27 rfl) (by decide) ?_
    refine p_icmp_ne (tgt := 89) X (dcg dc_X6_readQuery 28 rfl) (by decide) (fun q => ?_) (fun q => ?_)
    · have hf := if_t q hf
      obtain ⟨y16, hf, hy17⟩ := mr_some hf
      have hy17f := kf y16 hy17
      subst hy17f
      refine p_pick [3] ?_
      exact wX6_readQuery_R_b89 X hG hnm hw0 hw1 hw2 hgm0 hgm1 hgm2 hM hN hu hv hf 
    · have hf := if_f q hf
      refine p_aload_n X (dcg dc_X6_readQuery 29 rfl) rfl rfl ?_
      obtain ⟨z18, hz18, hf⟩ := bd_some hf
      refine p_callV (As := []) X ml_X6_29 (dcg dc_X6_readQuery 30 rfl) rfl rfl hk15 (wX6_advance hG hz18) (by omega) (room4 (Nat.le_of_ble_eq_true rfl)) hcm hsm ?_
      rintro _ u9 ⟨rfl, e9⟩; have e9 := e9.symm; subst e9
      have hu := hu.trans (mX6_advance hz18).1
      have hv := hv.trans (mX6_advance hz18).2
      refine p_aload_n X (dcg dc_X6_readQuery 31 rfl) rfl rfl ?_
      refine p_iload_n X (dcg dc_X6_readQuery 32 rfl) rfl rfl ?_
      obtain ⟨hk19, hf⟩ := gd_some hf
      obtain ⟨z20, hz20, hf⟩ := bd_some hf
      have hc1 := hgm0 hz20
      obtain ⟨c0, cf⟩ := mX6_readQuery_R_b64 hgm0 hgm1 hgm2 hf
      have hm1 := (nst1 (fun zz hxx => lez_tr (c0 zz hxx) (kl0 zz hxx)) (fun zz hxx => by have ee := kf zz hxx; subst ee; exact cf zz hxx))
      refine p_callV (As := [_]) X ml_X6_52 (dcg dc_X6_readQuery 33 rfl) rfl rfl hk19 (hw0 hz20) (by omega) (room4 (Nat.le_of_ble_eq_true rfl)) (by have o0 := hm1.1; have o1 := hc1.1; have o2 := hM; have o3 := hu; (try simp only [hX_sI, hX_sR, hX_sL, hX_sD, hX_sIa, hX_sRa, hV_sI, hV_sR, hV_sL, hV_sD, hV_sIa, hV_sRa, hX_new, hV_new] at o0 o1 o2 o3 ⊢); omega) (by have o0 := hm1.2; have o1 := hc1.2; have o2 := hN; have o3 := hv; (try simp only [hX_sI, hX_sR, hX_sL, hX_sD, hX_sIa, hX_sRa, hV_sI, hV_sR, hV_sL, hV_sD, hV_sIa, hV_sRa, hX_new, hV_new] at o0 o1 o2 o3 ⊢); omega) ?_
      rintro _ u9 ⟨rfl, e9⟩; have e9 := e9.symm; subst e9
      refine p_pick [0, 1, 3, 4] ?_
      exact wX6_readQuery_R_b64 X hG hnm hw0 hw1 hw2 hgm0 hgm1 hgm2 hM hN (by have o0 := hc1.1; have o1 := hu; (try simp only [hX_sI, hX_sR, hX_sL, hX_sD, hX_sIa, hX_sRa, hV_sI, hV_sR, hV_sL, hV_sD, hV_sIa, hV_sRa, hX_new, hV_new] at o0 o1 ⊢); omega) (by have o0 := hc1.2; have o1 := hv; (try simp only [hX_sI, hX_sR, hX_sL, hX_sD, hX_sIa, hX_sRa, hV_sI, hV_sR, hV_sL, hV_sD, hV_sIa, hV_sRa, hX_new, hV_new] at o0 o1 ⊢); omega) hf k0 kl0 kf
noncomputable def fX6_readQuery_R_l39 (rc0 : (Nat → Int32 → PH → Option (Option Nat × PH))) (rc1 : (Nat → Int32 → PH → Option (Option Nat × PH))) (rc2 : (Nat → Int32 → PH → Option (Option Nat × PH))) (v0 : Nat) (v1 : Int32) (v3 : Option Nat) (v4 : Int32) (h : PH) : Option (Option Nat × PH) := wh (fun z : (Int32 × PH) => fX6_readQuery_R_c39 rc0 rc1 rc2 v0 v1 v3 (z.1) (z.2)) (v4, h)
set_option maxRecDepth 100000 in
theorem mX6_readQuery_R_l39 {rc0 : (Nat → Int32 → PH → Option (Option Nat × PH))} {rc1 : (Nat → Int32 → PH → Option (Option Nat × PH))} {rc2 : (Nat → Int32 → PH → Option (Option Nat × PH))} (hgm0 : ∀ {a0 : Nat} {a1 : Int32} {h : PH} {r : (Option Nat × PH)}, rc0 a0 a1 h = some r → lez h (hX r.2) (hV r.2)) (hgm1 : ∀ {a0 : Nat} {a1 : Int32} {h : PH} {r : (Option Nat × PH)}, rc1 a0 a1 h = some r → lez h (hX r.2) (hV r.2)) (hgm2 : ∀ {a0 : Nat} {a1 : Int32} {h : PH} {r : (Option Nat × PH)}, rc2 a0 a1 h = some r → lez h (hX r.2) (hV r.2)) {v0 : Nat} {v1 : Int32} {v3 : Option Nat} {v4 : Int32} {h : PH} {r : (Option Nat × PH)} (hf : fX6_readQuery_R_l39 rc0 rc1 rc2 v0 v1 v3 v4 h = some r) : lez h (hX r.2) (hV r.2) := by
  unfold fX6_readQuery_R_l39 at hf
  refine wh_ind (P := fun z => lez (z.2) (hX r.2) (hV r.2)) (fun z x0 hs i1 i2 => ?_) _ hf
  obtain ⟨c0, cf⟩ := mX6_readQuery_R_c39 (v0 := v0) (v1 := v1) (v3 := v3) (v4 := z.1) (h := z.2) hgm0 hgm1 hgm2 hs
  rcases hxx : x0 with zz | zz
  · exact lez_tr (c0 zz hxx) (i1 zz hxx)
  · have ee := i2 zz hxx; subst ee; exact cf zz hxx
set_option maxRecDepth 100000 in
theorem wX6_readQuery_R_l39 {E : PE} {p : Program} {l : Launch} {e : Env} {s : State} {m : MethodId} {args : Array Value} {below : List Frame} {meth : Method} {c : Code} {X0 V0 MC MS uc us : Nat} {nn : Nat} (X : Cx E p l e (rmv (8 + nn + 1) MC MS) s m args below meth c RX6 cX6_readQuery 6 (some (.object "WordFinder$Node"))) (hG : Gs E l) (hnm : meth.name = yX6_readQuery.name) {rc0 : (Nat → Int32 → PH → Option (Option Nat × PH))} {rc1 : (Nat → Int32 → PH → Option (Option Nat × PH))} {rc2 : (Nat → Int32 → PH → Option (Option Nat × PH))} (hw0 : ∀ {a0 : Nat} {a1 : Int32} {h : PH} {r : (Option Nat × PH)}, rc0 a0 a1 h = some r → Ct E l (8 + nn) ((hX r.2) - hX h) ((hV r.2) - hV h) yX6_readBoth cX6_readBoth 6 (some (.object "WordFinder$Node")) [.ref a0, .int a1] h (fun v u => v = some (va_rf r.1) ∧ u = r.2)) (hw1 : ∀ {a0 : Nat} {a1 : Int32} {h : PH} {r : (Option Nat × PH)}, rc1 a0 a1 h = some r → Ct E l (8 + nn) ((hX r.2) - hX h) ((hV r.2) - hV h) yX6_readPlain cX6_readPlain 4 (some (.object "WordFinder$Node")) [.ref a0, .int a1] h (fun v u => v = some (va_rf r.1) ∧ u = r.2)) (hw2 : ∀ {a0 : Nat} {a1 : Int32} {h : PH} {r : (Option Nat × PH)}, rc2 a0 a1 h = some r → Ct E l (8 + nn) ((hX r.2) - hX h) ((hV r.2) - hV h) yX6_readQuery cX6_readQuery 6 (some (.object "WordFinder$Node")) [.ref a0, .int a1] h (fun v u => v = some (va_rf r.1) ∧ u = r.2)) (hgm0 : ∀ {a0 : Nat} {a1 : Int32} {h : PH} {r : (Option Nat × PH)}, rc0 a0 a1 h = some r → lez h (hX r.2) (hV r.2)) (hgm1 : ∀ {a0 : Nat} {a1 : Int32} {h : PH} {r : (Option Nat × PH)}, rc1 a0 a1 h = some r → lez h (hX r.2) (hV r.2)) (hgm2 : ∀ {a0 : Nat} {a1 : Int32} {h : PH} {r : (Option Nat × PH)}, rc2 a0 a1 h = some r → lez h (hX r.2) (hV r.2)) {v0 : Nat} {v1 : Int32} {v3 : Option Nat} {v4 : Int32} {h : PH} {r : (Option Nat × PH)} (hM : MC + X0 = (hX r.2)) (hN : MS + V0 = (hV r.2)) (hu : uc + X0 = hX h) (hv : us + V0 = hV h) (hf : fX6_readQuery_R_l39 rc0 rc1 rc2 v0 v1 v3 v4 h = some r)  : PW E p l e (rmv (8 + nn + 1) MC MS) s m args below meth c 6 uc us (MQ below (QG E (fun v u => v = some (va_rf r.1) ∧ u = r.2)) args s MC MS (pA E)) h 39 [(0, some (.ref v0)), (1, some (.int v1)), (3, some (va_rf v3)), (4, some (.int v4))] [] := by
  unfold fX6_readQuery_R_l39 at hf
  refine wh_ind2 (P := fun z => ∀ uc us : Nat, uc + X0 = hX (z.2) → us + V0 = hV (z.2) → PW E p l e (rmv (8 + nn + 1) MC MS) s m args below meth c 6 uc us (MQ below (QG E (fun v u => v = some (va_rf r.1) ∧ u = r.2)) args s MC MS (pA E)) (z.2) 39 [(0, some (.ref v0)), (1, some (.int v1)), (3, some (va_rf v3)), (4, some (.int (z.1)))] []) (fun z x0 hs i1 i2 uc us hu hv => ?_) _ hf uc us hu hv
  exact wX6_readQuery_R_c39 (r := r) (v0 := v0) (v1 := v1) (v3 := v3) (v4 := z.1) (h := z.2) X hG hnm hw0 hw1 hw2 hgm0 hgm1 hgm2 hM hN hu hv hs (fun z1 uc1 us1 e1 e2 e3 => (i1 z1 e1).1 uc1 us1 e2 e3) (fun z1 e1 => mX6_readQuery_R_l39 (v0 := v0) (v1 := v1) (v3 := v3) (v4 := z1.1) (h := z1.2) hgm0 hgm1 hgm2 (by unfold fX6_readQuery_R_l39; exact (i1 z1 e1).2))  i2
noncomputable def fX6_readQuery_R_b35 (rc0 : (Nat → Int32 → PH → Option (Option Nat × PH))) (rc1 : (Nat → Int32 → PH → Option (Option Nat × PH))) (rc2 : (Nat → Int32 → PH → Option (Option Nat × PH))) (v0 : Nat) (v1 : Int32) (v3 : Option Nat) (t0 : Int32) (h : PH) : Option (Option Nat × PH) :=
  fX6_readQuery_R_l39 rc0 rc1 rc2 v0 v1 v3 (0 : Int32) h
set_option maxRecDepth 100000 in
theorem mX6_readQuery_R_b35 {rc0 : (Nat → Int32 → PH → Option (Option Nat × PH))} {rc1 : (Nat → Int32 → PH → Option (Option Nat × PH))} {rc2 : (Nat → Int32 → PH → Option (Option Nat × PH))} (hgm0 : ∀ {a0 : Nat} {a1 : Int32} {h : PH} {r : (Option Nat × PH)}, rc0 a0 a1 h = some r → lez h (hX r.2) (hV r.2)) (hgm1 : ∀ {a0 : Nat} {a1 : Int32} {h : PH} {r : (Option Nat × PH)}, rc1 a0 a1 h = some r → lez h (hX r.2) (hV r.2)) (hgm2 : ∀ {a0 : Nat} {a1 : Int32} {h : PH} {r : (Option Nat × PH)}, rc2 a0 a1 h = some r → lez h (hX r.2) (hV r.2)) {v0 : Nat} {v1 : Int32} {v3 : Option Nat} {t0 : Int32} {h : PH} {r : (Option Nat × PH)} (hf : fX6_readQuery_R_b35 rc0 rc1 rc2 v0 v1 v3 t0 h = some r) : lez h (hX r.2) (hV r.2) := by
  unfold fX6_readQuery_R_b35 at hf
  have hle := lez_rf h
  exact lez_rt (mX6_readQuery_R_l39 hgm0 hgm1 hgm2 hf) hle
set_option maxRecDepth 100000 in
theorem wX6_readQuery_R_b35 {E : PE} {p : Program} {l : Launch} {e : Env} {s : State} {m : MethodId} {args : Array Value} {below : List Frame} {meth : Method} {c : Code} {X0 V0 MC MS uc us : Nat} {nn : Nat} (X : Cx E p l e (rmv (8 + nn + 1) MC MS) s m args below meth c RX6 cX6_readQuery 6 (some (.object "WordFinder$Node"))) (hG : Gs E l) (hnm : meth.name = yX6_readQuery.name) {rc0 : (Nat → Int32 → PH → Option (Option Nat × PH))} {rc1 : (Nat → Int32 → PH → Option (Option Nat × PH))} {rc2 : (Nat → Int32 → PH → Option (Option Nat × PH))} (hw0 : ∀ {a0 : Nat} {a1 : Int32} {h : PH} {r : (Option Nat × PH)}, rc0 a0 a1 h = some r → Ct E l (8 + nn) ((hX r.2) - hX h) ((hV r.2) - hV h) yX6_readBoth cX6_readBoth 6 (some (.object "WordFinder$Node")) [.ref a0, .int a1] h (fun v u => v = some (va_rf r.1) ∧ u = r.2)) (hw1 : ∀ {a0 : Nat} {a1 : Int32} {h : PH} {r : (Option Nat × PH)}, rc1 a0 a1 h = some r → Ct E l (8 + nn) ((hX r.2) - hX h) ((hV r.2) - hV h) yX6_readPlain cX6_readPlain 4 (some (.object "WordFinder$Node")) [.ref a0, .int a1] h (fun v u => v = some (va_rf r.1) ∧ u = r.2)) (hw2 : ∀ {a0 : Nat} {a1 : Int32} {h : PH} {r : (Option Nat × PH)}, rc2 a0 a1 h = some r → Ct E l (8 + nn) ((hX r.2) - hX h) ((hV r.2) - hV h) yX6_readQuery cX6_readQuery 6 (some (.object "WordFinder$Node")) [.ref a0, .int a1] h (fun v u => v = some (va_rf r.1) ∧ u = r.2)) (hgm0 : ∀ {a0 : Nat} {a1 : Int32} {h : PH} {r : (Option Nat × PH)}, rc0 a0 a1 h = some r → lez h (hX r.2) (hV r.2)) (hgm1 : ∀ {a0 : Nat} {a1 : Int32} {h : PH} {r : (Option Nat × PH)}, rc1 a0 a1 h = some r → lez h (hX r.2) (hV r.2)) (hgm2 : ∀ {a0 : Nat} {a1 : Int32} {h : PH} {r : (Option Nat × PH)}, rc2 a0 a1 h = some r → lez h (hX r.2) (hV r.2)) {v0 : Nat} {v1 : Int32} {v3 : Option Nat} {t0 : Int32} {h : PH} {r : (Option Nat × PH)} (hM : MC + X0 = (hX r.2)) (hN : MS + V0 = (hV r.2)) (hu : uc + X0 = hX h) (hv : us + V0 = hV h) (hf : fX6_readQuery_R_b35 rc0 rc1 rc2 v0 v1 v3 t0 h = some r)  : PW E p l e (rmv (8 + nn + 1) MC MS) s m args below meth c 6 uc us (MQ below (QG E (fun v u => v = some (va_rf r.1) ∧ u = r.2)) args s MC MS (pA E)) h 35 [(0, some (.ref v0)), (1, some (.int v1)), (3, some (va_rf v3))] [.int t0] := by
  have hm1 : lez h (hX r.2) (hV r.2) := mX6_readQuery_R_b35 hgm0 hgm1 hgm2 hf
  have hcm : uc ≤ MC := (by have o0 := hm1.1; have o1 := hM; have o2 := hu; (try simp only [hX_sI, hX_sR, hX_sL, hX_sD, hX_sIa, hX_sRa, hV_sI, hV_sR, hV_sL, hV_sD, hV_sIa, hV_sRa, hX_new, hV_new] at o0 o1 o2 ⊢); omega)
  have hsm : us ≤ MS := (by have o0 := hm1.2; have o1 := hN; have o2 := hv; (try simp only [hX_sI, hX_sR, hX_sL, hX_sD, hX_sIa, hX_sRa, hV_sI, hV_sR, hV_sL, hV_sD, hV_sIa, hV_sRa, hX_new, hV_new] at o0 o1 o2 ⊢); omega)
  clear hm1
  unfold fX6_readQuery_R_b35 at hf
  refine p_pop X (dcg dc_X6_readQuery 19 rfl) rfl ?_
  refine p_iconst (v := 0) X (dcg dc_X6_readQuery 20 rfl) (by decide) ?_
  refine p_istore X (dcg dc_X6_readQuery 21 rfl) (by decide) (nwq (k := 3) rfl) ?_
  refine p_pick [0, 1, 3, 4] ?_
  exact wX6_readQuery_R_l39 X hG hnm hw0 hw1 hw2 hgm0 hgm1 hgm2 hM hN hu hv hf 
noncomputable def fX6_readQuery_R_b26 (rc0 : (Nat → Int32 → PH → Option (Option Nat × PH))) (rc1 : (Nat → Int32 → PH → Option (Option Nat × PH))) (rc2 : (Nat → Int32 → PH → Option (Option Nat × PH))) (v0 : Nat) (v1 : Int32) (v2 : Option Nat) (t0 : Option Nat) (h : PH) : Option (Option Nat × PH) :=
  gs t0 (fun a6 =>
  gd (hK h a6 = 4) (gs (hR h 4 a6 3) (fun a9 =>
  gd (hK h a9 = 14) (bd (fJx4a65c_add_9ea2d a9 v2 h) (fun z12 =>
  fX6_readQuery_R_b35 rc0 rc1 rc2 v0 v1 (some a6) z12.1 z12.2)))))
set_option maxRecDepth 100000 in
theorem mX6_readQuery_R_b26 {rc0 : (Nat → Int32 → PH → Option (Option Nat × PH))} {rc1 : (Nat → Int32 → PH → Option (Option Nat × PH))} {rc2 : (Nat → Int32 → PH → Option (Option Nat × PH))} (hgm0 : ∀ {a0 : Nat} {a1 : Int32} {h : PH} {r : (Option Nat × PH)}, rc0 a0 a1 h = some r → lez h (hX r.2) (hV r.2)) (hgm1 : ∀ {a0 : Nat} {a1 : Int32} {h : PH} {r : (Option Nat × PH)}, rc1 a0 a1 h = some r → lez h (hX r.2) (hV r.2)) (hgm2 : ∀ {a0 : Nat} {a1 : Int32} {h : PH} {r : (Option Nat × PH)}, rc2 a0 a1 h = some r → lez h (hX r.2) (hV r.2)) {v0 : Nat} {v1 : Int32} {v2 : Option Nat} {t0 : Option Nat} {h : PH} {r : (Option Nat × PH)} (hf : fX6_readQuery_R_b26 rc0 rc1 rc2 v0 v1 v2 t0 h = some r) : lez h (hX r.2) (hV r.2) := by
  unfold fX6_readQuery_R_b26 at hf
  have hle := lez_rf h
  obtain ⟨a6, e7, hf⟩ := gs_some hf
  obtain ⟨hk8, hf⟩ := gd_some hf
  obtain ⟨a9, e10, hf⟩ := gs_some hf
  obtain ⟨hk11, hf⟩ := gd_some hf
  obtain ⟨z12, hz12, hf⟩ := bd_some hf
  have hle := lez_rt (mJx4a65c_add_9ea2d hz12) hle
  exact lez_rt (mX6_readQuery_R_b35 hgm0 hgm1 hgm2 hf) hle
set_option maxRecDepth 100000 in
theorem wX6_readQuery_R_b26 {E : PE} {p : Program} {l : Launch} {e : Env} {s : State} {m : MethodId} {args : Array Value} {below : List Frame} {meth : Method} {c : Code} {X0 V0 MC MS uc us : Nat} {nn : Nat} (X : Cx E p l e (rmv (8 + nn + 1) MC MS) s m args below meth c RX6 cX6_readQuery 6 (some (.object "WordFinder$Node"))) (hG : Gs E l) (hnm : meth.name = yX6_readQuery.name) {rc0 : (Nat → Int32 → PH → Option (Option Nat × PH))} {rc1 : (Nat → Int32 → PH → Option (Option Nat × PH))} {rc2 : (Nat → Int32 → PH → Option (Option Nat × PH))} (hw0 : ∀ {a0 : Nat} {a1 : Int32} {h : PH} {r : (Option Nat × PH)}, rc0 a0 a1 h = some r → Ct E l (8 + nn) ((hX r.2) - hX h) ((hV r.2) - hV h) yX6_readBoth cX6_readBoth 6 (some (.object "WordFinder$Node")) [.ref a0, .int a1] h (fun v u => v = some (va_rf r.1) ∧ u = r.2)) (hw1 : ∀ {a0 : Nat} {a1 : Int32} {h : PH} {r : (Option Nat × PH)}, rc1 a0 a1 h = some r → Ct E l (8 + nn) ((hX r.2) - hX h) ((hV r.2) - hV h) yX6_readPlain cX6_readPlain 4 (some (.object "WordFinder$Node")) [.ref a0, .int a1] h (fun v u => v = some (va_rf r.1) ∧ u = r.2)) (hw2 : ∀ {a0 : Nat} {a1 : Int32} {h : PH} {r : (Option Nat × PH)}, rc2 a0 a1 h = some r → Ct E l (8 + nn) ((hX r.2) - hX h) ((hV r.2) - hV h) yX6_readQuery cX6_readQuery 6 (some (.object "WordFinder$Node")) [.ref a0, .int a1] h (fun v u => v = some (va_rf r.1) ∧ u = r.2)) (hgm0 : ∀ {a0 : Nat} {a1 : Int32} {h : PH} {r : (Option Nat × PH)}, rc0 a0 a1 h = some r → lez h (hX r.2) (hV r.2)) (hgm1 : ∀ {a0 : Nat} {a1 : Int32} {h : PH} {r : (Option Nat × PH)}, rc1 a0 a1 h = some r → lez h (hX r.2) (hV r.2)) (hgm2 : ∀ {a0 : Nat} {a1 : Int32} {h : PH} {r : (Option Nat × PH)}, rc2 a0 a1 h = some r → lez h (hX r.2) (hV r.2)) {v0 : Nat} {v1 : Int32} {v2 : Option Nat} {t0 : Option Nat} {h : PH} {r : (Option Nat × PH)} (hM : MC + X0 = (hX r.2)) (hN : MS + V0 = (hV r.2)) (hu : uc + X0 = hX h) (hv : us + V0 = hV h) (hf : fX6_readQuery_R_b26 rc0 rc1 rc2 v0 v1 v2 t0 h = some r)  : PW E p l e (rmv (8 + nn + 1) MC MS) s m args below meth c 6 uc us (MQ below (QG E (fun v u => v = some (va_rf r.1) ∧ u = r.2)) args s MC MS (pA E)) h 26 [(0, some (.ref v0)), (1, some (.int v1)), (2, some (va_rf v2))] [va_rf t0] := by
  have hm1 : lez h (hX r.2) (hV r.2) := mX6_readQuery_R_b26 hgm0 hgm1 hgm2 hf
  have hcm : uc ≤ MC := (by have o0 := hm1.1; have o1 := hM; have o2 := hu; (try simp only [hX_sI, hX_sR, hX_sL, hX_sD, hX_sIa, hX_sRa, hV_sI, hV_sR, hV_sL, hV_sD, hV_sIa, hV_sRa, hX_new, hV_new] at o0 o1 o2 ⊢); omega)
  have hsm : us ≤ MS := (by have o0 := hm1.2; have o1 := hN; have o2 := hv; (try simp only [hX_sI, hX_sR, hX_sL, hX_sD, hX_sIa, hX_sRa, hV_sI, hV_sR, hV_sL, hV_sD, hV_sIa, hV_sRa, hX_new, hV_new] at o0 o1 o2 ⊢); omega)
  clear hm1
  unfold fX6_readQuery_R_b26 at hf
  refine p_astoreq_n X (dcg dc_X6_readQuery 14 rfl) rfl (by decide) (nwq (k := 2) rfl) ?_
  refine p_aloadq_n X (dcg dc_X6_readQuery 15 rfl) rfl rfl ?_
  obtain ⟨a6, e7, hf⟩ := gs_some hf
  first | subst e7 | (try rw [e7])
  obtain ⟨hk8, hf⟩ := gd_some hf
  refine p_getRn X fl_X6_60 rfl (by decide) (dcg dc_X6_readQuery 16 rfl) hk8 ?_
  refine p_aloadq_n X (dcg dc_X6_readQuery 17 rfl) rfl rfl ?_
  obtain ⟨a9, e10, hf⟩ := gs_some hf
  first | subst e10 | (try rw [e10])
  obtain ⟨hk11, hf⟩ := gd_some hf
  obtain ⟨z12, hz12, hf⟩ := bd_some hf
  have hc1 := mJx4a65c_add_9ea2d hz12
  have hm1 : lez _ (hX r.2) (hV r.2) := mX6_readQuery_R_b35 hgm0 hgm1 hgm2 hf
  refine p_callV (As := [va_rf _]) X ml_X6_64 (dcg dc_X6_readQuery 18 rfl) rfl rfl hk11 (wJx4a65c_add_9ea2d hG hz12) (by omega) (room4 (Nat.le_of_ble_eq_true rfl)) (by have o0 := hm1.1; have o1 := hc1.1; have o2 := hM; have o3 := hu; (try simp only [hX_sI, hX_sR, hX_sL, hX_sD, hX_sIa, hX_sRa, hV_sI, hV_sR, hV_sL, hV_sD, hV_sIa, hV_sRa, hX_new, hV_new] at o0 o1 o2 o3 ⊢); omega) (by have o0 := hm1.2; have o1 := hc1.2; have o2 := hN; have o3 := hv; (try simp only [hX_sI, hX_sR, hX_sL, hX_sD, hX_sIa, hX_sRa, hV_sI, hV_sR, hV_sL, hV_sD, hV_sIa, hV_sRa, hX_new, hV_new] at o0 o1 o2 o3 ⊢); omega) ?_
  rintro _ u9 ⟨rfl, e9⟩; have e9 := e9.symm; subst e9
  refine p_pick [0, 1, 3] ?_
  exact wX6_readQuery_R_b35 X hG hnm hw0 hw1 hw2 hgm0 hgm1 hgm2 hM hN (by have o0 := hc1.1; have o1 := hu; (try simp only [hX_sI, hX_sR, hX_sL, hX_sD, hX_sIa, hX_sRa, hV_sI, hV_sR, hV_sL, hV_sD, hV_sIa, hV_sRa, hX_new, hV_new] at o0 o1 ⊢); omega) (by have o0 := hc1.2; have o1 := hv; (try simp only [hX_sI, hX_sR, hX_sL, hX_sD, hX_sIa, hX_sRa, hV_sI, hV_sR, hV_sL, hV_sD, hV_sIa, hV_sRa, hX_new, hV_new] at o0 o1 ⊢); omega) hf 
noncomputable def fX6_readQuery_R_b5 (rc0 : (Nat → Int32 → PH → Option (Option Nat × PH))) (rc1 : (Nat → Int32 → PH → Option (Option Nat × PH))) (rc2 : (Nat → Int32 → PH → Option (Option Nat × PH))) (v0 : Nat) (v1 : Int32) (t0 : Option Nat) (h : PH) : Option (Option Nat × PH) :=
  mq t0 (fX6_readQuery_R_b19 rc0 rc1 rc2 t0 h) (fun a3 =>
  gd (hK h v0 = 6) (if ((hI h 6 v0 3) = (124 : Int32)) then (bd (fX4_joined (6 : Int32) h) (fun z5 =>
  fX6_readQuery_R_b26 rc0 rc1 rc2 v0 v1 (some a3) z5.1 z5.2)) else
  fX6_readQuery_R_b19 rc0 rc1 rc2 (some a3) h))
set_option maxRecDepth 100000 in
theorem mX6_readQuery_R_b5 {rc0 : (Nat → Int32 → PH → Option (Option Nat × PH))} {rc1 : (Nat → Int32 → PH → Option (Option Nat × PH))} {rc2 : (Nat → Int32 → PH → Option (Option Nat × PH))} (hgm0 : ∀ {a0 : Nat} {a1 : Int32} {h : PH} {r : (Option Nat × PH)}, rc0 a0 a1 h = some r → lez h (hX r.2) (hV r.2)) (hgm1 : ∀ {a0 : Nat} {a1 : Int32} {h : PH} {r : (Option Nat × PH)}, rc1 a0 a1 h = some r → lez h (hX r.2) (hV r.2)) (hgm2 : ∀ {a0 : Nat} {a1 : Int32} {h : PH} {r : (Option Nat × PH)}, rc2 a0 a1 h = some r → lez h (hX r.2) (hV r.2)) {v0 : Nat} {v1 : Int32} {t0 : Option Nat} {h : PH} {r : (Option Nat × PH)} (hf : fX6_readQuery_R_b5 rc0 rc1 rc2 v0 v1 t0 h = some r) : lez h (hX r.2) (hV r.2) := by
  unfold fX6_readQuery_R_b5 at hf
  have hle := lez_rf h
  rcases mq_or hf with ⟨q, hf⟩ | ⟨a3, q, hf⟩
  · have hf := mq_n q hf
    exact lez_rt (mX6_readQuery_R_b19 hgm0 hgm1 hgm2 hf) hle
  · have hk32 := mq_s q hf
    first | subst q | skip
    have hf := hk32
    obtain ⟨hk4, hf⟩ := gd_some hf
    rcases ite_or hf with ⟨q, hf⟩ | ⟨q, hf⟩
    · have hf := if_t q hf
      obtain ⟨z5, hz5, hf⟩ := bd_some hf
      have hle := lez_rt (mX4_joined hz5) hle
      exact lez_rt (mX6_readQuery_R_b26 hgm0 hgm1 hgm2 hf) hle
    · have hf := if_f q hf
      exact lez_rt (mX6_readQuery_R_b19 hgm0 hgm1 hgm2 hf) hle
set_option maxRecDepth 100000 in
theorem wX6_readQuery_R_b5 {E : PE} {p : Program} {l : Launch} {e : Env} {s : State} {m : MethodId} {args : Array Value} {below : List Frame} {meth : Method} {c : Code} {X0 V0 MC MS uc us : Nat} {nn : Nat} (X : Cx E p l e (rmv (8 + nn + 1) MC MS) s m args below meth c RX6 cX6_readQuery 6 (some (.object "WordFinder$Node"))) (hG : Gs E l) (hnm : meth.name = yX6_readQuery.name) {rc0 : (Nat → Int32 → PH → Option (Option Nat × PH))} {rc1 : (Nat → Int32 → PH → Option (Option Nat × PH))} {rc2 : (Nat → Int32 → PH → Option (Option Nat × PH))} (hw0 : ∀ {a0 : Nat} {a1 : Int32} {h : PH} {r : (Option Nat × PH)}, rc0 a0 a1 h = some r → Ct E l (8 + nn) ((hX r.2) - hX h) ((hV r.2) - hV h) yX6_readBoth cX6_readBoth 6 (some (.object "WordFinder$Node")) [.ref a0, .int a1] h (fun v u => v = some (va_rf r.1) ∧ u = r.2)) (hw1 : ∀ {a0 : Nat} {a1 : Int32} {h : PH} {r : (Option Nat × PH)}, rc1 a0 a1 h = some r → Ct E l (8 + nn) ((hX r.2) - hX h) ((hV r.2) - hV h) yX6_readPlain cX6_readPlain 4 (some (.object "WordFinder$Node")) [.ref a0, .int a1] h (fun v u => v = some (va_rf r.1) ∧ u = r.2)) (hw2 : ∀ {a0 : Nat} {a1 : Int32} {h : PH} {r : (Option Nat × PH)}, rc2 a0 a1 h = some r → Ct E l (8 + nn) ((hX r.2) - hX h) ((hV r.2) - hV h) yX6_readQuery cX6_readQuery 6 (some (.object "WordFinder$Node")) [.ref a0, .int a1] h (fun v u => v = some (va_rf r.1) ∧ u = r.2)) (hgm0 : ∀ {a0 : Nat} {a1 : Int32} {h : PH} {r : (Option Nat × PH)}, rc0 a0 a1 h = some r → lez h (hX r.2) (hV r.2)) (hgm1 : ∀ {a0 : Nat} {a1 : Int32} {h : PH} {r : (Option Nat × PH)}, rc1 a0 a1 h = some r → lez h (hX r.2) (hV r.2)) (hgm2 : ∀ {a0 : Nat} {a1 : Int32} {h : PH} {r : (Option Nat × PH)}, rc2 a0 a1 h = some r → lez h (hX r.2) (hV r.2)) {v0 : Nat} {v1 : Int32} {t0 : Option Nat} {h : PH} {r : (Option Nat × PH)} (hM : MC + X0 = (hX r.2)) (hN : MS + V0 = (hV r.2)) (hu : uc + X0 = hX h) (hv : us + V0 = hV h) (hf : fX6_readQuery_R_b5 rc0 rc1 rc2 v0 v1 t0 h = some r)  : PW E p l e (rmv (8 + nn + 1) MC MS) s m args below meth c 6 uc us (MQ below (QG E (fun v u => v = some (va_rf r.1) ∧ u = r.2)) args s MC MS (pA E)) h 5 [(0, some (.ref v0)), (1, some (.int v1))] [va_rf t0] := by
  have hm1 : lez h (hX r.2) (hV r.2) := mX6_readQuery_R_b5 hgm0 hgm1 hgm2 hf
  have hcm : uc ≤ MC := (by have o0 := hm1.1; have o1 := hM; have o2 := hu; (try simp only [hX_sI, hX_sR, hX_sL, hX_sD, hX_sIa, hX_sRa, hV_sI, hV_sR, hV_sL, hV_sD, hV_sIa, hV_sRa, hX_new, hV_new] at o0 o1 o2 ⊢); omega)
  have hsm : us ≤ MS := (by have o0 := hm1.2; have o1 := hN; have o2 := hv; (try simp only [hX_sI, hX_sR, hX_sL, hX_sD, hX_sIa, hX_sRa, hV_sI, hV_sR, hV_sL, hV_sD, hV_sIa, hV_sRa, hX_new, hV_new] at o0 o1 o2 ⊢); omega)
  clear hm1
  unfold fX6_readQuery_R_b5 at hf
  refine p_astoreq_n X (dcg dc_X6_readQuery 3 rfl) rfl (by decide) rfl ?_
  refine p_aloadq_n X (dcg dc_X6_readQuery 4 rfl) rfl rfl ?_
  refine p_ifnull (tgt := 19) X (dcg dc_X6_readQuery 5 rfl) (by decide) (fun q => ?_) (fun a3 q => ?_)
  · have hk32 := mq_n q hf
    first | subst q | (try rw [q])
    have hf := hk32
    refine p_pick [2] ?_
    exact wX6_readQuery_R_b19 X hG hnm hw0 hw1 hw2 hgm0 hgm1 hgm2 hM hN hu hv hf 
  · have hk32 := mq_s q hf
    first | subst q | (try rw [q])
    have hf := hk32
    refine p_aload_n X (dcg dc_X6_readQuery 6 rfl) rfl rfl ?_
    obtain ⟨hk4, hf⟩ := gd_some hf
    refine p_getI X fl_X6_36 rfl (by decide) (dcg dc_X6_readQuery 7 rfl) hk4 ?_
    refine p_bipush (v := 124) X (dcg dc_X6_readQuery 8 rfl) (by decide) ?_
    refine p_icmp_eq (tgt := 21) X (dcg dc_X6_readQuery 9 rfl) (by decide) (fun q => ?_) (fun q => ?_)
    · have hf := if_t q hf
      refine p_bipush (v := 6) X (dcg dc_X6_readQuery 12 rfl) (by decide) ?_
      obtain ⟨z5, hz5, hf⟩ := bd_some hf
      have hc1 := mX4_joined hz5
      have hm1 : lez _ (hX r.2) (hV r.2) := mX6_readQuery_R_b26 hgm0 hgm1 hgm2 hf
      refine p_callS (As := [_]) X ml_X6_57 (dcg dc_X6_readQuery 13 rfl) rfl rfl  (wX4_joined hG hz5) (by omega) (room4 (Nat.le_of_ble_eq_true rfl)) (by have o0 := hm1.1; have o1 := hc1.1; have o2 := hM; have o3 := hu; (try simp only [hX_sI, hX_sR, hX_sL, hX_sD, hX_sIa, hX_sRa, hV_sI, hV_sR, hV_sL, hV_sD, hV_sIa, hV_sRa, hX_new, hV_new] at o0 o1 o2 o3 ⊢); omega) (by have o0 := hm1.2; have o1 := hc1.2; have o2 := hN; have o3 := hv; (try simp only [hX_sI, hX_sR, hX_sL, hX_sD, hX_sIa, hX_sRa, hV_sI, hV_sR, hV_sL, hV_sD, hV_sIa, hV_sRa, hX_new, hV_new] at o0 o1 o2 o3 ⊢); omega) ?_
      rintro _ u9 ⟨rfl, e9⟩; have e9 := e9.symm; subst e9
      refine p_pick [0, 1, 2] ?_
      exact wX6_readQuery_R_b26 X hG hnm hw0 hw1 hw2 hgm0 hgm1 hgm2 hM hN (by have o0 := hc1.1; have o1 := hu; (try simp only [hX_sI, hX_sR, hX_sL, hX_sD, hX_sIa, hX_sRa, hV_sI, hV_sR, hV_sL, hV_sD, hV_sIa, hV_sRa, hX_new, hV_new] at o0 o1 ⊢); omega) (by have o0 := hc1.2; have o1 := hv; (try simp only [hX_sI, hX_sR, hX_sL, hX_sD, hX_sIa, hX_sRa, hV_sI, hV_sR, hV_sL, hV_sD, hV_sIa, hV_sRa, hX_new, hV_new] at o0 o1 ⊢); omega) hf 
    · have hf := if_f q hf
      refine p_pick [2] ?_
      exact wX6_readQuery_R_b19 X hG hnm hw0 hw1 hw2 hgm0 hgm1 hgm2 hM hN hu hv hf 
noncomputable def fX6_readQuery_R_b0 (rc0 : (Nat → Int32 → PH → Option (Option Nat × PH))) (rc1 : (Nat → Int32 → PH → Option (Option Nat × PH))) (rc2 : (Nat → Int32 → PH → Option (Option Nat × PH))) (v0 : Nat) (v1 : Int32) (h : PH) : Option (Option Nat × PH) :=
  gd (hK h v0 = 6) (bd (rc0 v0 v1 h) (fun z2 =>
  fX6_readQuery_R_b5 rc0 rc1 rc2 v0 v1 z2.1 z2.2))
set_option maxRecDepth 100000 in
theorem mX6_readQuery_R_b0 {rc0 : (Nat → Int32 → PH → Option (Option Nat × PH))} {rc1 : (Nat → Int32 → PH → Option (Option Nat × PH))} {rc2 : (Nat → Int32 → PH → Option (Option Nat × PH))} (hgm0 : ∀ {a0 : Nat} {a1 : Int32} {h : PH} {r : (Option Nat × PH)}, rc0 a0 a1 h = some r → lez h (hX r.2) (hV r.2)) (hgm1 : ∀ {a0 : Nat} {a1 : Int32} {h : PH} {r : (Option Nat × PH)}, rc1 a0 a1 h = some r → lez h (hX r.2) (hV r.2)) (hgm2 : ∀ {a0 : Nat} {a1 : Int32} {h : PH} {r : (Option Nat × PH)}, rc2 a0 a1 h = some r → lez h (hX r.2) (hV r.2)) {v0 : Nat} {v1 : Int32} {h : PH} {r : (Option Nat × PH)} (hf : fX6_readQuery_R_b0 rc0 rc1 rc2 v0 v1 h = some r) : lez h (hX r.2) (hV r.2) := by
  unfold fX6_readQuery_R_b0 at hf
  have hle := lez_rf h
  obtain ⟨hk1, hf⟩ := gd_some hf
  obtain ⟨z2, hz2, hf⟩ := bd_some hf
  have hle := lez_rt (hgm0 hz2) hle
  exact lez_rt (mX6_readQuery_R_b5 hgm0 hgm1 hgm2 hf) hle
set_option maxRecDepth 100000 in
theorem wX6_readQuery_R_b0 {E : PE} {p : Program} {l : Launch} {e : Env} {s : State} {m : MethodId} {args : Array Value} {below : List Frame} {meth : Method} {c : Code} {X0 V0 MC MS uc us : Nat} {nn : Nat} (X : Cx E p l e (rmv (8 + nn + 1) MC MS) s m args below meth c RX6 cX6_readQuery 6 (some (.object "WordFinder$Node"))) (hG : Gs E l) (hnm : meth.name = yX6_readQuery.name) {rc0 : (Nat → Int32 → PH → Option (Option Nat × PH))} {rc1 : (Nat → Int32 → PH → Option (Option Nat × PH))} {rc2 : (Nat → Int32 → PH → Option (Option Nat × PH))} (hw0 : ∀ {a0 : Nat} {a1 : Int32} {h : PH} {r : (Option Nat × PH)}, rc0 a0 a1 h = some r → Ct E l (8 + nn) ((hX r.2) - hX h) ((hV r.2) - hV h) yX6_readBoth cX6_readBoth 6 (some (.object "WordFinder$Node")) [.ref a0, .int a1] h (fun v u => v = some (va_rf r.1) ∧ u = r.2)) (hw1 : ∀ {a0 : Nat} {a1 : Int32} {h : PH} {r : (Option Nat × PH)}, rc1 a0 a1 h = some r → Ct E l (8 + nn) ((hX r.2) - hX h) ((hV r.2) - hV h) yX6_readPlain cX6_readPlain 4 (some (.object "WordFinder$Node")) [.ref a0, .int a1] h (fun v u => v = some (va_rf r.1) ∧ u = r.2)) (hw2 : ∀ {a0 : Nat} {a1 : Int32} {h : PH} {r : (Option Nat × PH)}, rc2 a0 a1 h = some r → Ct E l (8 + nn) ((hX r.2) - hX h) ((hV r.2) - hV h) yX6_readQuery cX6_readQuery 6 (some (.object "WordFinder$Node")) [.ref a0, .int a1] h (fun v u => v = some (va_rf r.1) ∧ u = r.2)) (hgm0 : ∀ {a0 : Nat} {a1 : Int32} {h : PH} {r : (Option Nat × PH)}, rc0 a0 a1 h = some r → lez h (hX r.2) (hV r.2)) (hgm1 : ∀ {a0 : Nat} {a1 : Int32} {h : PH} {r : (Option Nat × PH)}, rc1 a0 a1 h = some r → lez h (hX r.2) (hV r.2)) (hgm2 : ∀ {a0 : Nat} {a1 : Int32} {h : PH} {r : (Option Nat × PH)}, rc2 a0 a1 h = some r → lez h (hX r.2) (hV r.2)) {v0 : Nat} {v1 : Int32} {h : PH} {r : (Option Nat × PH)} (hM : MC + X0 = (hX r.2)) (hN : MS + V0 = (hV r.2)) (hu : uc + X0 = hX h) (hv : us + V0 = hV h) (hf : fX6_readQuery_R_b0 rc0 rc1 rc2 v0 v1 h = some r)  : PW E p l e (rmv (8 + nn + 1) MC MS) s m args below meth c 6 uc us (MQ below (QG E (fun v u => v = some (va_rf r.1) ∧ u = r.2)) args s MC MS (pA E)) h 0 [(0, some (.ref v0)), (1, some (.int v1))] [] := by
  have hm1 : lez h (hX r.2) (hV r.2) := mX6_readQuery_R_b0 hgm0 hgm1 hgm2 hf
  have hcm : uc ≤ MC := (by have o0 := hm1.1; have o1 := hM; have o2 := hu; (try simp only [hX_sI, hX_sR, hX_sL, hX_sD, hX_sIa, hX_sRa, hV_sI, hV_sR, hV_sL, hV_sD, hV_sIa, hV_sRa, hX_new, hV_new] at o0 o1 o2 ⊢); omega)
  have hsm : us ≤ MS := (by have o0 := hm1.2; have o1 := hN; have o2 := hv; (try simp only [hX_sI, hX_sR, hX_sL, hX_sD, hX_sIa, hX_sRa, hV_sI, hV_sR, hV_sL, hV_sD, hV_sIa, hV_sRa, hX_new, hV_new] at o0 o1 o2 ⊢); omega)
  clear hm1
  unfold fX6_readQuery_R_b0 at hf
  refine p_aload_n X (dcg dc_X6_readQuery 0 rfl) rfl rfl ?_
  refine p_iload_n X (dcg dc_X6_readQuery 1 rfl) rfl rfl ?_
  obtain ⟨hk1, hf⟩ := gd_some hf
  obtain ⟨z2, hz2, hf⟩ := bd_some hf
  have hc1 := hgm0 hz2
  have hm1 : lez _ (hX r.2) (hV r.2) := mX6_readQuery_R_b5 hgm0 hgm1 hgm2 hf
  refine p_callV (As := [_]) X ml_X6_52 (dcg dc_X6_readQuery 2 rfl) rfl rfl hk1 (hw0 hz2) (by omega) (room4 (Nat.le_of_ble_eq_true rfl)) (by have o0 := hm1.1; have o1 := hc1.1; have o2 := hM; have o3 := hu; (try simp only [hX_sI, hX_sR, hX_sL, hX_sD, hX_sIa, hX_sRa, hV_sI, hV_sR, hV_sL, hV_sD, hV_sIa, hV_sRa, hX_new, hV_new] at o0 o1 o2 o3 ⊢); omega) (by have o0 := hm1.2; have o1 := hc1.2; have o2 := hN; have o3 := hv; (try simp only [hX_sI, hX_sR, hX_sL, hX_sD, hX_sIa, hX_sRa, hV_sI, hV_sR, hV_sL, hV_sD, hV_sIa, hV_sRa, hX_new, hV_new] at o0 o1 o2 o3 ⊢); omega) ?_
  rintro _ u9 ⟨rfl, e9⟩; have e9 := e9.symm; subst e9
  refine p_pick [0, 1] ?_
  exact wX6_readQuery_R_b5 X hG hnm hw0 hw1 hw2 hgm0 hgm1 hgm2 hM hN (by have o0 := hc1.1; have o1 := hu; (try simp only [hX_sI, hX_sR, hX_sL, hX_sD, hX_sIa, hX_sRa, hV_sI, hV_sR, hV_sL, hV_sD, hV_sIa, hV_sRa, hX_new, hV_new] at o0 o1 ⊢); omega) (by have o0 := hc1.2; have o1 := hv; (try simp only [hX_sI, hX_sR, hX_sL, hX_sD, hX_sIa, hX_sRa, hV_sI, hV_sR, hV_sL, hV_sD, hV_sIa, hV_sRa, hX_new, hV_new] at o0 o1 ⊢); omega) hf 
noncomputable def fX6_readQuery_R (rc0 : (Nat → Int32 → PH → Option (Option Nat × PH))) (rc1 : (Nat → Int32 → PH → Option (Option Nat × PH))) (rc2 : (Nat → Int32 → PH → Option (Option Nat × PH))) (v0 : Nat) (v1 : Int32) (h : PH) : Option (Option Nat × PH) :=
  fX6_readQuery_R_b0 rc0 rc1 rc2 v0 v1 h
set_option maxRecDepth 100000 in
theorem mX6_readQuery_R {rc0 : (Nat → Int32 → PH → Option (Option Nat × PH))} {rc1 : (Nat → Int32 → PH → Option (Option Nat × PH))} {rc2 : (Nat → Int32 → PH → Option (Option Nat × PH))} (hgm0 : ∀ {a0 : Nat} {a1 : Int32} {h : PH} {r : (Option Nat × PH)}, rc0 a0 a1 h = some r → lez h (hX r.2) (hV r.2)) (hgm1 : ∀ {a0 : Nat} {a1 : Int32} {h : PH} {r : (Option Nat × PH)}, rc1 a0 a1 h = some r → lez h (hX r.2) (hV r.2)) (hgm2 : ∀ {a0 : Nat} {a1 : Int32} {h : PH} {r : (Option Nat × PH)}, rc2 a0 a1 h = some r → lez h (hX r.2) (hV r.2)) {v0 : Nat} {v1 : Int32} {h : PH} {r : (Option Nat × PH)} (hf : fX6_readQuery_R rc0 rc1 rc2 v0 v1 h = some r) : lez h (hX r.2) (hV r.2) := by
  unfold fX6_readQuery_R at hf
  have hle := lez_rf h
  exact lez_rt (mX6_readQuery_R_b0 hgm0 hgm1 hgm2 hf) hle
set_option maxRecDepth 100000 in
theorem wX6_readQuery_R {E : PE} {l : Launch} (hG : Gs E l) {nn : Nat} {rc0 : (Nat → Int32 → PH → Option (Option Nat × PH))} {rc1 : (Nat → Int32 → PH → Option (Option Nat × PH))} {rc2 : (Nat → Int32 → PH → Option (Option Nat × PH))} (hw0 : ∀ {a0 : Nat} {a1 : Int32} {h : PH} {r : (Option Nat × PH)}, rc0 a0 a1 h = some r → Ct E l (8 + nn) ((hX r.2) - hX h) ((hV r.2) - hV h) yX6_readBoth cX6_readBoth 6 (some (.object "WordFinder$Node")) [.ref a0, .int a1] h (fun v u => v = some (va_rf r.1) ∧ u = r.2)) (hw1 : ∀ {a0 : Nat} {a1 : Int32} {h : PH} {r : (Option Nat × PH)}, rc1 a0 a1 h = some r → Ct E l (8 + nn) ((hX r.2) - hX h) ((hV r.2) - hV h) yX6_readPlain cX6_readPlain 4 (some (.object "WordFinder$Node")) [.ref a0, .int a1] h (fun v u => v = some (va_rf r.1) ∧ u = r.2)) (hw2 : ∀ {a0 : Nat} {a1 : Int32} {h : PH} {r : (Option Nat × PH)}, rc2 a0 a1 h = some r → Ct E l (8 + nn) ((hX r.2) - hX h) ((hV r.2) - hV h) yX6_readQuery cX6_readQuery 6 (some (.object "WordFinder$Node")) [.ref a0, .int a1] h (fun v u => v = some (va_rf r.1) ∧ u = r.2)) (hgm0 : ∀ {a0 : Nat} {a1 : Int32} {h : PH} {r : (Option Nat × PH)}, rc0 a0 a1 h = some r → lez h (hX r.2) (hV r.2)) (hgm1 : ∀ {a0 : Nat} {a1 : Int32} {h : PH} {r : (Option Nat × PH)}, rc1 a0 a1 h = some r → lez h (hX r.2) (hV r.2)) (hgm2 : ∀ {a0 : Nat} {a1 : Int32} {h : PH} {r : (Option Nat × PH)}, rc2 a0 a1 h = some r → lez h (hX r.2) (hV r.2)) {v0 : Nat} {v1 : Int32} {h : PH} {r : (Option Nat × PH)} (hf : fX6_readQuery_R rc0 rc1 rc2 v0 v1 h = some r) : Ct E l (8 + nn + 1) ((hX r.2) - hX h) ((hV r.2) - hV h) yX6_readQuery cX6_readQuery 6 (some (.object "WordFinder$Node")) [.ref v0, .int v1] h (fun v u => v = some (va_rf r.1) ∧ u = r.2) := by
  have hmm := mX6_readQuery_R hgm0 hgm1 hgm2 hf
  refine ct_of hG (by decide) (Nat.le_of_ble_eq_true rfl) ?_
  intro p e s m args below meth c X hnm
  show PW E p l e _ s m args below meth c _ 0 0 _ h 0 [(0, some (.ref v0)), (1, some (.int v1))] []
  unfold fX6_readQuery_R at hf
  have hM := Nat.sub_add_cancel hmm.1
  have hN := Nat.sub_add_cancel hmm.2
  refine p_pick [0, 1] ?_
  exact wX6_readQuery_R_b0 X hG hnm hw0 hw1 hw2 hgm0 hgm1 hgm2 hM hN (Nat.zero_add _) (Nat.zero_add _) hf
noncomputable def g_X6_readBoth_X6_readPlain_X6_readQuery : Nat → (Nat → Int32 → PH → Option (Option Nat × PH)) × (Nat → Int32 → PH → Option (Option Nat × PH)) × (Nat → Int32 → PH → Option (Option Nat × PH))
  | 0 => (fun a0 a1 h => none, fun a0 a1 h => none, fun a0 a1 h => none)
  | n + 1 => (fun a0 a1 h => fX6_readBoth_R ((g_X6_readBoth_X6_readPlain_X6_readQuery n).1) ((g_X6_readBoth_X6_readPlain_X6_readQuery n).2.1) ((g_X6_readBoth_X6_readPlain_X6_readQuery n).2.2) a0 a1 h, fun a0 a1 h => fX6_readPlain_R ((g_X6_readBoth_X6_readPlain_X6_readQuery n).1) ((g_X6_readBoth_X6_readPlain_X6_readQuery n).2.1) ((g_X6_readBoth_X6_readPlain_X6_readQuery n).2.2) a0 a1 h, fun a0 a1 h => fX6_readQuery_R ((g_X6_readBoth_X6_readPlain_X6_readQuery n).1) ((g_X6_readBoth_X6_readPlain_X6_readQuery n).2.1) ((g_X6_readBoth_X6_readPlain_X6_readQuery n).2.2) a0 a1 h)
theorem gm_X6_readBoth_X6_readPlain_X6_readQuery : ∀ n : Nat, (∀ {a0 : Nat} {a1 : Int32} {h : PH} {r : (Option Nat × PH)}, ((g_X6_readBoth_X6_readPlain_X6_readQuery n).1) a0 a1 h = some r → lez h (hX r.2) (hV r.2)) ∧ (∀ {a0 : Nat} {a1 : Int32} {h : PH} {r : (Option Nat × PH)}, ((g_X6_readBoth_X6_readPlain_X6_readQuery n).2.1) a0 a1 h = some r → lez h (hX r.2) (hV r.2)) ∧ (∀ {a0 : Nat} {a1 : Int32} {h : PH} {r : (Option Nat × PH)}, ((g_X6_readBoth_X6_readPlain_X6_readQuery n).2.2) a0 a1 h = some r → lez h (hX r.2) (hV r.2)) := by
  intro n
  induction n with
  | zero => exact ⟨(fun hf => nomatch (show (none : Option (Option Nat × PH)) = some _ from hf)), (fun hf => nomatch (show (none : Option (Option Nat × PH)) = some _ from hf)), (fun hf => nomatch (show (none : Option (Option Nat × PH)) = some _ from hf))⟩
  | succ n ih => exact ⟨(fun {a0 a1 h r} hf => mX6_readBoth_R ((ih).1) ((ih).2.1) ((ih).2.2) (show fX6_readBoth_R ((g_X6_readBoth_X6_readPlain_X6_readQuery n).1) ((g_X6_readBoth_X6_readPlain_X6_readQuery n).2.1) ((g_X6_readBoth_X6_readPlain_X6_readQuery n).2.2) a0 a1 h = some r from hf)), (fun {a0 a1 h r} hf => mX6_readPlain_R ((ih).1) ((ih).2.1) ((ih).2.2) (show fX6_readPlain_R ((g_X6_readBoth_X6_readPlain_X6_readQuery n).1) ((g_X6_readBoth_X6_readPlain_X6_readQuery n).2.1) ((g_X6_readBoth_X6_readPlain_X6_readQuery n).2.2) a0 a1 h = some r from hf)), (fun {a0 a1 h r} hf => mX6_readQuery_R ((ih).1) ((ih).2.1) ((ih).2.2) (show fX6_readQuery_R ((g_X6_readBoth_X6_readPlain_X6_readQuery n).1) ((g_X6_readBoth_X6_readPlain_X6_readQuery n).2.1) ((g_X6_readBoth_X6_readPlain_X6_readQuery n).2.2) a0 a1 h = some r from hf))⟩
theorem gw_X6_readBoth_X6_readPlain_X6_readQuery {E : PE} {l : Launch} (hG : Gs E l) : ∀ n : Nat, (∀ {a0 : Nat} {a1 : Int32} {h : PH} {r : (Option Nat × PH)}, ((g_X6_readBoth_X6_readPlain_X6_readQuery n).1) a0 a1 h = some r → Ct E l (8 + n) ((hX r.2) - hX h) ((hV r.2) - hV h) yX6_readBoth cX6_readBoth 6 (some (.object "WordFinder$Node")) [.ref a0, .int a1] h (fun v u => v = some (va_rf r.1) ∧ u = r.2)) ∧ (∀ {a0 : Nat} {a1 : Int32} {h : PH} {r : (Option Nat × PH)}, ((g_X6_readBoth_X6_readPlain_X6_readQuery n).2.1) a0 a1 h = some r → Ct E l (8 + n) ((hX r.2) - hX h) ((hV r.2) - hV h) yX6_readPlain cX6_readPlain 4 (some (.object "WordFinder$Node")) [.ref a0, .int a1] h (fun v u => v = some (va_rf r.1) ∧ u = r.2)) ∧ (∀ {a0 : Nat} {a1 : Int32} {h : PH} {r : (Option Nat × PH)}, ((g_X6_readBoth_X6_readPlain_X6_readQuery n).2.2) a0 a1 h = some r → Ct E l (8 + n) ((hX r.2) - hX h) ((hV r.2) - hV h) yX6_readQuery cX6_readQuery 6 (some (.object "WordFinder$Node")) [.ref a0, .int a1] h (fun v u => v = some (va_rf r.1) ∧ u = r.2)) := by
  intro n
  induction n with
  | zero => exact ⟨(fun hf => nomatch (show (none : Option (Option Nat × PH)) = some _ from hf)), (fun hf => nomatch (show (none : Option (Option Nat × PH)) = some _ from hf)), (fun hf => nomatch (show (none : Option (Option Nat × PH)) = some _ from hf))⟩
  | succ n ih => exact ⟨(fun {a0 a1 h r} hf => wX6_readBoth_R (nn := n) hG ((ih).1) ((ih).2.1) ((ih).2.2) ((gm_X6_readBoth_X6_readPlain_X6_readQuery n).1) ((gm_X6_readBoth_X6_readPlain_X6_readQuery n).2.1) ((gm_X6_readBoth_X6_readPlain_X6_readQuery n).2.2) (show fX6_readBoth_R ((g_X6_readBoth_X6_readPlain_X6_readQuery n).1) ((g_X6_readBoth_X6_readPlain_X6_readQuery n).2.1) ((g_X6_readBoth_X6_readPlain_X6_readQuery n).2.2) a0 a1 h = some r from hf)), (fun {a0 a1 h r} hf => wX6_readPlain_R (nn := n) hG ((ih).1) ((ih).2.1) ((ih).2.2) ((gm_X6_readBoth_X6_readPlain_X6_readQuery n).1) ((gm_X6_readBoth_X6_readPlain_X6_readQuery n).2.1) ((gm_X6_readBoth_X6_readPlain_X6_readQuery n).2.2) (show fX6_readPlain_R ((g_X6_readBoth_X6_readPlain_X6_readQuery n).1) ((g_X6_readBoth_X6_readPlain_X6_readQuery n).2.1) ((g_X6_readBoth_X6_readPlain_X6_readQuery n).2.2) a0 a1 h = some r from hf)), (fun {a0 a1 h r} hf => wX6_readQuery_R (nn := n) hG ((ih).1) ((ih).2.1) ((ih).2.2) ((gm_X6_readBoth_X6_readPlain_X6_readQuery n).1) ((gm_X6_readBoth_X6_readPlain_X6_readQuery n).2.1) ((gm_X6_readBoth_X6_readPlain_X6_readQuery n).2.2) (show fX6_readQuery_R ((g_X6_readBoth_X6_readPlain_X6_readQuery n).1) ((g_X6_readBoth_X6_readPlain_X6_readQuery n).2.1) ((g_X6_readBoth_X6_readPlain_X6_readQuery n).2.2) a0 a1 h = some r from hf))⟩
noncomputable def fX6_readBoth (a0 : Nat) (a1 : Int32) (h : PH) : Option (Option Nat × PH) := ((g_X6_readBoth_X6_readPlain_X6_readQuery 130).1) a0 a1 h
theorem mX6_readBoth {a0 : Nat} {a1 : Int32} {h : PH} {r : (Option Nat × PH)} (hf : fX6_readBoth a0 a1 h = some r) : lez h (hX r.2) (hV r.2) := ((gm_X6_readBoth_X6_readPlain_X6_readQuery 130).1) hf
theorem wX6_readBoth {E : PE} {l : Launch} (hG : Gs E l) {a0 : Nat} {a1 : Int32} {h : PH} {r : (Option Nat × PH)} (hf : fX6_readBoth a0 a1 h = some r) : Ct E l 138 ((hX r.2) - hX h) ((hV r.2) - hV h) yX6_readBoth cX6_readBoth 6 (some (.object "WordFinder$Node")) [.ref a0, .int a1] h (fun v u => v = some (va_rf r.1) ∧ u = r.2) := ((gw_X6_readBoth_X6_readPlain_X6_readQuery hG 130).1) hf
noncomputable def fX6_readPlain (a0 : Nat) (a1 : Int32) (h : PH) : Option (Option Nat × PH) := ((g_X6_readBoth_X6_readPlain_X6_readQuery 130).2.1) a0 a1 h
theorem mX6_readPlain {a0 : Nat} {a1 : Int32} {h : PH} {r : (Option Nat × PH)} (hf : fX6_readPlain a0 a1 h = some r) : lez h (hX r.2) (hV r.2) := ((gm_X6_readBoth_X6_readPlain_X6_readQuery 130).2.1) hf
theorem wX6_readPlain {E : PE} {l : Launch} (hG : Gs E l) {a0 : Nat} {a1 : Int32} {h : PH} {r : (Option Nat × PH)} (hf : fX6_readPlain a0 a1 h = some r) : Ct E l 138 ((hX r.2) - hX h) ((hV r.2) - hV h) yX6_readPlain cX6_readPlain 4 (some (.object "WordFinder$Node")) [.ref a0, .int a1] h (fun v u => v = some (va_rf r.1) ∧ u = r.2) := ((gw_X6_readBoth_X6_readPlain_X6_readQuery hG 130).2.1) hf
noncomputable def fX6_readQuery (a0 : Nat) (a1 : Int32) (h : PH) : Option (Option Nat × PH) := ((g_X6_readBoth_X6_readPlain_X6_readQuery 130).2.2) a0 a1 h
theorem mX6_readQuery {a0 : Nat} {a1 : Int32} {h : PH} {r : (Option Nat × PH)} (hf : fX6_readQuery a0 a1 h = some r) : lez h (hX r.2) (hV r.2) := ((gm_X6_readBoth_X6_readPlain_X6_readQuery 130).2.2) hf
theorem wX6_readQuery {E : PE} {l : Launch} (hG : Gs E l) {a0 : Nat} {a1 : Int32} {h : PH} {r : (Option Nat × PH)} (hf : fX6_readQuery a0 a1 h = some r) : Ct E l 138 ((hX r.2) - hX h) ((hV r.2) - hV h) yX6_readQuery cX6_readQuery 6 (some (.object "WordFinder$Node")) [.ref a0, .int a1] h (fun v u => v = some (va_rf r.1) ∧ u = r.2) := ((gw_X6_readBoth_X6_readPlain_X6_readQuery hG 130).2.2) hf
