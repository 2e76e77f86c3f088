/-! methods of the program (by program: wip/whole/gen2.py) -/
theorem dc_X9_size : decs cX9_size [(0, .aload_n 0, 1), (1, .getfield 11, 3), (4, .invokestatic 31, 3), (7, .aload_n 0, 1), (8, .getfield 15, 3), (11, .invokestatic 31, 3), (14, .iadd, 1), (15, .ireturn, 1)] = true := by decide +kernel
noncomputable def fX9_size (v0 : Nat) (h : PH) : Option Int32 :=
  gd (hK h v0 = 9) (bd (fJ13_bitCount_95d88 (hL h 9 v0 0)) (fun z2 =>
  bd (fJ13_bitCount_95d88 (hL h 9 v0 1)) (fun z3 =>
  some ((z2 + z3)))))
set_option maxRecDepth 100000 in
theorem wX9_size {E : PE} {l : Launch} (hG : Gs E l) {v0 : Nat} {h : PH} {r : Int32} (hf : fX9_size v0 h = some r) : Ct E l 1 0 0 yX9_size cX9_size 1 (some .int) [.ref v0] h (fun v u => v = some (.int r) ∧ u = h) := by
  refine ct_of hG (by decide) (Nat.le_of_ble_eq_true rfl) ?_
  intro p e s m args below meth c X hnm
  show PW E p l e _ s m args below meth c _ 0 0 _ h 0 [(0, some (.ref v0))] []
  unfold fX9_size at hf
  refine p_aload_n X (dcg dc_X9_size 0 rfl) rfl rfl ?_
  obtain ⟨hk1, hf⟩ := gd_some hf
  refine p_getL X fl_X9_11 rfl (by decide) (dcg dc_X9_size 1 rfl) hk1 ?_
  obtain ⟨z2, hz2, hf⟩ := bd_some hf
  refine p_callS (As := [_]) X ml_X9_31 (dcg dc_X9_size 2 rfl) rfl rfl  (wJ13_bitCount_95d88 hG hz2) (by decide) (room4 (Nat.le_of_ble_eq_true rfl)) (Nat.le_refl _) (Nat.le_refl _) ?_
  rintro _ u9 ⟨rfl, e9⟩; have e9 := e9.symm; subst e9
  refine p_aload_n X (dcg dc_X9_size 3 rfl) rfl rfl ?_
  refine p_getL X fl_X9_15 rfl (by decide) (dcg dc_X9_size 4 rfl) hk1 ?_
  obtain ⟨z3, hz3, hf⟩ := bd_some hf
  refine p_callS (As := [_]) X ml_X9_31 (dcg dc_X9_size 5 rfl) rfl rfl  (wJ13_bitCount_95d88 hG hz3) (by decide) (room4 (Nat.le_of_ble_eq_true rfl)) (Nat.le_refl _) (Nat.le_refl _) ?_
  rintro _ u9 ⟨rfl, e9⟩; have e9 := e9.symm; subst e9
  refine p_iadd X (dcg dc_X9_size 6 rfl) ?_
  have er := Option.some.inj hf
  subst er
  exact p_iret X rfl (dcg dc_X9_size 7 rfl) ⟨rfl, rfl⟩ (Nat.le_refl _) (Nat.le_refl _)
theorem dc_Jx4a65c_fastRemove_b59b0 : decs cJx4a65c_fastRemove_b59b0 [(0, .aload_n 0, 1), (1, .dup, 1), (2, .getfield 63, 3), (5, .iconst 1, 1), (6, .iadd, 1), (7, .putfield 63, 3), (10, .aload_n 0, 1), (11, .getfield 48, 3), (14, .iconst 1, 1), (15, .isub, 1), (16, .dup, 1), (17, .istore_n 3, 1), (18, .iload_n 2, 1), (19, .if_icmp .le 15, 3), (22, .aload_n 1, 1), (23, .iload_n 2, 1), (24, .iconst 1, 1), (25, .iadd, 1), (26, .aload_n 1, 1), (27, .iload_n 2, 1), (28, .iload_n 3, 1), (29, .iload_n 2, 1), (30, .isub, 1), (31, .invokestatic 112, 3), (34, .aload_n 1, 1), (35, .aload_n 0, 1), (36, .iload_n 3, 1), (37, .dup_x1, 1), (38, .putfield 48, 3), (41, .aconst_null, 1), (42, .aastore, 1), (43, .return_, 1)] = true := by decide +kernel
noncomputable def fJx4a65c_fastRemove_b59b0_b34 (v0 : Nat) (v1 : Option Nat) (v3 : Int32) (h : PH) : Option PH :=
  gd (hK h v0 = 14) (lt (sI h 14 v0 2 v3) (fun h4 =>
  gs v1 (fun a5 =>
  gd (hK h4 a5 = 28 ∧ inb v3 (hN h4 a5)) (gd (okr h4 none = true) (lt (sR h4 28 a5 (Int32.toNatClampNeg v3) none) (fun h9 =>
  some (h9)))))))
set_option maxRecDepth 100000 in
theorem mJx4a65c_fastRemove_b59b0_b34 {v0 : Nat} {v1 : Option Nat} {v3 : Int32} {h : PH} {r : PH} (hf : fJx4a65c_fastRemove_b59b0_b34 v0 v1 v3 h = some r) : eqz h (hX r) (hV r) := by
  unfold fJx4a65c_fastRemove_b59b0_b34 at hf
  have hle := eqz_rf h
  obtain ⟨hk3, hf⟩ := gd_some hf
  obtain ⟨h4, rfl, hf⟩ := lt_some hf
  obtain ⟨a5, e6, hf⟩ := gs_some hf
  obtain ⟨⟨hk8, hb7⟩, hf⟩ := gd_some hf
  obtain ⟨hg10, hf⟩ := gd_some hf
  obtain ⟨h9, rfl, hf⟩ := lt_some hf
  have ee := Option.some.inj hf; subst ee; exact hle
set_option maxRecDepth 100000 in
theorem wJx4a65c_fastRemove_b59b0_b34 {E : PE} {p : Program} {l : Launch} {e : Env} {s : State} {m : MethodId} {args : Array Value} {below : List Frame} {meth : Method} {c : Code} (X : Cx E p l e (rmv 1 0 0) s m args below meth c RJx4a65c cJx4a65c_fastRemove_b59b0 4 (none)) (hG : Gs E l) (hnm : meth.name = yJx4a65c_fastRemove_b59b0.name) {v0 : Nat} {v1 : Option Nat} {v3 : Int32} {h : PH} {r : PH} (hf : fJx4a65c_fastRemove_b59b0_b34 v0 v1 v3 h = some r)  : PW E p l e (rmv 1 0 0) s m args below meth c 4 0 0 (MQ below (QG E (fun v u => v = none ∧ u = r)) args s 0 0 (pA E)) h 34 [(0, some (.ref v0)), (1, some (va_rf v1)), (3, some (.int v3))] [] := by
  unfold fJx4a65c_fastRemove_b59b0_b34 at hf
  refine p_aloadq_n X (dcg dc_Jx4a65c_fastRemove_b59b0 24 rfl) rfl rfl ?_
  refine p_aload_n X (dcg dc_Jx4a65c_fastRemove_b59b0 25 rfl) rfl rfl ?_
  refine p_iload_n X (dcg dc_Jx4a65c_fastRemove_b59b0 26 rfl) rfl rfl ?_
  refine p_dup_x1 X (dcg dc_Jx4a65c_fastRemove_b59b0 27 rfl) rfl rfl ?_
  obtain ⟨hk3, hf⟩ := gd_some hf
  refine p_putI X fl_Jx4a65c_48 rfl (by decide) (fun q hq => by cases hq; rfl) rfl rfl (dcg dc_Jx4a65c_fastRemove_b59b0 28 rfl) hk3 ?_
  obtain ⟨h4, rfl, hf⟩ := lt_some hf
  refine p_null X (dcg dc_Jx4a65c_fastRemove_b59b0 29 rfl) ?_
  obtain ⟨a5, e6, hf⟩ := gs_some hf
  first | subst e6 | (try rw [e6])
  obtain ⟨⟨hk8, hb7⟩, hf⟩ := gd_some hf
  obtain ⟨hg10, hf⟩ := gd_some hf
  refine p_aast28 X (dcg dc_Jx4a65c_fastRemove_b59b0 30 rfl) hk8 (vp_of_inb hb7) hg10 ?_
  obtain ⟨h9, rfl, hf⟩ := lt_some hf
  have er := Option.some.inj hf
  subst er
  exact p_vret X rfl (dcg dc_Jx4a65c_fastRemove_b59b0 31 rfl) ⟨rfl, rfl⟩ (Nat.le_refl _) (Nat.le_refl _)
noncomputable def fJx4a65c_fastRemove_b59b0 (v0 : Nat) (v1 : Option Nat) (v2 : Int32) (h : PH) : Option PH :=
  gd (hK h v0 = 14) (lt (sI h 14 v0 0 ((hI h 14 v0 0) + (1 : Int32))) (fun h2 =>
  if (((hI h2 14 v0 2) - (1 : Int32)) ≤ v2) then (fJx4a65c_fastRemove_b59b0_b34 v0 v1 ((hI h2 14 v0 2) - (1 : Int32)) h2) else
  gs v1 (fun a11 =>
  gd ((cpyok h2 28 a11 a11 (v2 + (1 : Int32)) v2 (((hI h2 14 v0 2) - (1 : Int32)) - v2) ∧ hN h2 a11 ≠ 0 ∧ hN h2 a11 ≠ 0) ∧ okrs h2 a11 (v2 + (1 : Int32)) (((hI h2 14 v0 2) - (1 : Int32)) - v2) = true) (lt (cpyR h2 28 a11 a11 (v2 + (1 : Int32)) v2 (((hI h2 14 v0 2) - (1 : Int32)) - v2)) (fun h14 =>
  fJx4a65c_fastRemove_b59b0_b34 v0 (some a11) ((hI h2 14 v0 2) - (1 : Int32)) h14)))))
set_option maxRecDepth 100000 in
theorem mJx4a65c_fastRemove_b59b0 {v0 : Nat} {v1 : Option Nat} {v2 : Int32} {h : PH} {r : PH} (hf : fJx4a65c_fastRemove_b59b0 v0 v1 v2 h = some r) : eqz h (hX r) (hV r) := by
  unfold fJx4a65c_fastRemove_b59b0 at hf
  have hle := eqz_rf h
  obtain ⟨hk1, hf⟩ := gd_some hf
  obtain ⟨h2, rfl, hf⟩ := lt_some hf
  rcases ite_or hf with ⟨q, hf⟩ | ⟨q, hf⟩
  · have hf := if_t q hf
    exact eqz_rt (mJx4a65c_fastRemove_b59b0_b34 hf) hle
  · have hf := if_f q hf
    obtain ⟨a11, e12, hf⟩ := gs_some hf
    obtain ⟨hg13, hf⟩ := gd_some hf
    obtain ⟨h14, rfl, hf⟩ := lt_some hf
    exact eqz_rt (mJx4a65c_fastRemove_b59b0_b34 hf) hle
set_option maxRecDepth 100000 in
theorem wJx4a65c_fastRemove_b59b0 {E : PE} {l : Launch} (hG : Gs E l) {v0 : Nat} {v1 : Option Nat} {v2 : Int32} {h : PH} {r : PH} (hf : fJx4a65c_fastRemove_b59b0 v0 v1 v2 h = some r) : Ct E l 1 0 0 yJx4a65c_fastRemove_b59b0 cJx4a65c_fastRemove_b59b0 4 (none) [.ref v0, va_rf v1, .int v2] h (fun v u => v = none ∧ u = r) := by
  refine ct_of hG (by decide) (by simp [lg_sl, cat_rf, cat_r, cat_i, cat_l, cat_d, cat_f]) ?_
  intro p e s m args below meth c X hnm
  rw [show pargs 0 [.ref v0, va_rf v1, .int v2] = [(0, some (.ref v0)), (1, some (va_rf v1)), (2, some (.int v2))] from by simp [pargs, cat_rf, cat_r, cat_i, cat_l, cat_d, cat_f]]
  unfold fJx4a65c_fastRemove_b59b0 at hf
  refine p_aload_n X (dcg dc_Jx4a65c_fastRemove_b59b0 0 rfl) rfl rfl ?_
  refine p_dup X (dcg dc_Jx4a65c_fastRemove_b59b0 1 rfl) rfl ?_
  obtain ⟨hk1, hf⟩ := gd_some hf
  refine p_getI X fl_Jx4a65c_63 rfl (by decide) (dcg dc_Jx4a65c_fastRemove_b59b0 2 rfl) hk1 ?_
  refine p_iconst (v := 1) X (dcg dc_Jx4a65c_fastRemove_b59b0 3 rfl) (by decide) ?_
  refine p_iadd X (dcg dc_Jx4a65c_fastRemove_b59b0 4 rfl) ?_
  refine p_putI X fl_Jx4a65c_63 rfl (by decide) (fun q hq => by cases hq; rfl) rfl rfl (dcg dc_Jx4a65c_fastRemove_b59b0 5 rfl) hk1 ?_
  obtain ⟨h2, rfl, hf⟩ := lt_some hf
  refine p_aload_n X (dcg dc_Jx4a65c_fastRemove_b59b0 6 rfl) rfl rfl ?_
  refine p_getI X fl_Jx4a65c_48 rfl (by decide) (dcg dc_Jx4a65c_fastRemove_b59b0 7 rfl) hk1 ?_
  refine p_iconst (v := 1) X (dcg dc_Jx4a65c_fastRemove_b59b0 8 rfl) (by decide) ?_
  refine p_isub X (dcg dc_Jx4a65c_fastRemove_b59b0 9 rfl) ?_
  refine p_dup X (dcg dc_Jx4a65c_fastRemove_b59b0 10 rfl) rfl ?_
  refine p_istore_n X (dcg dc_Jx4a65c_fastRemove_b59b0 11 rfl) rfl (by decide) rfl ?_
  refine p_iload_n X (dcg dc_Jx4a65c_fastRemove_b59b0 12 rfl) rfl rfl ?_
  refine p_icmp_le (tgt := 34) X (dcg dc_Jx4a65c_fastRemove_b59b0 13 rfl) (by decide) (fun q => ?_) (fun q => ?_)
  · have hf := if_t q hf
    refine p_pick [0, 1, 3] ?_
    exact wJx4a65c_fastRemove_b59b0_b34 X hG hnm hf 
  · have hf := if_f q hf
    refine p_aloadq_n X (dcg dc_Jx4a65c_fastRemove_b59b0 14 rfl) rfl rfl ?_
    refine p_iload_n X (dcg dc_Jx4a65c_fastRemove_b59b0 15 rfl) rfl rfl ?_
    refine p_iconst (v := 1) X (dcg dc_Jx4a65c_fastRemove_b59b0 16 rfl) (by decide) ?_
    refine p_iadd X (dcg dc_Jx4a65c_fastRemove_b59b0 17 rfl) ?_
    refine p_aloadq_n X (dcg dc_Jx4a65c_fastRemove_b59b0 18 rfl) rfl rfl ?_
    refine p_iload_n X (dcg dc_Jx4a65c_fastRemove_b59b0 19 rfl) rfl rfl ?_
    refine p_iload_n X (dcg dc_Jx4a65c_fastRemove_b59b0 20 rfl) rfl rfl ?_
    refine p_iload_n X (dcg dc_Jx4a65c_fastRemove_b59b0 21 rfl) rfl rfl ?_
    refine p_isub X (dcg dc_Jx4a65c_fastRemove_b59b0 22 rfl) ?_
    obtain ⟨a11, e12, hf⟩ := gs_some hf
    first | subst e12 | (try rw [e12])
    obtain ⟨hg13, hf⟩ := gd_some hf
    refine p_copyR X tw_883 tw_629 tw_628 tw_130 hg13.1 hg13.2 (dcg dc_Jx4a65c_fastRemove_b59b0 23 rfl) (Nat.le_of_ble_eq_true rfl) (room4 (Nat.le_of_ble_eq_true rfl)) (Nat.le_of_ble_eq_true rfl) ?_
    obtain ⟨h14, rfl, hf⟩ := lt_some hf
    refine p_pick [0, 1, 3] ?_
    exact wJx4a65c_fastRemove_b59b0_b34 X hG hnm hf 
theorem dc_Jx4a65c_remove_915e3 : decs cJx4a65c_remove_915e3 [(0, .iload_n 1, 1), (1, .aload_n 0, 1), (2, .getfield 48, 3), (5, .invokestatic 118, 3), (8, .pop, 1), (9, .aload_n 0, 1), (10, .getfield 9, 3), (13, .astore_n 2, 1), (14, .aload_n 2, 1), (15, .iload_n 1, 1), (16, .aaload, 1), (17, .astore_n 3, 1), (18, .aload_n 0, 1), (19, .aload_n 2, 1), (20, .iload_n 1, 1), (21, .invokevirtual 144, 3), (24, .aload_n 3, 1), (25, .areturn, 1)] = true := by decide +kernel
noncomputable def fJx4a65c_remove_915e3 (v0 : Nat) (v1 : Int32) (h : PH) : Option (Option Nat × PH) :=
  gd (hK h v0 = 14) (bd (fJ15_checkIndex_7cf53 v1 (hI h 14 v0 2)) (fun z2 =>
  gs (hR h 14 v0 1) (fun a3 =>
  gd (hK h a3 = 28 ∧ inb v1 (hN h a3)) (bd (fJx4a65c_fastRemove_b59b0 v0 (some a3) v1 h) (fun z7 =>
  some (((hR h 28 a3 (Int32.toNatClampNeg v1)), z7)))))))
set_option maxRecDepth 100000 in
theorem mJx4a65c_remove_915e3 {v0 : Nat} {v1 : Int32} {h : PH} {r : (Option Nat × PH)} (hf : fJx4a65c_remove_915e3 v0 v1 h = some r) : eqz h (hX r.2) (hV r.2) := by
  unfold fJx4a65c_remove_915e3 at hf
  have hle := eqz_rf h
  obtain ⟨hk1, hf⟩ := gd_some hf
  obtain ⟨z2, hz2, hf⟩ := bd_some hf
  obtain ⟨a3, e4, hf⟩ := gs_some hf
  obtain ⟨⟨hk6, hb5⟩, hf⟩ := gd_some hf
  obtain ⟨z7, hz7, hf⟩ := bd_some hf
  have hle := eqz_rt (mJx4a65c_fastRemove_b59b0 hz7) hle
  have ee := Option.some.inj hf; subst ee; exact hle
set_option maxRecDepth 100000 in
theorem wJx4a65c_remove_915e3 {E : PE} {l : Launch} (hG : Gs E l) {v0 : Nat} {v1 : Int32} {h : PH} {r : (Option Nat × PH)} (hf : fJx4a65c_remove_915e3 v0 v1 h = some r) : Ct E l 2 0 0 yJx4a65c_remove_915e3 cJx4a65c_remove_915e3 4 (some (.object "java/lang/Object")) [.ref v0, .int v1] h (fun v u => v = some (va_rf r.1) ∧ u = r.2) := by
  refine ct_of hG (by decide) (Nat.le_of_ble_eq_true rfl) ?_
  intro p e s m args below meth c X hnm
  show PW E p l e _ s m args below meth c _ 0 0 _ h 0 [(0, some (.ref v0)), (1, some (.int v1))] []
  unfold fJx4a65c_remove_915e3 at hf
  refine p_iload_n X (dcg dc_Jx4a65c_remove_915e3 0 rfl) rfl rfl ?_
  refine p_aload_n X (dcg dc_Jx4a65c_remove_915e3 1 rfl) rfl rfl ?_
  obtain ⟨hk1, hf⟩ := gd_some hf
  refine p_getI X fl_Jx4a65c_48 rfl (by decide) (dcg dc_Jx4a65c_remove_915e3 2 rfl) hk1 ?_
  obtain ⟨z2, hz2, hf⟩ := bd_some hf
  refine p_callS (As := [_, _]) X ml_Jx4a65c_118 (dcg dc_Jx4a65c_remove_915e3 3 rfl) rfl rfl  (wJ15_checkIndex_7cf53 hG hz2) (by decide) (room4 (Nat.le_of_ble_eq_true rfl)) (Nat.le_refl _) (Nat.le_refl _) ?_
  rintro _ u9 ⟨rfl, e9⟩; have e9 := e9.symm; subst e9
  refine p_pop X (dcg dc_Jx4a65c_remove_915e3 4 rfl) rfl ?_
  refine p_aload_n X (dcg dc_Jx4a65c_remove_915e3 5 rfl) rfl rfl ?_
  refine p_getR X fl_Jx4a65c_9 rfl (by decide) (dcg dc_Jx4a65c_remove_915e3 6 rfl) hk1 ?_
  refine p_astoreq_n X (dcg dc_Jx4a65c_remove_915e3 7 rfl) rfl (by decide) rfl ?_
  refine p_aloadq_n X (dcg dc_Jx4a65c_remove_915e3 8 rfl) rfl rfl ?_
  refine p_iload_n X (dcg dc_Jx4a65c_remove_915e3 9 rfl) rfl rfl ?_
  obtain ⟨a3, e4, hf⟩ := gs_some hf
  first | subst e4 | (try rw [e4])
  obtain ⟨⟨hk6, hb5⟩, hf⟩ := gd_some hf
  refine p_aald28 X (dcg dc_Jx4a65c_remove_915e3 10 rfl) hk6 (vp_of_inb hb5) ?_
  refine p_astoreq_n X (dcg dc_Jx4a65c_remove_915e3 11 rfl) rfl (by decide) rfl ?_
  refine p_aload_n X (dcg dc_Jx4a65c_remove_915e3 12 rfl) rfl rfl ?_
  refine p_aload_n X (dcg dc_Jx4a65c_remove_915e3 13 rfl) rfl rfl ?_
  refine p_iload_n X (dcg dc_Jx4a65c_remove_915e3 14 rfl) rfl rfl ?_
  obtain ⟨z7, hz7, hf⟩ := bd_some hf
  refine p_callV (As := [va_rf (some _), _]) X ml_Jx4a65c_144 (dcg dc_Jx4a65c_remove_915e3 15 rfl) rfl rfl hk1 (wJx4a65c_fastRemove_b59b0 hG hz7) (by decide) (room4 (Nat.le_of_ble_eq_true rfl)) (Nat.le_refl _) (Nat.le_refl _) ?_
  rintro _ u9 ⟨rfl, e9⟩; have e9 := e9.symm; subst e9
  refine p_aloadq_n X (dcg dc_Jx4a65c_remove_915e3 16 rfl) rfl rfl ?_
  have er := Option.some.inj hf
  subst er
  exact p_aret X rfl (Or.inl ⟨_, rfl⟩) (dcg dc_Jx4a65c_remove_915e3 17 rfl) ⟨rfl, rfl⟩ (Nat.le_refl _) (Nat.le_refl _)
theorem dc_X3_strike : decs cX3_strike [(0, .aload_n 0, 1), (1, .iload_n 1, 1), (2, .invokestatic 39, 3), (5, .invokevirtual 43, 3), (8, .istore_n 3, 1), (9, .iload_n 3, 1), (10, .aload_n 0, 1), (11, .getfield 12, 3), (14, .invokevirtual 22, 3), (17, .if_icmp .ge 21, 3), (20, .aload_n 0, 1), (21, .getfield 12, 3), (24, .iload_n 3, 1), (25, .invokevirtual 26, 3), (28, .checkcast 30, 3), (31, .getfield 32, 3), (34, .iload_n 1, 1), (35, .if_icmp .eq 4, 3), (38, .return_, 1), (39, .aload_n 0, 1), (40, .getfield 12, 3), (43, .iload_n 3, 1), (44, .invokevirtual 26, 3), (47, .checkcast 30, 3), (50, .getfield 69, 3), (53, .iload_n 2, 1), (54, .invokevirtual 79, 3), (57, .aload_n 0, 1), (58, .getfield 12, 3), (61, .iload_n 3, 1), (62, .invokevirtual 26, 3), (65, .checkcast 30, 3), (68, .getfield 69, 3), (71, .invokevirtual 82, 3), (74, .ifCond .ne 12, 3), (77, .aload_n 0, 1), (78, .getfield 12, 3), (81, .iload_n 3, 1), (82, .invokevirtual 83, 3), (85, .pop, 1), (86, .return_, 1)] = true := by decide +kernel
noncomputable def fX3_strike_b38  (h : PH) : Option PH :=
  some (h)
set_option maxRecDepth 100000 in
theorem mX3_strike_b38  {h : PH} {r : PH} (hf : fX3_strike_b38  h = some r) : eqz h (hX r) (hV r) := by
  unfold fX3_strike_b38 at hf
  have hle := eqz_rf h
  have ee := Option.some.inj hf; subst ee; exact hle
set_option maxRecDepth 100000 in
theorem wX3_strike_b38 {E : PE} {p : Program} {l : Launch} {e : Env} {s : State} {m : MethodId} {args : Array Value} {below : List Frame} {meth : Method} {c : Code} (X : Cx E p l e (rmv 4 0 0) s m args below meth c RX3 cX3_strike 4 (none)) (hG : Gs E l) (hnm : meth.name = yX3_strike.name)  {h : PH} {r : PH} (hf : fX3_strike_b38  h = some r)  : PW E p l e (rmv 4 0 0) s m args below meth c 4 0 0 (MQ below (QG E (fun v u => v = none ∧ u = r)) args s 0 0 (pA E)) h 38 [] [] := by
  unfold fX3_strike_b38 at hf
  have er := Option.some.inj hf
  subst er
  exact p_vret X rfl (dcg dc_X3_strike 18 rfl) ⟨rfl, rfl⟩ (Nat.le_refl _) (Nat.le_refl _)
noncomputable def fX3_strike_b86  (h : PH) : Option PH :=
  some (h)
set_option maxRecDepth 100000 in
theorem mX3_strike_b86  {h : PH} {r : PH} (hf : fX3_strike_b86  h = some r) : eqz h (hX r) (hV r) := by
  unfold fX3_strike_b86 at hf
  have hle := eqz_rf h
  have ee := Option.some.inj hf; subst ee; exact hle
set_option maxRecDepth 100000 in
theorem wX3_strike_b86 {E : PE} {p : Program} {l : Launch} {e : Env} {s : State} {m : MethodId} {args : Array Value} {below : List Frame} {meth : Method} {c : Code} (X : Cx E p l e (rmv 4 0 0) s m args below meth c RX3 cX3_strike 4 (none)) (hG : Gs E l) (hnm : meth.name = yX3_strike.name)  {h : PH} {r : PH} (hf : fX3_strike_b86  h = some r)  : PW E p l e (rmv 4 0 0) s m args below meth c 4 0 0 (MQ below (QG E (fun v u => v = none ∧ u = r)) args s 0 0 (pA E)) h 86 [] [] := by
  unfold fX3_strike_b86 at hf
  have er := Option.some.inj hf
  subst er
  exact p_vret X rfl (dcg dc_X3_strike 40 rfl) ⟨rfl, rfl⟩ (Nat.le_refl _) (Nat.le_refl _)
noncomputable def fX3_strike (v0 : Nat) (v1 : Int32) (v2 : Int32) (h : PH) : Option PH :=
  bd (fX10_orderOf v1) (fun z1 =>
  gd (hK h v0 = 3) (bd (fX3_countAhead v0 z1 h) (fun z3 =>
  gs (hR h 3 v0 0) (fun a4 =>
  gd (hK h a4 = 14) (bd (fJx4a65c_size_8abf5 a4 h) (fun z7 =>
  if (z7 ≤ z3) then (fX3_strike_b38  h) else
  gs (hR h 3 v0 0) (fun a8 =>
  gd (hK h a8 = 14) (bd (fJx4a65c_get_915e3 a8 z3 h) (fun z11 =>
  gs z11 (fun a12 =>
  gd (hK h a12 = 10) (if ((hI h 10 a12 0) = v1) then (gs (hR h 3 v0 0) (fun a15 =>
  gd (hK h a15 = 14) (bd (fJx4a65c_get_915e3 a15 z3 h) (fun z18 =>
  gs z18 (fun a19 =>
  gd (hK h a19 = 10) (gs (hR h 10 a19 2) (fun a22 =>
  gd (hK h a22 = 9) (bd (fX9_take a22 v2 h) (fun z25 =>
  gd (hK z25 v0 = 3) (gs (hR z25 3 v0 0) (fun a27 =>
  gd (hK z25 a27 = 14) (bd (fJx4a65c_get_915e3 a27 z3 z25) (fun z30 =>
  gs z30 (fun a31 =>
  gd (hK z25 a31 = 10) (gs (hR z25 10 a31 2) (fun a34 =>
  gd (hK z25 a34 = 9) (bd (fX9_size a34 z25) (fun z37 =>
  if (¬ z37 = 0) then (fX3_strike_b86  z25) else
  gs (hR z25 3 v0 0) (fun a38 =>
  gd (hK z25 a38 = 14) (bd (fJx4a65c_remove_915e3 a38 z3 z25) (fun z41 =>
  fX3_strike_b86  z41.2))))))))))))))))))))) else
  fX3_strike_b38  h)))))))))))
set_option maxRecDepth 100000 in
theorem mX3_strike {v0 : Nat} {v1 : Int32} {v2 : Int32} {h : PH} {r : PH} (hf : fX3_strike v0 v1 v2 h = some r) : eqz h (hX r) (hV r) := by
  unfold fX3_strike at hf
  have hle := eqz_rf h
  obtain ⟨z1, hz1, hf⟩ := bd_some hf
  obtain ⟨hk2, hf⟩ := gd_some hf
  obtain ⟨z3, hz3, hf⟩ := bd_some hf
  obtain ⟨a4, e5, hf⟩ := gs_some hf
  obtain ⟨hk6, hf⟩ := gd_some hf
  obtain ⟨z7, hz7, hf⟩ := bd_some hf
  rcases ite_or hf with ⟨q, hf⟩ | ⟨q, hf⟩
  · have hf := if_t q hf
    exact eqz_rt (mX3_strike_b38 hf) hle
  · have hf := if_f q hf
    obtain ⟨a8, e9, hf⟩ := gs_some hf
    obtain ⟨hk10, hf⟩ := gd_some hf
    obtain ⟨z11, hz11, hf⟩ := bd_some hf
    obtain ⟨a12, e13, hf⟩ := gs_some hf
    obtain ⟨hk14, hf⟩ := gd_some hf
    rcases ite_or hf with ⟨q, hf⟩ | ⟨q, hf⟩
    · have hf := if_t q hf
      obtain ⟨a15, e16, hf⟩ := gs_some hf
      obtain ⟨hk17, hf⟩ := gd_some hf
      obtain ⟨z18, hz18, hf⟩ := bd_some hf
      obtain ⟨a19, e20, hf⟩ := gs_some hf
      obtain ⟨hk21, hf⟩ := gd_some hf
      obtain ⟨a22, e23, hf⟩ := gs_some hf
      obtain ⟨hk24, hf⟩ := gd_some hf
      obtain ⟨z25, hz25, hf⟩ := bd_some hf
      have hle := eqz_rt (mX9_take hz25) hle
      obtain ⟨hk26, hf⟩ := gd_some hf
      obtain ⟨a27, e28, hf⟩ := gs_some hf
      obtain ⟨hk29, hf⟩ := gd_some hf
      obtain ⟨z30, hz30, hf⟩ := bd_some hf
      obtain ⟨a31, e32, hf⟩ := gs_some hf
      obtain ⟨hk33, hf⟩ := gd_some hf
      obtain ⟨a34, e35, hf⟩ := gs_some hf
      obtain ⟨hk36, hf⟩ := gd_some hf
      obtain ⟨z37, hz37, hf⟩ := bd_some hf
      rcases ite_or hf with ⟨q, hf⟩ | ⟨q, hf⟩
      · have hf := if_t q hf
        exact eqz_rt (mX3_strike_b86 hf) hle
      · have hf := if_f q hf
        obtain ⟨a38, e39, hf⟩ := gs_some hf
        obtain ⟨hk40, hf⟩ := gd_some hf
        obtain ⟨z41, hz41, hf⟩ := bd_some hf
        have hle := eqz_rt (mJx4a65c_remove_915e3 hz41) hle
        exact eqz_rt (mX3_strike_b86 hf) hle
    · have hf := if_f q hf
      exact eqz_rt (mX3_strike_b38 hf) hle
set_option maxRecDepth 100000 in
theorem wX3_strike {E : PE} {l : Launch} (hG : Gs E l) {v0 : Nat} {v1 : Int32} {v2 : Int32} {h : PH} {r : PH} (hf : fX3_strike v0 v1 v2 h = some r) : Ct E l 4 0 0 yX3_strike cX3_strike 4 (none) [.ref v0, .int v1, .int v2] h (fun v u => v = none ∧ u = r) := by
  refine ct_of hG (by decide) (Nat.le_of_ble_eq_true rfl) ?_
  intro p e s m args below meth c X hnm
  show PW E p l e _ s m args below meth c _ 0 0 _ h 0 [(0, some (.ref v0)), (1, some (.int v1)), (2, some (.int v2))] []
  unfold fX3_strike at hf
  refine p_aload_n X (dcg dc_X3_strike 0 rfl) rfl rfl ?_
  refine p_iload_n X (dcg dc_X3_strike 1 rfl) rfl rfl ?_
  obtain ⟨z1, hz1, hf⟩ := bd_some hf
  refine p_callS (As := [_]) X ml_X3_39 (dcg dc_X3_strike 2 rfl) rfl rfl  (wX10_orderOf hG hz1) (by decide) (room4 (Nat.le_of_ble_eq_true rfl)) (Nat.le_refl _) (Nat.le_refl _) ?_
  rintro _ u9 ⟨rfl, e9⟩; have e9 := e9.symm; subst e9
  obtain ⟨hk2, hf⟩ := gd_some hf
  obtain ⟨z3, hz3, hf⟩ := bd_some hf
  refine p_callV (As := [_]) X ml_X3_43 (dcg dc_X3_strike 3 rfl) rfl rfl hk2 (wX3_countAhead hG hz3) (by decide) (room4 (Nat.le_of_ble_eq_true rfl)) (Nat.le_refl _) (Nat.le_refl _) ?_
  rintro _ u9 ⟨rfl, e9⟩; have e9 := e9.symm; subst e9
  refine p_istore_n X (dcg dc_X3_strike 4 rfl) rfl (by decide) rfl ?_
  refine p_iload_n X (dcg dc_X3_strike 5 rfl) rfl rfl ?_
  refine p_aload_n X (dcg dc_X3_strike 6 rfl) rfl rfl ?_
  refine p_getR X fl_X3_12 rfl (by decide) (dcg dc_X3_strike 7 rfl) hk2 ?_
  obtain ⟨a4, e5, hf⟩ := gs_some hf
  first | subst e5 | (try rw [e5])
  obtain ⟨hk6, hf⟩ := gd_some hf
  obtain ⟨z7, hz7, hf⟩ := bd_some hf
  refine p_callV (As := []) X ml_X3_22 (dcg dc_X3_strike 8 rfl) rfl rfl hk6 (wJx4a65c_size_8abf5 hG hz7) (by decide) (room4 (Nat.le_of_ble_eq_true rfl)) (Nat.le_refl _) (Nat.le_refl _) ?_
  rintro _ u9 ⟨rfl, e9⟩; have e9 := e9.symm; subst e9
  refine p_icmp_ge (tgt := 38) X (dcg dc_X3_strike 9 rfl) (by decide) (fun q => ?_) (fun q => ?_)
  · have hf := if_t q hf
    refine p_pick [] ?_
    exact wX3_strike_b38 X hG hnm hf 
  · have hf := if_f q hf
    refine p_aload_n X (dcg dc_X3_strike 10 rfl) rfl rfl ?_
    refine p_getR X fl_X3_12 rfl (by decide) (dcg dc_X3_strike 11 rfl) hk2 ?_
    refine p_iload_n X (dcg dc_X3_strike 12 rfl) rfl rfl ?_
    obtain ⟨a8, e9, hf⟩ := gs_some hf
    first | subst e9 | (try rw [e9])
    obtain ⟨hk10, hf⟩ := gd_some hf
    obtain ⟨z11, hz11, hf⟩ := bd_some hf
    refine p_callV (As := [_]) X ml_X3_26 (dcg dc_X3_strike 13 rfl) rfl rfl hk10 (wJx4a65c_get_915e3 hG hz11) (by decide) (room4 (Nat.le_of_ble_eq_true rfl)) (Nat.le_refl _) (Nat.le_refl _) ?_
    rintro _ u9 ⟨rfl, e9⟩; have e9 := e9.symm; subst e9
    obtain ⟨a12, e13, hf⟩ := gs_some hf
    first | subst e13 | (try rw [e13])
    obtain ⟨hk14, hf⟩ := gd_some hf
    refine p_cast (q := (RX10, TX10, 3)) X rfl tw_505 (dcg dc_X3_strike 14 rfl) hk14 ?_
    refine p_getIn X fl_X3_32 rfl (by decide) (dcg dc_X3_strike 15 rfl) hk14 ?_
    refine p_iload_n X (dcg dc_X3_strike 16 rfl) rfl rfl ?_
    refine p_icmp_eq (tgt := 39) X (dcg dc_X3_strike 17 rfl) (by decide) (fun q => ?_) (fun q => ?_)
    · have hf := if_t q hf
      refine p_aload_n X (dcg dc_X3_strike 19 rfl) rfl rfl ?_
      refine p_getR X fl_X3_12 rfl (by decide) (dcg dc_X3_strike 20 rfl) hk2 ?_
      refine p_iload_n X (dcg dc_X3_strike 21 rfl) rfl rfl ?_
      obtain ⟨a15, e16, hf⟩ := gs_some hf
      first | subst e16 | (try rw [e16])
      obtain ⟨hk17, hf⟩ := gd_some hf
      obtain ⟨z18, hz18, hf⟩ := bd_some hf
      refine p_callV (As := [_]) X ml_X3_26 (dcg dc_X3_strike 22 rfl) rfl rfl hk17 (wJx4a65c_get_915e3 hG hz18) (by decide) (room4 (Nat.le_of_ble_eq_true rfl)) (Nat.le_refl _) (Nat.le_refl _) ?_
      rintro _ u9 ⟨rfl, e9⟩; have e9 := e9.symm; subst e9
      obtain ⟨a19, e20, hf⟩ := gs_some hf
      first | subst e20 | (try rw [e20])
      obtain ⟨hk21, hf⟩ := gd_some hf
      refine p_cast (q := (RX10, TX10, 3)) X rfl tw_505 (dcg dc_X3_strike 23 rfl) hk21 ?_
      refine p_getRn X fl_X3_69 rfl (by decide) (dcg dc_X3_strike 24 rfl) hk21 ?_
      refine p_iload_n X (dcg dc_X3_strike 25 rfl) rfl rfl ?_
      obtain ⟨a22, e23, hf⟩ := gs_some hf
      first | subst e23 | (try rw [e23])
      obtain ⟨hk24, hf⟩ := gd_some hf
      obtain ⟨z25, hz25, hf⟩ := bd_some hf
      refine p_callV (As := [_]) X ml_X3_79 (dcg dc_X3_strike 26 rfl) rfl rfl hk24 (wX9_take hG hz25) (by decide) (room4 (Nat.le_of_ble_eq_true rfl)) (Nat.le_refl _) (Nat.le_refl _) ?_
      rintro _ u9 ⟨rfl, e9⟩; have e9 := e9.symm; subst e9
      refine p_aload_n X (dcg dc_X3_strike 27 rfl) rfl rfl ?_
      obtain ⟨hk26, hf⟩ := gd_some hf
      refine p_getR X fl_X3_12 rfl (by decide) (dcg dc_X3_strike 28 rfl) hk26 ?_
      refine p_iload_n X (dcg dc_X3_strike 29 rfl) rfl rfl ?_
      obtain ⟨a27, e28, hf⟩ := gs_some hf
      first | subst e28 | (try rw [e28])
      obtain ⟨hk29, hf⟩ := gd_some hf
      obtain ⟨z30, hz30, hf⟩ := bd_some hf
      refine p_callV (As := [_]) X ml_X3_26 (dcg dc_X3_strike 30 rfl) rfl rfl hk29 (wJx4a65c_get_915e3 hG hz30) (by decide) (room4 (Nat.le_of_ble_eq_true rfl)) (Nat.le_refl _) (Nat.le_refl _) ?_
      rintro _ u9 ⟨rfl, e9⟩; have e9 := e9.symm; subst e9
      obtain ⟨a31, e32, hf⟩ := gs_some hf
      first | subst e32 | (try rw [e32])
      obtain ⟨hk33, hf⟩ := gd_some hf
      refine p_cast (q := (RX10, TX10, 3)) X rfl tw_505 (dcg dc_X3_strike 31 rfl) hk33 ?_
      refine p_getRn X fl_X3_69 rfl (by decide) (dcg dc_X3_strike 32 rfl) hk33 ?_
      obtain ⟨a34, e35, hf⟩ := gs_some hf
      first | subst e35 | (try rw [e35])
      obtain ⟨hk36, hf⟩ := gd_some hf
      obtain ⟨z37, hz37, hf⟩ := bd_some hf
      refine p_callV (As := []) X ml_X3_82 (dcg dc_X3_strike 33 rfl) rfl rfl hk36 (wX9_size hG hz37) (by decide) (room4 (Nat.le_of_ble_eq_true rfl)) (Nat.le_refl _) (Nat.le_refl _) ?_
      rintro _ u9 ⟨rfl, e9⟩; have e9 := e9.symm; subst e9
      refine p_if_ne (tgt := 86) X (dcg dc_X3_strike 34 rfl) (by decide) (fun q => ?_) (fun q => ?_)
      · have hf := if_t q hf
        refine p_pick [] ?_
        exact wX3_strike_b86 X hG hnm hf 
      · have hf := if_f q hf
        refine p_aload_n X (dcg dc_X3_strike 35 rfl) rfl rfl ?_
        refine p_getR X fl_X3_12 rfl (by decide) (dcg dc_X3_strike 36 rfl) hk26 ?_
        refine p_iload_n X (dcg dc_X3_strike 37 rfl) rfl rfl ?_
        obtain ⟨a38, e39, hf⟩ := gs_some hf
        first | subst e39 | (try rw [e39])
        obtain ⟨hk40, hf⟩ := gd_some hf
        obtain ⟨z41, hz41, hf⟩ := bd_some hf
        refine p_callV (As := [_]) X ml_X3_83 (dcg dc_X3_strike 38 rfl) rfl rfl hk40 (wJx4a65c_remove_915e3 hG hz41) (by decide) (room4 (Nat.le_of_ble_eq_true rfl)) (Nat.le_refl _) (Nat.le_refl _) ?_
        rintro _ u9 ⟨rfl, e9⟩; have e9 := e9.symm; subst e9
        refine p_pop X (dcg dc_X3_strike 39 rfl) (cat_rf _) ?_
        refine p_pick [] ?_
        exact wX3_strike_b86 X hG hnm hf 
    · have hf := if_f q hf
      refine p_pick [] ?_
      exact wX3_strike_b38 X hG hnm hf 
theorem dc_X3_follow : decs cX3_follow [(0, .aload_n 3, 1), (1, .ifnull 32, 3), (4, .iconst 0, 1), (5, .istore 4, 2), (7, .iload 4, 2), (9, .aload_n 3, 1), (10, .invokevirtual 46, 3), (13, .if_icmp .ge 20, 3), (16, .aload_n 0, 1), (17, .aload_n 3, 1), (18, .iload 4, 2), (20, .invokevirtual 49, 3), (23, .iload_n 1, 1), (24, .invokevirtual 52, 3), (27, .iinc 4 1, 3), (30, .goto (-23), 3), (33, .aload_n 2, 1), (34, .ifnull 49, 3), (37, .iconst 0, 1), (38, .istore 4, 2), (40, .iload 4, 2), (42, .aload_n 2, 1), (43, .invokevirtual 46, 3), (46, .if_icmp .ge 37, 3), (49, .aload_n 3, 1), (50, .ifnull 16, 3), (53, .aload_n 3, 1), (54, .aload_n 2, 1), (55, .iload 4, 2), (57, .invokevirtual 49, 3), (60, .invokevirtual 56, 3), (63, .ifCond .ne 14, 3), (66, .aload_n 0, 1), (67, .aload_n 2, 1), (68, .iload 4, 2), (70, .invokevirtual 49, 3), (73, .iload_n 1, 1), (74, .invokevirtual 60, 3), (77, .iinc 4 1, 3), (80, .goto (-40), 3), (83, .return_, 1)] = true := by decide +kernel
noncomputable def fX3_follow_b83  (h : PH) : Option PH :=
  some (h)
set_option maxRecDepth 100000 in
theorem mX3_follow_b83  {h : PH} {r : PH} (hf : fX3_follow_b83  h = some r) : lez h (hX r) (hV r) := by
  unfold fX3_follow_b83 at hf
  have hle := lez_rf h
  have ee := Option.some.inj hf; subst ee; exact hle
set_option maxRecDepth 100000 in
theorem wX3_follow_b83 {E : PE} {p : Program} {l : Launch} {e : Env} {s : State} {m : MethodId} {args : Array Value} {below : List Frame} {meth : Method} {c : Code} {X0 V0 MC MS uc us : Nat} (X : Cx E p l e (rmv 7 MC MS) s m args below meth c RX3 cX3_follow 5 (none)) (hG : Gs E l) (hnm : meth.name = yX3_follow.name)  {h : PH} {r : PH} (hM : MC + X0 = (hX r)) (hN : MS + V0 = (hV r)) (hu : uc + X0 = hX h) (hv : us + V0 = hV h) (hf : fX3_follow_b83  h = some r)  : PW E p l e (rmv 7 MC MS) s m args below meth c 5 uc us (MQ below (QG E (fun v u => v = none ∧ u = r)) args s MC MS (pA E)) h 83 [] [] := by
  have hm1 : lez h (hX r) (hV r) := mX3_follow_b83 hf
  have hcm : uc ≤ MC := (by have o0 := hm1.1; have o1 := hM; have o2 := hu; (try simp only [hX_sI, hX_sR, hX_sL, hX_sD, hX_sIa, hX_sRa, hV_sI, hV_sR, hV_sL, hV_sD, hV_sIa, hV_sRa, hX_new, hV_new] at o0 o1 o2 ⊢); omega)
  have hsm : us ≤ MS := (by have o0 := hm1.2; have o1 := hN; have o2 := hv; (try simp only [hX_sI, hX_sR, hX_sL, hX_sD, hX_sIa, hX_sRa, hV_sI, hV_sR, hV_sL, hV_sD, hV_sIa, hV_sRa, hX_new, hV_new] at o0 o1 o2 ⊢); omega)
  clear hm1
  unfold fX3_follow_b83 at hf
  have er := Option.some.inj hf
  subst er
  exact p_vret X rfl (dcg dc_X3_follow 40 rfl) ⟨rfl, rfl⟩ hcm hsm
noncomputable def fX3_follow_b77 (v0 : Nat) (v1 : Int32) (v2 : Option Nat) (v3 : Option Nat) (v4 : Int32) (h : PH) : Option ((Int32 × PH) ⊕ PH) :=
  some (.inl ((v4 + 1), h))
set_option maxRecDepth 100000 in
theorem mX3_follow_b77 {v0 : Nat} {v1 : Int32} {v2 : Option Nat} {v3 : Option Nat} {v4 : Int32} {h : PH} {x : ((Int32 × PH) ⊕ PH)} (hf : fX3_follow_b77 v0 v1 v2 v3 v4 h = some x) : (∀ w9 : (Int32 × PH), x = .inl w9 → lez h (hX (w9.2)) (hV (w9.2))) ∧ (∀ w9 : PH, x = .inr w9 → lez h (hX w9) (hV w9)) := by
  unfold fX3_follow_b77 at hf
  have hle := lez_rf h
  have ee := Option.some.inj hf; subst ee
  exact ⟨(fun z e => by have ee := Sum.inl.inj (e); subst ee; exact hle), (fun z e => nomatch e)⟩
set_option maxRecDepth 100000 in
theorem wX3_follow_b77 {E : PE} {p : Program} {l : Launch} {e : Env} {s : State} {m : MethodId} {args : Array Value} {below : List Frame} {meth : Method} {c : Code} {X0 V0 MC MS uc us : Nat} (X : Cx E p l e (rmv 7 MC MS) s m args below meth c RX3 cX3_follow 5 (none)) (hG : Gs E l) (hnm : meth.name = yX3_follow.name) {v0 : Nat} {v1 : Int32} {v2 : Option Nat} {v3 : Option Nat} {v4 : Int32} {h : PH} {r : PH} {x : ((Int32 × PH) ⊕ PH)} (hM : MC + X0 = (hX r)) (hN : MS + V0 = (hV r)) (hu : uc + X0 = hX h) (hv : us + V0 = hV h) (hf : fX3_follow_b77 v0 v1 v2 v3 v4 h = some x) (k0 : ∀ (z : (Int32 × PH)) (uc us : Nat), x = .inl z → uc + X0 = hX (z.2) → us + V0 = hV (z.2) → PW E p l e (rmv 7 MC MS) s m args below meth c 5 uc us (MQ below (QG E (fun v u => v = none ∧ u = r)) args s MC MS (pA E)) (z.2) 40 [(0, some (.ref v0)), (1, some (.int v1)), (2, some (va_rf v2)), (3, some (va_rf v3)), (4, some (.int (z.1)))] []) (kl0 : ∀ z : (Int32 × PH), x = .inl z → lez (z.2) (hX r) (hV r)) (kf : ∀ z : PH, x = .inr z → z = r) : PW E p l e (rmv 7 MC MS) s m args below meth c 5 uc us (MQ below (QG E (fun v u => v = none ∧ u = r)) args s MC MS (pA E)) h 77 [(0, some (.ref v0)), (1, some (.int v1)), (2, some (va_rf v2)), (3, some (va_rf v3)), (4, some (.int v4))] [] := by
  have hm1 : lez h (hX r) (hV r) := by
    obtain ⟨c0, cf⟩ := mX3_follow_b77 hf
    rcases hxx : x with zz | zz
    · exact lez_tr (c0 zz hxx) (kl0 zz hxx)
    · have ee := kf zz hxx; subst ee; exact cf zz hxx
  have hcm : uc ≤ MC := (by have o0 := hm1.1; have o1 := hM; have o2 := hu; (try simp only [hX_sI, hX_sR, hX_sL, hX_sD, hX_sIa, hX_sRa, hV_sI, hV_sR, hV_sL, hV_sD, hV_sIa, hV_sRa, hX_new, hV_new] at o0 o1 o2 ⊢); omega)
  have hsm : us ≤ MS := (by have o0 := hm1.2; have o1 := hN; have o2 := hv; (try simp only [hX_sI, hX_sR, hX_sL, hX_sD, hX_sIa, hX_sRa, hV_sI, hV_sR, hV_sL, hV_sD, hV_sIa, hV_sRa, hX_new, hV_new] at o0 o1 o2 ⊢); omega)
  clear hm1
  unfold fX3_follow_b77 at hf
  refine p_iinc (v := 1) X (dcg dc_X3_follow 38 rfl) rfl (by decide) (by decide) (nwq (k := 3) rfl) ?_
  refine p_goto (tgt := 40) X (dcg dc_X3_follow 39 rfl) (by decide) ?_
  refine p_pick [0, 1, 2, 3, 4] ?_
  exact k0 _ _ _ (Option.some.inj hf).symm hu hv
noncomputable def fX3_follow_b66 (v0 : Nat) (v1 : Int32) (v2 : Option Nat) (v3 : Option Nat) (v4 : Int32) (h : PH) : Option ((Int32 × PH) ⊕ PH) :=
  gs v2 (fun a10 =>
  gd (hK h a10 = 8) (bd (fX8_at a10 v4 h) (fun z13 =>
  gd (hK h v0 = 3) (bd (fX3_strike v0 z13 v1 h) (fun z15 =>
  fX3_follow_b77 v0 v1 (some a10) v3 v4 z15)))))
set_option maxRecDepth 100000 in
theorem mX3_follow_b66 {v0 : Nat} {v1 : Int32} {v2 : Option Nat} {v3 : Option Nat} {v4 : Int32} {h : PH} {x : ((Int32 × PH) ⊕ PH)} (hf : fX3_follow_b66 v0 v1 v2 v3 v4 h = some x) : (∀ w9 : (Int32 × PH), x = .inl w9 → lez h (hX (w9.2)) (hV (w9.2))) ∧ (∀ w9 : PH, x = .inr w9 → lez h (hX w9) (hV w9)) := by
  unfold fX3_follow_b66 at hf
  have hle := lez_rf h
  obtain ⟨a10, e11, hf⟩ := gs_some hf
  obtain ⟨hk12, hf⟩ := gd_some hf
  obtain ⟨z13, hz13, hf⟩ := bd_some hf
  obtain ⟨hk14, hf⟩ := gd_some hf
  obtain ⟨z15, hz15, hf⟩ := bd_some hf
  have hle := lez_rt (lez_eq (mX3_strike hz15)) hle
  obtain ⟨c0, cf⟩ := mX3_follow_b77 hf
  exact ⟨fun z e => lez_rt (c0 z (e)) hle, fun z e => lez_rt (cf z (e)) hle⟩
set_option maxRecDepth 100000 in
theorem wX3_follow_b66 {E : PE} {p : Program} {l : Launch} {e : Env} {s : State} {m : MethodId} {args : Array Value} {below : List Frame} {meth : Method} {c : Code} {X0 V0 MC MS uc us : Nat} (X : Cx E p l e (rmv 7 MC MS) s m args below meth c RX3 cX3_follow 5 (none)) (hG : Gs E l) (hnm : meth.name = yX3_follow.name) {v0 : Nat} {v1 : Int32} {v2 : Option Nat} {v3 : Option Nat} {v4 : Int32} {h : PH} {r : PH} {x : ((Int32 × PH) ⊕ PH)} (hM : MC + X0 = (hX r)) (hN : MS + V0 = (hV r)) (hu : uc + X0 = hX h) (hv : us + V0 = hV h) (hf : fX3_follow_b66 v0 v1 v2 v3 v4 h = some x) (k0 : ∀ (z : (Int32 × PH)) (uc us : Nat), x = .inl z → uc + X0 = hX (z.2) → us + V0 = hV (z.2) → PW E p l e (rmv 7 MC MS) s m args below meth c 5 uc us (MQ below (QG E (fun v u => v = none ∧ u = r)) args s MC MS (pA E)) (z.2) 40 [(0, some (.ref v0)), (1, some (.int v1)), (2, some (va_rf v2)), (3, some (va_rf v3)), (4, some (.int (z.1)))] []) (kl0 : ∀ z : (Int32 × PH), x = .inl z → lez (z.2) (hX r) (hV r)) (kf : ∀ z : PH, x = .inr z → z = r) : PW E p l e (rmv 7 MC MS) s m args below meth c 5 uc us (MQ below (QG E (fun v u => v = none ∧ u = r)) args s MC MS (pA E)) h 66 [(0, some (.ref v0)), (1, some (.int v1)), (2, some (va_rf v2)), (3, some (va_rf v3)), (4, some (.int v4))] [] := by
  have hm1 : lez h (hX r) (hV r) := by
    obtain ⟨c0, cf⟩ := mX3_follow_b66 hf
    rcases hxx : x with zz | zz
    · exact lez_tr (c0 zz hxx) (kl0 zz hxx)
    · have ee := kf zz hxx; subst ee; exact cf zz hxx
  have hcm : uc ≤ MC := (by have o0 := hm1.1; have o1 := hM; have o2 := hu; (try simp only [hX_sI, hX_sR, hX_sL, hX_sD, hX_sIa, hX_sRa, hV_sI, hV_sR, hV_sL, hV_sD, hV_sIa, hV_sRa, hX_new, hV_new] at o0 o1 o2 ⊢); omega)
  have hsm : us ≤ MS := (by have o0 := hm1.2; have o1 := hN; have o2 := hv; (try simp only [hX_sI, hX_sR, hX_sL, hX_sD, hX_sIa, hX_sRa, hV_sI, hV_sR, hV_sL, hV_sD, hV_sIa, hV_sRa, hX_new, hV_new] at o0 o1 o2 ⊢); omega)
  clear hm1
  unfold fX3_follow_b66 at hf
  refine p_aload_n X (dcg dc_X3_follow 32 rfl) rfl rfl ?_
  refine p_aloadq_n X (dcg dc_X3_follow 33 rfl) rfl rfl ?_
  refine p_iload X (dcg dc_X3_follow 34 rfl) rfl ?_
  obtain ⟨a10, e11, hf⟩ := gs_some hf
  first | subst e11 | (try rw [e11])
  obtain ⟨hk12, hf⟩ := gd_some hf
  obtain ⟨z13, hz13, hf⟩ := bd_some hf
  refine p_callV (As := [_]) X ml_X3_49 (dcg dc_X3_follow 35 rfl) rfl rfl hk12 (wX8_at hG hz13) (by decide) (room4 (Nat.le_of_ble_eq_true rfl)) hcm hsm ?_
  rintro _ u9 ⟨rfl, e9⟩; have e9 := e9.symm; subst e9
  refine p_iload_n X (dcg dc_X3_follow 36 rfl) rfl rfl ?_
  obtain ⟨hk14, hf⟩ := gd_some hf
  obtain ⟨z15, hz15, hf⟩ := bd_some hf
  refine p_callV (As := [_, _]) X ml_X3_60 (dcg dc_X3_follow 37 rfl) rfl rfl hk14 (wX3_strike hG hz15) (by decide) (room4 (Nat.le_of_ble_eq_true rfl)) hcm hsm ?_
  rintro _ u9 ⟨rfl, e9⟩; have e9 := e9.symm; subst e9
  have hu := hu.trans (mX3_strike hz15).1
  have hv := hv.trans (mX3_strike hz15).2
  refine p_pick [0, 1, 2, 3, 4] ?_
  exact wX3_follow_b77 X hG hnm hM hN hu hv hf k0 kl0 kf
noncomputable def fX3_follow_c40 (v0 : Nat) (v1 : Int32) (v2 : Option Nat) (v3 : Option Nat) (v4 : Int32) (h : PH) : Option ((Int32 × PH) ⊕ PH) :=
  gs v2 (fun a3 =>
  gd (hK h a3 = 8) (bd (fX8_size a3 h) (fun z6 =>
  if (z6 ≤ v4) then (mr (fX3_follow_b83  h)) else
  mq v3 (fX3_follow_b66 v0 v1 (some a3) v3 v4 h) (fun a9 =>
  bd (fX8_at a3 v4 h) (fun z16 =>
  gd (hK h a9 = 8) (bd (fX8_has a9 z16 h) (fun z18 =>
  if (¬ z18 = 0) then (fX3_follow_b77 v0 v1 (some a3) (some a9) v4 h) else
  fX3_follow_b66 v0 v1 (some a3) (some a9) v4 h)))))))
set_option maxRecDepth 100000 in
theorem mX3_follow_c40 {v0 : Nat} {v1 : Int32} {v2 : Option Nat} {v3 : Option Nat} {v4 : Int32} {h : PH} {x : ((Int32 × PH) ⊕ PH)} (hf : fX3_follow_c40 v0 v1 v2 v3 v4 h = some x) : (∀ w9 : (Int32 × PH), x = .inl w9 → lez h (hX (w9.2)) (hV (w9.2))) ∧ (∀ w9 : PH, x = .inr w9 → lez h (hX w9) (hV w9)) := by
  unfold fX3_follow_c40 at hf
  have hle := lez_rf h
  obtain ⟨a3, e4, hf⟩ := gs_some hf
  obtain ⟨hk5, hf⟩ := gd_some hf
  obtain ⟨z6, hz6, hf⟩ := bd_some hf
  rcases ite_or hf with ⟨q, hf⟩ | ⟨q, hf⟩
  · have hf := if_t q hf
    obtain ⟨y7, hfm, rfl⟩ := mr_some hf; have hf := hfm; clear hfm
    have cf := mX3_follow_b83 hf
    exact ⟨(fun z e => nomatch e), (fun z e => by cases e <;> exact lez_rt cf hle)⟩
  · have hf := if_f q hf
    rcases mq_or hf with ⟨q, hf⟩ | ⟨a9, q, hf⟩
    · have hf := mq_n q hf
      obtain ⟨c0, cf⟩ := mX3_follow_b66 hf
      exact ⟨fun z e => lez_rt (c0 z (e)) hle, fun z e => lez_rt (cf z (e)) hle⟩
    · have hk19 := mq_s q hf
      first | subst q | skip
      have hf := hk19
      obtain ⟨z16, hz16, hf⟩ := bd_some hf
      obtain ⟨hk17, hf⟩ := gd_some hf
      obtain ⟨z18, hz18, hf⟩ := bd_some hf
      rcases ite_or hf with ⟨q, hf⟩ | ⟨q, hf⟩
      · have hf := if_t q hf
        obtain ⟨c0, cf⟩ := mX3_follow_b77 hf
        exact ⟨fun z e => lez_rt (c0 z (e)) hle, fun z e => lez_rt (cf z (e)) hle⟩
      · have hf := if_f q hf
        obtain ⟨c0, cf⟩ := mX3_follow_b66 hf
        exact ⟨fun z e => lez_rt (c0 z (e)) hle, fun z e => lez_rt (cf z (e)) hle⟩
set_option maxRecDepth 100000 in
theorem wX3_follow_c40 {E : PE} {p : Program} {l : Launch} {e : Env} {s : State} {m : MethodId} {args : Array Value} {below : List Frame} {meth : Method} {c : Code} {X0 V0 MC MS uc us : Nat} (X : Cx E p l e (rmv 7 MC MS) s m args below meth c RX3 cX3_follow 5 (none)) (hG : Gs E l) (hnm : meth.name = yX3_follow.name) {v0 : Nat} {v1 : Int32} {v2 : Option Nat} {v3 : Option Nat} {v4 : Int32} {h : PH} {r : PH} {x : ((Int32 × PH) ⊕ PH)} (hM : MC + X0 = (hX r)) (hN : MS + V0 = (hV r)) (hu : uc + X0 = hX h) (hv : us + V0 = hV h) (hf : fX3_follow_c40 v0 v1 v2 v3 v4 h = some x) (k0 : ∀ (z : (Int32 × PH)) (uc us : Nat), x = .inl z → uc + X0 = hX (z.2) → us + V0 = hV (z.2) → PW E p l e (rmv 7 MC MS) s m args below meth c 5 uc us (MQ below (QG E (fun v u => v = none ∧ u = r)) args s MC MS (pA E)) (z.2) 40 [(0, some (.ref v0)), (1, some (.int v1)), (2, some (va_rf v2)), (3, some (va_rf v3)), (4, some (.int (z.1)))] []) (kl0 : ∀ z : (Int32 × PH), x = .inl z → lez (z.2) (hX r) (hV r)) (kf : ∀ z : PH, x = .inr z → z = r) : PW E p l e (rmv 7 MC MS) s m args below meth c 5 uc us (MQ below (QG E (fun v u => v = none ∧ u = r)) args s MC MS (pA E)) h 40 [(0, some (.ref v0)), (1, some (.int v1)), (2, some (va_rf v2)), (3, some (va_rf v3)), (4, some (.int v4))] [] := by
  have hm1 : lez h (hX r) (hV r) := by
    obtain ⟨c0, cf⟩ := mX3_follow_c40 hf
    rcases hxx : x with zz | zz
    · exact lez_tr (c0 zz hxx) (kl0 zz hxx)
    · have ee := kf zz hxx; subst ee; exact cf zz hxx
  have hcm : uc ≤ MC := (by have o0 := hm1.1; have o1 := hM; have o2 := hu; (try simp only [hX_sI, hX_sR, hX_sL, hX_sD, hX_sIa, hX_sRa, hV_sI, hV_sR, hV_sL, hV_sD, hV_sIa, hV_sRa, hX_new, hV_new] at o0 o1 o2 ⊢); omega)
  have hsm : us ≤ MS := (by have o0 := hm1.2; have o1 := hN; have o2 := hv; (try simp only [hX_sI, hX_sR, hX_sL, hX_sD, hX_sIa, hX_sRa, hV_sI, hV_sR, hV_sL, hV_sD, hV_sIa, hV_sRa, hX_new, hV_new] at o0 o1 o2 ⊢); omega)
  clear hm1
  unfold fX3_follow_c40 at hf
  refine p_iload X (dcg dc_X3_follow 20 rfl) rfl ?_
  refine p_aloadq_n X (dcg dc_X3_follow 21 rfl) rfl rfl ?_
  obtain ⟨a3, e4, hf⟩ := gs_some hf
  first | subst e4 | (try rw [e4])
  obtain ⟨hk5, hf⟩ := gd_some hf
  obtain ⟨z6, hz6, hf⟩ := bd_some hf
  refine p_callV (As := []) X ml_X3_46 (dcg dc_X3_follow 22 rfl) rfl rfl hk5 (wX8_size hG hz6) (by decide) (room4 (Nat.le_of_ble_eq_true rfl)) hcm hsm ?_
  rintro _ u9 ⟨rfl, e9⟩; have e9 := e9.symm; subst e9
  refine p_icmp_ge (tgt := 83) X (dcg dc_X3_follow 23 rfl) (by decide) (fun q => ?_) (fun q => ?_)
  · have hf := if_t q hf
    obtain ⟨y7, hf, hy8⟩ := mr_some hf
    have hy8f := kf y7 hy8
    subst hy8f
    refine p_pick [] ?_
    exact wX3_follow_b83 X hG hnm hM hN hu hv hf 
  · have hf := if_f q hf
    refine p_aloadq_n X (dcg dc_X3_follow 24 rfl) rfl rfl ?_
    refine p_ifnull (tgt := 66) X (dcg dc_X3_follow 25 rfl) (by decide) (fun q => ?_) (fun a9 q => ?_)
    · have hk19 := mq_n q hf
      first | subst q | (try rw [q])
      have hf := hk19
      refine p_pick [0, 1, 2, 3, 4] ?_
      exact wX3_follow_b66 X hG hnm hM hN hu hv hf k0 kl0 kf
    · have hk19 := mq_s q hf
      first | subst q | (try rw [q])
      have hf := hk19
      refine p_aload_n X (dcg dc_X3_follow 26 rfl) rfl rfl ?_
      refine p_aload_n X (dcg dc_X3_follow 27 rfl) rfl rfl ?_
      refine p_iload X (dcg dc_X3_follow 28 rfl) rfl ?_
      obtain ⟨z16, hz16, hf⟩ := bd_some hf
      refine p_callV (As := [_]) X ml_X3_49 (dcg dc_X3_follow 29 rfl) rfl rfl hk5 (wX8_at hG hz16) (by decide) (room4 (Nat.le_of_ble_eq_true rfl)) hcm hsm ?_
      rintro _ u9 ⟨rfl, e9⟩; have e9 := e9.symm; subst e9
      obtain ⟨hk17, hf⟩ := gd_some hf
      obtain ⟨z18, hz18, hf⟩ := bd_some hf
      refine p_callV (As := [_]) X ml_X3_56 (dcg dc_X3_follow 30 rfl) rfl rfl hk17 (wX8_has hG hz18) (by decide) (room4 (Nat.le_of_ble_eq_true rfl)) hcm hsm ?_
      rintro _ u9 ⟨rfl, e9⟩; have e9 := e9.symm; subst e9
      refine p_if_ne (tgt := 77) X (dcg dc_X3_follow 31 rfl) (by decide) (fun q => ?_) (fun q => ?_)
      · have hf := if_t q hf
        refine p_pick [0, 1, 2, 3, 4] ?_
        exact wX3_follow_b77 X hG hnm hM hN hu hv hf k0 kl0 kf
      · have hf := if_f q hf
        refine p_pick [0, 1, 2, 3, 4] ?_
        exact wX3_follow_b66 X hG hnm hM hN hu hv hf k0 kl0 kf
noncomputable def fX3_follow_l40 (v0 : Nat) (v1 : Int32) (v2 : Option Nat) (v3 : Option Nat) (v4 : Int32) (h : PH) : Option PH := wh (fun z : (Int32 × PH) => fX3_follow_c40 v0 v1 v2 v3 (z.1) (z.2)) (v4, h)
set_option maxRecDepth 100000 in
theorem mX3_follow_l40 {v0 : Nat} {v1 : Int32} {v2 : Option Nat} {v3 : Option Nat} {v4 : Int32} {h : PH} {r : PH} (hf : fX3_follow_l40 v0 v1 v2 v3 v4 h = some r) : lez h (hX r) (hV r) := by
  unfold fX3_follow_l40 at hf
  refine wh_ind (P := fun z => lez (z.2) (hX r) (hV r)) (fun z x0 hs i1 i2 => ?_) _ hf
  obtain ⟨c0, cf⟩ := mX3_follow_c40 (v0 := v0) (v1 := v1) (v2 := v2) (v3 := v3) (v4 := z.1) (h := z.2) hs
  rcases hxx : x0 with zz | zz
  · exact lez_tr (c0 zz hxx) (i1 zz hxx)
  · have ee := i2 zz hxx; subst ee; exact cf zz hxx
set_option maxRecDepth 100000 in
theorem wX3_follow_l40 {E : PE} {p : Program} {l : Launch} {e : Env} {s : State} {m : MethodId} {args : Array Value} {below : List Frame} {meth : Method} {c : Code} {X0 V0 MC MS uc us : Nat} (X : Cx E p l e (rmv 7 MC MS) s m args below meth c RX3 cX3_follow 5 (none)) (hG : Gs E l) (hnm : meth.name = yX3_follow.name) {v0 : Nat} {v1 : Int32} {v2 : Option Nat} {v3 : Option Nat} {v4 : Int32} {h : PH} {r : PH} (hM : MC + X0 = (hX r)) (hN : MS + V0 = (hV r)) (hu : uc + X0 = hX h) (hv : us + V0 = hV h) (hf : fX3_follow_l40 v0 v1 v2 v3 v4 h = some r)  : PW E p l e (rmv 7 MC MS) s m args below meth c 5 uc us (MQ below (QG E (fun v u => v = none ∧ u = r)) args s MC MS (pA E)) h 40 [(0, some (.ref v0)), (1, some (.int v1)), (2, some (va_rf v2)), (3, some (va_rf v3)), (4, some (.int v4))] [] := by
  unfold fX3_follow_l40 at hf
  refine wh_ind2 (P := fun z => ∀ uc us : Nat, uc + X0 = hX (z.2) → us + V0 = hV (z.2) → PW E p l e (rmv 7 MC MS) s m args below meth c 5 uc us (MQ below (QG E (fun v u => v = none ∧ u = r)) args s MC MS (pA E)) (z.2) 40 [(0, some (.ref v0)), (1, some (.int v1)), (2, some (va_rf v2)), (3, some (va_rf v3)), (4, some (.int (z.1)))] []) (fun z x0 hs i1 i2 uc us hu hv => ?_) _ hf uc us hu hv
  exact wX3_follow_c40 (r := r) (v0 := v0) (v1 := v1) (v2 := v2) (v3 := v3) (v4 := z.1) (h := z.2) X hG hnm hM hN hu hv hs (fun z1 uc1 us1 e1 e2 e3 => (i1 z1 e1).1 uc1 us1 e2 e3) (fun z1 e1 => mX3_follow_l40 (v0 := v0) (v1 := v1) (v2 := v2) (v3 := v3) (v4 := z1.1) (h := z1.2) (by unfold fX3_follow_l40; exact (i1 z1 e1).2))  i2
noncomputable def fX3_follow_b33 (v0 : Nat) (v1 : Int32) (v2 : Option Nat) (v3 : Option Nat) (h : PH) : Option PH :=
  mq v2 (fX3_follow_b83  h) (fun a2 =>
  fX3_follow_l40 v0 v1 (some a2) v3 (0 : Int32) h)
set_option maxRecDepth 100000 in
theorem mX3_follow_b33 {v0 : Nat} {v1 : Int32} {v2 : Option Nat} {v3 : Option Nat} {h : PH} {r : PH} (hf : fX3_follow_b33 v0 v1 v2 v3 h = some r) : lez h (hX r) (hV r) := by
  unfold fX3_follow_b33 at hf
  have hle := lez_rf h
  rcases mq_or hf with ⟨q, hf⟩ | ⟨a2, q, hf⟩
  · have hf := mq_n q hf
    exact lez_rt (mX3_follow_b83 hf) hle
  · have hk20 := mq_s q hf
    first | subst q | skip
    have hf := hk20
    exact lez_rt (mX3_follow_l40 hf) hle
set_option maxRecDepth 100000 in
theorem wX3_follow_b33 {E : PE} {p : Program} {l : Launch} {e : Env} {s : State} {m : MethodId} {args : Array Value} {below : List Frame} {meth : Method} {c : Code} {X0 V0 MC MS uc us : Nat} (X : Cx E p l e (rmv 7 MC MS) s m args below meth c RX3 cX3_follow 5 (none)) (hG : Gs E l) (hnm : meth.name = yX3_follow.name) {v0 : Nat} {v1 : Int32} {v2 : Option Nat} {v3 : Option Nat} {h : PH} {r : PH} (hM : MC + X0 = (hX r)) (hN : MS + V0 = (hV r)) (hu : uc + X0 = hX h) (hv : us + V0 = hV h) (hf : fX3_follow_b33 v0 v1 v2 v3 h = some r)  : PW E p l e (rmv 7 MC MS) s m args below meth c 5 uc us (MQ below (QG E (fun v u => v = none ∧ u = r)) args s MC MS (pA E)) h 33 [(0, some (.ref v0)), (1, some (.int v1)), (2, some (va_rf v2)), (3, some (va_rf v3))] [] := by
  have hm1 : lez h (hX r) (hV r) := mX3_follow_b33 hf
  have hcm : uc ≤ MC := (by have o0 := hm1.1; have o1 := hM; have o2 := hu; (try simp only [hX_sI, hX_sR, hX_sL, hX_sD, hX_sIa, hX_sRa, hV_sI, hV_sR, hV_sL, hV_sD, hV_sIa, hV_sRa, hX_new, hV_new] at o0 o1 o2 ⊢); omega)
  have hsm : us ≤ MS := (by have o0 := hm1.2; have o1 := hN; have o2 := hv; (try simp only [hX_sI, hX_sR, hX_sL, hX_sD, hX_sIa, hX_sRa, hV_sI, hV_sR, hV_sL, hV_sD, hV_sIa, hV_sRa, hX_new, hV_new] at o0 o1 o2 ⊢); omega)
  clear hm1
  unfold fX3_follow_b33 at hf
  refine p_aloadq_n X (dcg dc_X3_follow 16 rfl) rfl rfl ?_
  refine p_ifnull (tgt := 83) X (dcg dc_X3_follow 17 rfl) (by decide) (fun q => ?_) (fun a2 q => ?_)
  · have hk20 := mq_n q hf
    first | subst q | (try rw [q])
    have hf := hk20
    refine p_pick [] ?_
    exact wX3_follow_b83 X hG hnm hM hN hu hv hf 
  · have hk20 := mq_s q hf
    first | subst q | (try rw [q])
    have hf := hk20
    refine p_iconst (v := 0) X (dcg dc_X3_follow 18 rfl) (by decide) ?_
    refine p_istore X (dcg dc_X3_follow 19 rfl) (by decide) (nwq (k := 3) rfl) ?_
    refine p_pick [0, 1, 2, 3, 4] ?_
    exact wX3_follow_l40 X hG hnm hM hN hu hv hf 
noncomputable def fX3_follow_b27 (v0 : Nat) (v1 : Int32) (v2 : Option Nat) (v3 : Option Nat) (v4 : Int32) (h : PH) : Option ((Int32 × PH) ⊕ PH) :=
  some (.inl ((v4 + 1), h))
set_option maxRecDepth 100000 in
theorem mX3_follow_b27 {v0 : Nat} {v1 : Int32} {v2 : Option Nat} {v3 : Option Nat} {v4 : Int32} {h : PH} {x : ((Int32 × PH) ⊕ PH)} (hf : fX3_follow_b27 v0 v1 v2 v3 v4 h = some x) : (∀ w9 : (Int32 × PH), x = .inl w9 → lez h (hX (w9.2)) (hV (w9.2))) ∧ (∀ w9 : PH, x = .inr w9 → lez h (hX w9) (hV w9)) := by
  unfold fX3_follow_b27 at hf
  have hle := lez_rf h
  have ee := Option.some.inj hf; subst ee
  exact ⟨(fun z e => by have ee := Sum.inl.inj (e); subst ee; exact hle), (fun z e => nomatch e)⟩
set_option maxRecDepth 100000 in
theorem wX3_follow_b27 {E : PE} {p : Program} {l : Launch} {e : Env} {s : State} {m : MethodId} {args : Array Value} {below : List Frame} {meth : Method} {c : Code} {X0 V0 MC MS uc us : Nat} (X : Cx E p l e (rmv 7 MC MS) s m args below meth c RX3 cX3_follow 5 (none)) (hG : Gs E l) (hnm : meth.name = yX3_follow.name) {v0 : Nat} {v1 : Int32} {v2 : Option Nat} {v3 : Option Nat} {v4 : Int32} {h : PH} {r : PH} {x : ((Int32 × PH) ⊕ PH)} (hM : MC + X0 = (hX r)) (hN : MS + V0 = (hV r)) (hu : uc + X0 = hX h) (hv : us + V0 = hV h) (hf : fX3_follow_b27 v0 v1 v2 v3 v4 h = some x) (k0 : ∀ (z : (Int32 × PH)) (uc us : Nat), x = .inl z → uc + X0 = hX (z.2) → us + V0 = hV (z.2) → PW E p l e (rmv 7 MC MS) s m args below meth c 5 uc us (MQ below (QG E (fun v u => v = none ∧ u = r)) args s MC MS (pA E)) (z.2) 7 [(0, some (.ref v0)), (1, some (.int v1)), (2, some (va_rf v2)), (3, some (va_rf v3)), (4, some (.int (z.1)))] []) (kl0 : ∀ z : (Int32 × PH), x = .inl z → lez (z.2) (hX r) (hV r)) (kf : ∀ z : PH, x = .inr z → z = r) : PW E p l e (rmv 7 MC MS) s m args below meth c 5 uc us (MQ below (QG E (fun v u => v = none ∧ u = r)) args s MC MS (pA E)) h 27 [(0, some (.ref v0)), (1, some (.int v1)), (2, some (va_rf v2)), (3, some (va_rf v3)), (4, some (.int v4))] [] := by
  have hm1 : lez h (hX r) (hV r) := by
    obtain ⟨c0, cf⟩ := mX3_follow_b27 hf
    rcases hxx : x with zz | zz
    · exact lez_tr (c0 zz hxx) (kl0 zz hxx)
    · have ee := kf zz hxx; subst ee; exact cf zz hxx
  have hcm : uc ≤ MC := (by have o0 := hm1.1; have o1 := hM; have o2 := hu; (try simp only [hX_sI, hX_sR, hX_sL, hX_sD, hX_sIa, hX_sRa, hV_sI, hV_sR, hV_sL, hV_sD, hV_sIa, hV_sRa, hX_new, hV_new] at o0 o1 o2 ⊢); omega)
  have hsm : us ≤ MS := (by have o0 := hm1.2; have o1 := hN; have o2 := hv; (try simp only [hX_sI, hX_sR, hX_sL, hX_sD, hX_sIa, hX_sRa, hV_sI, hV_sR, hV_sL, hV_sD, hV_sIa, hV_sRa, hX_new, hV_new] at o0 o1 o2 ⊢); omega)
  clear hm1
  unfold fX3_follow_b27 at hf
  refine p_iinc (v := 1) X (dcg dc_X3_follow 14 rfl) rfl (by decide) (by decide) (nwq (k := 3) rfl) ?_
  refine p_goto (tgt := 7) X (dcg dc_X3_follow 15 rfl) (by decide) ?_
  refine p_pick [0, 1, 2, 3, 4] ?_
  exact k0 _ _ _ (Option.some.inj hf).symm hu hv
noncomputable def fX3_follow_c7 (v0 : Nat) (v1 : Int32) (v2 : Option Nat) (v3 : Option Nat) (v4 : Int32) (h : PH) : Option ((Int32 × PH) ⊕ PH) :=
  gs v3 (fun a21 =>
  gd (hK h a21 = 8) (bd (fX8_size a21 h) (fun z24 =>
  if (z24 ≤ v4) then (mr (fX3_follow_b33 v0 v1 v2 (some a21) h)) else
  bd (fX8_at a21 v4 h) (fun z27 =>
  gd (hK h v0 = 3) (bd (fX3_enter v0 z27 v1 h) (fun z29 =>
  fX3_follow_b27 v0 v1 v2 (some a21) v4 z29))))))
set_option maxRecDepth 100000 in
theorem mX3_follow_c7 {v0 : Nat} {v1 : Int32} {v2 : Option Nat} {v3 : Option Nat} {v4 : Int32} {h : PH} {x : ((Int32 × PH) ⊕ PH)} (hf : fX3_follow_c7 v0 v1 v2 v3 v4 h = some x) : (∀ w9 : (Int32 × PH), x = .inl w9 → lez h (hX (w9.2)) (hV (w9.2))) ∧ (∀ w9 : PH, x = .inr w9 → lez h (hX w9) (hV w9)) := by
  unfold fX3_follow_c7 at hf
  have hle := lez_rf h
  obtain ⟨a21, e22, hf⟩ := gs_some hf
  obtain ⟨hk23, hf⟩ := gd_some hf
  obtain ⟨z24, hz24, hf⟩ := bd_some hf
  rcases ite_or hf with ⟨q, hf⟩ | ⟨q, hf⟩
  · have hf := if_t q hf
    obtain ⟨y25, hfm, rfl⟩ := mr_some hf; have hf := hfm; clear hfm
    have cf := mX3_follow_b33 hf
    exact ⟨(fun z e => nomatch e), (fun z e => by cases e <;> exact lez_rt cf hle)⟩
  · have hf := if_f q hf
    obtain ⟨z27, hz27, hf⟩ := bd_some hf
    obtain ⟨hk28, hf⟩ := gd_some hf
    obtain ⟨z29, hz29, hf⟩ := bd_some hf
    have hle := lez_rt (mX3_enter hz29) hle
    obtain ⟨c0, cf⟩ := mX3_follow_b27 hf
    exact ⟨fun z e => lez_rt (c0 z (e)) hle, fun z e => lez_rt (cf z (e)) hle⟩
set_option maxRecDepth 100000 in
theorem wX3_follow_c7 {E : PE} {p : Program} {l : Launch} {e : Env} {s : State} {m : MethodId} {args : Array Value} {below : List Frame} {meth : Method} {c : Code} {X0 V0 MC MS uc us : Nat} (X : Cx E p l e (rmv 7 MC MS) s m args below meth c RX3 cX3_follow 5 (none)) (hG : Gs E l) (hnm : meth.name = yX3_follow.name) {v0 : Nat} {v1 : Int32} {v2 : Option Nat} {v3 : Option Nat} {v4 : Int32} {h : PH} {r : PH} {x : ((Int32 × PH) ⊕ PH)} (hM : MC + X0 = (hX r)) (hN : MS + V0 = (hV r)) (hu : uc + X0 = hX h) (hv : us + V0 = hV h) (hf : fX3_follow_c7 v0 v1 v2 v3 v4 h = some x) (k0 : ∀ (z : (Int32 × PH)) (uc us : Nat), x = .inl z → uc + X0 = hX (z.2) → us + V0 = hV (z.2) → PW E p l e (rmv 7 MC MS) s m args below meth c 5 uc us (MQ below (QG E (fun v u => v = none ∧ u = r)) args s MC MS (pA E)) (z.2) 7 [(0, some (.ref v0)), (1, some (.int v1)), (2, some (va_rf v2)), (3, some (va_rf v3)), (4, some (.int (z.1)))] []) (kl0 : ∀ z : (Int32 × PH), x = .inl z → lez (z.2) (hX r) (hV r)) (kf : ∀ z : PH, x = .inr z → z = r) : PW E p l e (rmv 7 MC MS) s m args below meth c 5 uc us (MQ below (QG E (fun v u => v = none ∧ u = r)) args s MC MS (pA E)) h 7 [(0, some (.ref v0)), (1, some (.int v1)), (2, some (va_rf v2)), (3, some (va_rf v3)), (4, some (.int v4))] [] := by
  have hm1 : lez h (hX r) (hV r) := by
    obtain ⟨c0, cf⟩ := mX3_follow_c7 hf
    rcases hxx : x with zz | zz
    · exact lez_tr (c0 zz hxx) (kl0 zz hxx)
    · have ee := kf zz hxx; subst ee; exact cf zz hxx
  have hcm : uc ≤ MC := (by have o0 := hm1.1; have o1 := hM; have o2 := hu; (try simp only [hX_sI, hX_sR, hX_sL, hX_sD, hX_sIa, hX_sRa, hV_sI, hV_sR, hV_sL, hV_sD, hV_sIa, hV_sRa, hX_new, hV_new] at o0 o1 o2 ⊢); omega)
  have hsm : us ≤ MS := (by have o0 := hm1.2; have o1 := hN; have o2 := hv; (try simp only [hX_sI, hX_sR, hX_sL, hX_sD, hX_sIa, hX_sRa, hV_sI, hV_sR, hV_sL, hV_sD, hV_sIa, hV_sRa, hX_new, hV_new] at o0 o1 o2 ⊢); omega)
  clear hm1
  unfold fX3_follow_c7 at hf
  refine p_iload X (dcg dc_X3_follow 4 rfl) rfl ?_
  refine p_aloadq_n X (dcg dc_X3_follow 5 rfl) rfl rfl ?_
  obtain ⟨a21, e22, hf⟩ := gs_some hf
  first | subst e22 | (try rw [e22])
  obtain ⟨hk23, hf⟩ := gd_some hf
  obtain ⟨z24, hz24, hf⟩ := bd_some hf
  refine p_callV (As := []) X ml_X3_46 (dcg dc_X3_follow 6 rfl) rfl rfl hk23 (wX8_size hG hz24) (by decide) (room4 (Nat.le_of_ble_eq_true rfl)) hcm hsm ?_
  rintro _ u9 ⟨rfl, e9⟩; have e9 := e9.symm; subst e9
  refine p_icmp_ge (tgt := 33) X (dcg dc_X3_follow 7 rfl) (by decide) (fun q => ?_) (fun q => ?_)
  · have hf := if_t q hf
    obtain ⟨y25, hf, hy26⟩ := mr_some hf
    have hy26f := kf y25 hy26
    subst hy26f
    refine p_pick [0, 1, 2, 3] ?_
    exact wX3_follow_b33 X hG hnm hM hN hu hv hf 
  · have hf := if_f q hf
    refine p_aload_n X (dcg dc_X3_follow 8 rfl) rfl rfl ?_
    refine p_aload_n X (dcg dc_X3_follow 9 rfl) rfl rfl ?_
    refine p_iload X (dcg dc_X3_follow 10 rfl) rfl ?_
    obtain ⟨z27, hz27, hf⟩ := bd_some hf
    refine p_callV (As := [_]) X ml_X3_49 (dcg dc_X3_follow 11 rfl) rfl rfl hk23 (wX8_at hG hz27) (by decide) (room4 (Nat.le_of_ble_eq_true rfl)) hcm hsm ?_
    rintro _ u9 ⟨rfl, e9⟩; have e9 := e9.symm; subst e9
    refine p_iload_n X (dcg dc_X3_follow 12 rfl) rfl rfl ?_
    obtain ⟨hk28, hf⟩ := gd_some hf
    obtain ⟨z29, hz29, hf⟩ := bd_some hf
    have hc1 := mX3_enter hz29
    obtain ⟨c0, cf⟩ := mX3_follow_b27 hf
    have hm1 := (nst1 (fun zz hxx => lez_tr (c0 zz hxx) (kl0 zz hxx)) (fun zz hxx => by have ee := kf zz hxx; subst ee; exact cf zz hxx))
    refine p_callV (As := [_, _]) X ml_X3_52 (dcg dc_X3_follow 13 rfl) rfl rfl hk28 (wX3_enter hG hz29) (by decide) (room4 (Nat.le_of_ble_eq_true rfl)) (by have o0 := hm1.1; have o1 := hc1.1; have o2 := hM; have o3 := hu; (try simp only [hX_sI, hX_sR, hX_sL, hX_sD, hX_sIa, hX_sRa, hV_sI, hV_sR, hV_sL, hV_sD, hV_sIa, hV_sRa, hX_new, hV_new] at o0 o1 o2 o3 ⊢); omega) (by have o0 := hm1.2; have o1 := hc1.2; have o2 := hN; have o3 := hv; (try simp only [hX_sI, hX_sR, hX_sL, hX_sD, hX_sIa, hX_sRa, hV_sI, hV_sR, hV_sL, hV_sD, hV_sIa, hV_sRa, hX_new, hV_new] at o0 o1 o2 o3 ⊢); omega) ?_
    rintro _ u9 ⟨rfl, e9⟩; have e9 := e9.symm; subst e9
    refine p_pick [0, 1, 2, 3, 4] ?_
    exact wX3_follow_b27 X hG hnm hM hN (by have o0 := hc1.1; have o1 := hu; (try simp only [hX_sI, hX_sR, hX_sL, hX_sD, hX_sIa, hX_sRa, hV_sI, hV_sR, hV_sL, hV_sD, hV_sIa, hV_sRa, hX_new, hV_new] at o0 o1 ⊢); omega) (by have o0 := hc1.2; have o1 := hv; (try simp only [hX_sI, hX_sR, hX_sL, hX_sD, hX_sIa, hX_sRa, hV_sI, hV_sR, hV_sL, hV_sD, hV_sIa, hV_sRa, hX_new, hV_new] at o0 o1 ⊢); omega) hf k0 kl0 kf
noncomputable def fX3_follow_l7 (v0 : Nat) (v1 : Int32) (v2 : Option Nat) (v3 : Option Nat) (v4 : Int32) (h : PH) : Option PH := wh (fun z : (Int32 × PH) => fX3_follow_c7 v0 v1 v2 v3 (z.1) (z.2)) (v4, h)
set_option maxRecDepth 100000 in
theorem mX3_follow_l7 {v0 : Nat} {v1 : Int32} {v2 : Option Nat} {v3 : Option Nat} {v4 : Int32} {h : PH} {r : PH} (hf : fX3_follow_l7 v0 v1 v2 v3 v4 h = some r) : lez h (hX r) (hV r) := by
  unfold fX3_follow_l7 at hf
  refine wh_ind (P := fun z => lez (z.2) (hX r) (hV r)) (fun z x0 hs i1 i2 => ?_) _ hf
  obtain ⟨c0, cf⟩ := mX3_follow_c7 (v0 := v0) (v1 := v1) (v2 := v2) (v3 := v3) (v4 := z.1) (h := z.2) hs
  rcases hxx : x0 with zz | zz
  · exact lez_tr (c0 zz hxx) (i1 zz hxx)
  · have ee := i2 zz hxx; subst ee; exact cf zz hxx
set_option maxRecDepth 100000 in
theorem wX3_follow_l7 {E : PE} {p : Program} {l : Launch} {e : Env} {s : State} {m : MethodId} {args : Array Value} {below : List Frame} {meth : Method} {c : Code} {X0 V0 MC MS uc us : Nat} (X : Cx E p l e (rmv 7 MC MS) s m args below meth c RX3 cX3_follow 5 (none)) (hG : Gs E l) (hnm : meth.name = yX3_follow.name) {v0 : Nat} {v1 : Int32} {v2 : Option Nat} {v3 : Option Nat} {v4 : Int32} {h : PH} {r : PH} (hM : MC + X0 = (hX r)) (hN : MS + V0 = (hV r)) (hu : uc + X0 = hX h) (hv : us + V0 = hV h) (hf : fX3_follow_l7 v0 v1 v2 v3 v4 h = some r)  : PW E p l e (rmv 7 MC MS) s m args below meth c 5 uc us (MQ below (QG E (fun v u => v = none ∧ u = r)) args s MC MS (pA E)) h 7 [(0, some (.ref v0)), (1, some (.int v1)), (2, some (va_rf v2)), (3, some (va_rf v3)), (4, some (.int v4))] [] := by
  unfold fX3_follow_l7 at hf
  refine wh_ind2 (P := fun z => ∀ uc us : Nat, uc + X0 = hX (z.2) → us + V0 = hV (z.2) → PW E p l e (rmv 7 MC MS) s m args below meth c 5 uc us (MQ below (QG E (fun v u => v = none ∧ u = r)) args s MC MS (pA E)) (z.2) 7 [(0, some (.ref v0)), (1, some (.int v1)), (2, some (va_rf v2)), (3, some (va_rf v3)), (4, some (.int (z.1)))] []) (fun z x0 hs i1 i2 uc us hu hv => ?_) _ hf uc us hu hv
  exact wX3_follow_c7 (r := r) (v0 := v0) (v1 := v1) (v2 := v2) (v3 := v3) (v4 := z.1) (h := z.2) X hG hnm hM hN hu hv hs (fun z1 uc1 us1 e1 e2 e3 => (i1 z1 e1).1 uc1 us1 e2 e3) (fun z1 e1 => mX3_follow_l7 (v0 := v0) (v1 := v1) (v2 := v2) (v3 := v3) (v4 := z1.1) (h := z1.2) (by unfold fX3_follow_l7; exact (i1 z1 e1).2))  i2
noncomputable def fX3_follow_b0 (v0 : Nat) (v1 : Int32) (v2 : Option Nat) (v3 : Option Nat) (h : PH) : Option PH :=
  mq v3 (fX3_follow_b33 v0 v1 v2 v3 h) (fun a1 =>
  fX3_follow_l7 v0 v1 v2 (some a1) (0 : Int32) h)
set_option maxRecDepth 100000 in
theorem mX3_follow_b0 {v0 : Nat} {v1 : Int32} {v2 : Option Nat} {v3 : Option Nat} {h : PH} {r : PH} (hf : fX3_follow_b0 v0 v1 v2 v3 h = some r) : lez h (hX r) (hV r) := by
  unfold fX3_follow_b0 at hf
  have hle := lez_rf h
  rcases mq_or hf with ⟨q, hf⟩ | ⟨a1, q, hf⟩
  · have hf := mq_n q hf
    exact lez_rt (mX3_follow_b33 hf) hle
  · have hk30 := mq_s q hf
    first | subst q | skip
    have hf := hk30
    exact lez_rt (mX3_follow_l7 hf) hle
set_option maxRecDepth 100000 in
theorem wX3_follow_b0 {E : PE} {p : Program} {l : Launch} {e : Env} {s : State} {m : MethodId} {args : Array Value} {below : List Frame} {meth : Method} {c : Code} {X0 V0 MC MS uc us : Nat} (X : Cx E p l e (rmv 7 MC MS) s m args below meth c RX3 cX3_follow 5 (none)) (hG : Gs E l) (hnm : meth.name = yX3_follow.name) {v0 : Nat} {v1 : Int32} {v2 : Option Nat} {v3 : Option Nat} {h : PH} {r : PH} (hM : MC + X0 = (hX r)) (hN : MS + V0 = (hV r)) (hu : uc + X0 = hX h) (hv : us + V0 = hV h) (hf : fX3_follow_b0 v0 v1 v2 v3 h = some r)  : PW E p l e (rmv 7 MC MS) s m args below meth c 5 uc us (MQ below (QG E (fun v u => v = none ∧ u = r)) args s MC MS (pA E)) h 0 [(0, some (.ref v0)), (1, some (.int v1)), (2, some (va_rf v2)), (3, some (va_rf v3))] [] := by
  have hm1 : lez h (hX r) (hV r) := mX3_follow_b0 hf
  have hcm : uc ≤ MC := (by have o0 := hm1.1; have o1 := hM; have o2 := hu; (try simp only [hX_sI, hX_sR, hX_sL, hX_sD, hX_sIa, hX_sRa, hV_sI, hV_sR, hV_sL, hV_sD, hV_sIa, hV_sRa, hX_new, hV_new] at o0 o1 o2 ⊢); omega)
  have hsm : us ≤ MS := (by have o0 := hm1.2; have o1 := hN; have o2 := hv; (try simp only [hX_sI, hX_sR, hX_sL, hX_sD, hX_sIa, hX_sRa, hV_sI, hV_sR, hV_sL, hV_sD, hV_sIa, hV_sRa, hX_new, hV_new] at o0 o1 o2 ⊢); omega)
  clear hm1
  unfold fX3_follow_b0 at hf
  refine p_aloadq_n X (dcg dc_X3_follow 0 rfl) rfl rfl ?_
  refine p_ifnull (tgt := 33) X (dcg dc_X3_follow 1 rfl) (by decide) (fun q => ?_) (fun a1 q => ?_)
  · have hk30 := mq_n q hf
    first | subst q | (try rw [q])
    have hf := hk30
    refine p_pick [0, 1, 2, 3] ?_
    exact wX3_follow_b33 X hG hnm hM hN hu hv hf 
  · have hk30 := mq_s q hf
    first | subst q | (try rw [q])
    have hf := hk30
    refine p_iconst (v := 0) X (dcg dc_X3_follow 2 rfl) (by decide) ?_
    refine p_istore X (dcg dc_X3_follow 3 rfl) (by decide) rfl ?_
    refine p_pick [0, 1, 2, 3, 4] ?_
    exact wX3_follow_l7 X hG hnm hM hN hu hv hf 
noncomputable def fX3_follow (v0 : Nat) (v1 : Int32) (v2 : Option Nat) (v3 : Option Nat) (h : PH) : Option PH :=
  fX3_follow_b0 v0 v1 v2 v3 h
set_option maxRecDepth 100000 in
theorem mX3_follow {v0 : Nat} {v1 : Int32} {v2 : Option Nat} {v3 : Option Nat} {h : PH} {r : PH} (hf : fX3_follow v0 v1 v2 v3 h = some r) : lez h (hX r) (hV r) := by
  unfold fX3_follow at hf
  have hle := lez_rf h
  exact lez_rt (mX3_follow_b0 hf) hle
set_option maxRecDepth 100000 in
theorem wX3_follow {E : PE} {l : Launch} (hG : Gs E l) {v0 : Nat} {v1 : Int32} {v2 : Option Nat} {v3 : Option Nat} {h : PH} {r : PH} (hf : fX3_follow v0 v1 v2 v3 h = some r) : Ct E l 7 ((hX r) - hX h) ((hV r) - hV h) yX3_follow cX3_follow 5 (none) [.ref v0, .int v1, va_rf v2, va_rf v3] h (fun v u => v = none ∧ u = r) := by
  have hmm := mX3_follow hf
  refine ct_of hG (by decide) (by simp [lg_sl, cat_rf, cat_r, cat_i, cat_l, cat_d, cat_f]) ?_
  intro p e s m args below meth c X hnm
  rw [show pargs 0 [.ref v0, .int v1, va_rf v2, va_rf v3] = [(0, some (.ref v0)), (1, some (.int v1)), (2, some (va_rf v2)), (3, some (va_rf v3))] from by simp [pargs, cat_rf, cat_r, cat_i, cat_l, cat_d, cat_f]]
  unfold fX3_follow at hf
  have hM := Nat.sub_add_cancel hmm.1
  have hN := Nat.sub_add_cancel hmm.2
  refine p_pick [0, 1, 2, 3] ?_
  exact wX3_follow_b0 X hG hnm hM hN (Nat.zero_add _) (Nat.zero_add _) hf
theorem dc_X3_countTally : decs cX3_countTally [(0, .iconst 0, 1), (1, .istore_n 1, 1), (2, .iload_n 1, 1), (3, .bipush 100, 2), (5, .if_icmp .gt 16, 3), (8, .aload_n 0, 1), (9, .getfield 18, 3), (12, .iload_n 1, 1), (13, .iconst 0, 1), (14, .iastore, 1), (15, .iinc 1 1, 3), (18, .goto (-16), 3), (21, .iconst 0, 1), (22, .istore_n 1, 1), (23, .iload_n 1, 1), (24, .aload_n 0, 1), (25, .getfield 12, 3), (28, .invokevirtual 22, 3), (31, .if_icmp .ge 43, 3), (34, .aload_n 0, 1), (35, .getfield 12, 3), (38, .iload_n 1, 1), (39, .invokevirtual 26, 3), (42, .checkcast 30, 3), (45, .getfield 69, 3), (48, .invokevirtual 82, 3), (51, .istore_n 2, 1), (52, .iload_n 2, 1), (53, .bipush 100, 2), (55, .if_icmp .gt 13, 3), (58, .aload_n 0, 1), (59, .getfield 18, 3), (62, .iload_n 2, 1), (63, .dup2, 1), (64, .iaload, 1), (65, .iconst 1, 1), (66, .iadd, 1), (67, .iastore, 1), (68, .iinc 1 1, 3), (71, .goto (-48), 3), (74, .return_, 1)] = true := by decide +kernel
noncomputable def fX3_countTally_b68 (v0 : Nat) (v1 : Int32) (h : PH) : Option ((Int32 × PH) ⊕ PH) :=
  some (.inl ((v1 + 1), h))
set_option maxRecDepth 100000 in
theorem mX3_countTally_b68 {v0 : Nat} {v1 : Int32} {h : PH} {x : ((Int32 × PH) ⊕ PH)} (hf : fX3_countTally_b68 v0 v1 h = some x) : (∀ w9 : (Int32 × PH), x = .inl w9 → eqz h (hX (w9.2)) (hV (w9.2))) ∧ (∀ w9 : PH, x = .inr w9 → eqz h (hX w9) (hV w9)) := by
  unfold fX3_countTally_b68 at hf
  have hle := eqz_rf h
  have ee := Option.some.inj hf; subst ee
  exact ⟨(fun z e => by have ee := Sum.inl.inj (e); subst ee; exact hle), (fun z e => nomatch e)⟩
set_option maxRecDepth 100000 in
theorem wX3_countTally_b68 {E : PE} {p : Program} {l : Launch} {e : Env} {s : State} {m : MethodId} {args : Array Value} {below : List Frame} {meth : Method} {c : Code} (X : Cx E p l e (rmv 3 0 0) s m args below meth c RX3 cX3_countTally 3 (none)) (hG : Gs E l) (hnm : meth.name = yX3_countTally.name) {v0 : Nat} {v1 : Int32} {h : PH} {r : PH} {x : ((Int32 × PH) ⊕ PH)} (hf : fX3_countTally_b68 v0 v1 h = some x) (k0 : ∀ z : (Int32 × PH), x = .inl z → PW E p l e (rmv 3 0 0) s m args below meth c 3 0 0 (MQ below (QG E (fun v u => v = none ∧ u = r)) args s 0 0 (pA E)) (z.2) 23 [(0, some (.ref v0)), (1, some (.int (z.1)))] []) (kf : ∀ z : PH, x = .inr z → z = r) : PW E p l e (rmv 3 0 0) s m args below meth c 3 0 0 (MQ below (QG E (fun v u => v = none ∧ u = r)) args s 0 0 (pA E)) h 68 [(0, some (.ref v0)), (1, some (.int v1))] [] := by
  unfold fX3_countTally_b68 at hf
  refine p_iinc (v := 1) X (dcg dc_X3_countTally 38 rfl) rfl (by decide) (by decide) rfl ?_
  refine p_goto (tgt := 23) X (dcg dc_X3_countTally 39 rfl) (by decide) ?_
  refine p_pick [0, 1] ?_
  exact k0 _ (Option.some.inj hf).symm
noncomputable def fX3_countTally_c23 (v0 : Nat) (v1 : Int32) (h : PH) : Option ((Int32 × PH) ⊕ PH) :=
  gd (hK h v0 = 3) (gs (hR h 3 v0 0) (fun a4 =>
  gd (hK h a4 = 14) (bd (fJx4a65c_size_8abf5 a4 h) (fun z7 =>
  if (z7 ≤ v1) then (mr (some (h))) else
  gs (hR h 3 v0 0) (fun a10 =>
  gd (hK h a10 = 14) (bd (fJx4a65c_get_915e3 a10 v1 h) (fun z13 =>
  gs z13 (fun a14 =>
  gd (hK h a14 = 10) (gs (hR h 10 a14 2) (fun a17 =>
  gd (hK h a17 = 9) (bd (fX9_size a17 h) (fun z20 =>
  if ((100 : Int32) < z20) then (fX3_countTally_b68 v0 v1 h) else
  gs (hR h 3 v0 1) (fun a21 =>
  gd (hK h a21 = 20 ∧ inb z20 (hN h a21)) (gd (inb z20 (hN h a21)) (lt (sI h 20 a21 (Int32.toNatClampNeg z20) ((hI h 20 a21 (Int32.toNatClampNeg z20)) + (1 : Int32))) (fun h26 =>
  fX3_countTally_b68 v0 v1 h26))))))))))))))))
set_option maxRecDepth 100000 in
theorem mX3_countTally_c23 {v0 : Nat} {v1 : Int32} {h : PH} {x : ((Int32 × PH) ⊕ PH)} (hf : fX3_countTally_c23 v0 v1 h = some x) : (∀ w9 : (Int32 × PH), x = .inl w9 → eqz h (hX (w9.2)) (hV (w9.2))) ∧ (∀ w9 : PH, x = .inr w9 → eqz h (hX w9) (hV w9)) := by
  unfold fX3_countTally_c23 at hf
  have hle := eqz_rf h
  obtain ⟨hk3, hf⟩ := gd_some hf
  obtain ⟨a4, e5, hf⟩ := gs_some hf
  obtain ⟨hk6, hf⟩ := gd_some hf
  obtain ⟨z7, hz7, hf⟩ := bd_some hf
  rcases ite_or hf with ⟨q, hf⟩ | ⟨q, hf⟩
  · have hf := if_t q hf
    obtain ⟨y8, hfm, rfl⟩ := mr_some hf; have hf := hfm; clear hfm
    have ee := Option.some.inj hf; subst ee
    exact ⟨(fun z e => nomatch e), (fun z e => by have ee := Sum.inr.inj (e); subst ee; exact hle)⟩
  · have hf := if_f q hf
    obtain ⟨a10, e11, hf⟩ := gs_some hf
    obtain ⟨hk12, hf⟩ := gd_some hf
    obtain ⟨z13, hz13, hf⟩ := bd_some hf
    obtain ⟨a14, e15, hf⟩ := gs_some hf
    obtain ⟨hk16, hf⟩ := gd_some hf
    obtain ⟨a17, e18, hf⟩ := gs_some hf
    obtain ⟨hk19, hf⟩ := gd_some hf
    obtain ⟨z20, hz20, hf⟩ := bd_some hf
    rcases ite_or hf with ⟨q, hf⟩ | ⟨q, hf⟩
    · have hf := if_t q hf
      obtain ⟨c0, cf⟩ := mX3_countTally_b68 hf
      exact ⟨fun z e => eqz_rt (c0 z (e)) hle, fun z e => eqz_rt (cf z (e)) hle⟩
    · have hf := if_f q hf
      obtain ⟨a21, e22, hf⟩ := gs_some hf
      obtain ⟨⟨hk24, hb23⟩, hf⟩ := gd_some hf
      obtain ⟨hb25, hf⟩ := gd_some hf
      obtain ⟨h26, rfl, hf⟩ := lt_some hf
      obtain ⟨c0, cf⟩ := mX3_countTally_b68 hf
      exact ⟨fun z e => eqz_rt (c0 z (e)) hle, fun z e => eqz_rt (cf z (e)) hle⟩
set_option maxRecDepth 100000 in
theorem wX3_countTally_c23 {E : PE} {p : Program} {l : Launch} {e : Env} {s : State} {m : MethodId} {args : Array Value} {below : List Frame} {meth : Method} {c : Code} (X : Cx E p l e (rmv 3 0 0) s m args below meth c RX3 cX3_countTally 3 (none)) (hG : Gs E l) (hnm : meth.name = yX3_countTally.name) {v0 : Nat} {v1 : Int32} {h : PH} {r : PH} {x : ((Int32 × PH) ⊕ PH)} (hf : fX3_countTally_c23 v0 v1 h = some x) (k0 : ∀ z : (Int32 × PH), x = .inl z → PW E p l e (rmv 3 0 0) s m args below meth c 3 0 0 (MQ below (QG E (fun v u => v = none ∧ u = r)) args s 0 0 (pA E)) (z.2) 23 [(0, some (.ref v0)), (1, some (.int (z.1)))] []) (kf : ∀ z : PH, x = .inr z → z = r) : PW E p l e (rmv 3 0 0) s m args below meth c 3 0 0 (MQ below (QG E (fun v u => v = none ∧ u = r)) args s 0 0 (pA E)) h 23 [(0, some (.ref v0)), (1, some (.int v1))] [] := by
  unfold fX3_countTally_c23 at hf
  refine p_iload_n X (dcg dc_X3_countTally 14 rfl) rfl rfl ?_
  refine p_aload_n X (dcg dc_X3_countTally 15 rfl) rfl rfl ?_
  obtain ⟨hk3, hf⟩ := gd_some hf
  refine p_getR X fl_X3_12 rfl (by decide) (dcg dc_X3_countTally 16 rfl) hk3 ?_
  obtain ⟨a4, e5, hf⟩ := gs_some hf
  first | subst e5 | (try rw [e5])
  obtain ⟨hk6, hf⟩ := gd_some hf
  obtain ⟨z7, hz7, hf⟩ := bd_some hf
  refine p_callV (As := []) X ml_X3_22 (dcg dc_X3_countTally 17 rfl) rfl rfl hk6 (wJx4a65c_size_8abf5 hG hz7) (by decide) (room4 (Nat.le_of_ble_eq_true rfl)) (Nat.le_refl _) (Nat.le_refl _) ?_
  rintro _ u9 ⟨rfl, e9⟩; have e9 := e9.symm; subst e9
  refine p_icmp_ge (tgt := 74) X (dcg dc_X3_countTally 18 rfl) (by decide) (fun q => ?_) (fun q => ?_)
  · have hf := if_t q hf
    obtain ⟨y8, hf, hy9⟩ := mr_some hf
    have hy9f := kf y8 hy9
    subst hy9f
    have er := Option.some.inj hf
    subst er
    exact p_vret X rfl (dcg dc_X3_countTally 40 rfl) ⟨rfl, rfl⟩ (Nat.le_refl _) (Nat.le_refl _)
  · have hf := if_f q hf
    refine p_aload_n X (dcg dc_X3_countTally 19 rfl) rfl rfl ?_
    refine p_getR X fl_X3_12 rfl (by decide) (dcg dc_X3_countTally 20 rfl) hk3 ?_
    refine p_iload_n X (dcg dc_X3_countTally 21 rfl) rfl rfl ?_
    obtain ⟨a10, e11, hf⟩ := gs_some hf
    first | subst e11 | (try rw [e11])
    obtain ⟨hk12, hf⟩ := gd_some hf
    obtain ⟨z13, hz13, hf⟩ := bd_some hf
    refine p_callV (As := [_]) X ml_X3_26 (dcg dc_X3_countTally 22 rfl) rfl rfl hk12 (wJx4a65c_get_915e3 hG hz13) (by decide) (room4 (Nat.le_of_ble_eq_true rfl)) (Nat.le_refl _) (Nat.le_refl _) ?_
    rintro _ u9 ⟨rfl, e9⟩; have e9 := e9.symm; subst e9
    obtain ⟨a14, e15, hf⟩ := gs_some hf
    first | subst e15 | (try rw [e15])
    obtain ⟨hk16, hf⟩ := gd_some hf
    refine p_cast (q := (RX10, TX10, 3)) X rfl tw_505 (dcg dc_X3_countTally 23 rfl) hk16 ?_
    refine p_getRn X fl_X3_69 rfl (by decide) (dcg dc_X3_countTally 24 rfl) hk16 ?_
    obtain ⟨a17, e18, hf⟩ := gs_some hf
    first | subst e18 | (try rw [e18])
    obtain ⟨hk19, hf⟩ := gd_some hf
    obtain ⟨z20, hz20, hf⟩ := bd_some hf
    refine p_callV (As := []) X ml_X3_82 (dcg dc_X3_countTally 25 rfl) rfl rfl hk19 (wX9_size hG hz20) (by decide) (room4 (Nat.le_of_ble_eq_true rfl)) (Nat.le_refl _) (Nat.le_refl _) ?_
    rintro _ u9 ⟨rfl, e9⟩; have e9 := e9.symm; subst e9
    refine p_istore_n X (dcg dc_X3_countTally 26 rfl) rfl (by decide) rfl ?_
    refine p_iload_n X (dcg dc_X3_countTally 27 rfl) rfl rfl ?_
    refine p_bipush (v := 100) X (dcg dc_X3_countTally 28 rfl) (by decide) ?_
    refine p_icmp_gt (tgt := 68) X (dcg dc_X3_countTally 29 rfl) (by decide) (fun q => ?_) (fun q => ?_)
    · have hf := if_t q hf
      refine p_pick [0, 1] ?_
      exact wX3_countTally_b68 X hG hnm hf k0 kf
    · have hf := if_f q hf
      refine p_aload_n X (dcg dc_X3_countTally 30 rfl) rfl rfl ?_
      refine p_getR X fl_X3_18 rfl (by decide) (dcg dc_X3_countTally 31 rfl) hk3 ?_
      refine p_iload_n X (dcg dc_X3_countTally 32 rfl) rfl rfl ?_
      refine p_dup2 X (dcg dc_X3_countTally 33 rfl) rfl (cat_rf _) ?_
      obtain ⟨a21, e22, hf⟩ := gs_some hf
      first | subst e22 | (try rw [e22])
      obtain ⟨⟨hk24, hb23⟩, hf⟩ := gd_some hf
      refine p_iald X (dcg dc_X3_countTally 34 rfl) hk24 (vp_of_inb hb23) ?_
      refine p_iconst (v := 1) X (dcg dc_X3_countTally 35 rfl) (by decide) ?_
      refine p_iadd X (dcg dc_X3_countTally 36 rfl) ?_
      obtain ⟨hb25, hf⟩ := gd_some hf
      refine p_iast X (dcg dc_X3_countTally 37 rfl) hk24 (vp_of_inb hb25) ?_
      obtain ⟨h26, rfl, hf⟩ := lt_some hf
      refine p_pick [0, 1] ?_
      exact wX3_countTally_b68 X hG hnm hf k0 kf
noncomputable def fX3_countTally_l23 (v0 : Nat) (v1 : Int32) (h : PH) : Option PH := wh (fun z : (Int32 × PH) => fX3_countTally_c23 v0 (z.1) (z.2)) (v1, h)
set_option maxRecDepth 100000 in
theorem mX3_countTally_l23 {v0 : Nat} {v1 : Int32} {h : PH} {r : PH} (hf : fX3_countTally_l23 v0 v1 h = some r) : eqz h (hX r) (hV r) := by
  unfold fX3_countTally_l23 at hf
  refine wh_ind (P := fun z => eqz (z.2) (hX r) (hV r)) (fun z x0 hs i1 i2 => ?_) _ hf
  obtain ⟨c0, cf⟩ := mX3_countTally_c23 (v0 := v0) (v1 := z.1) (h := z.2) hs
  rcases hxx : x0 with zz | zz
  · exact eqz_tr (c0 zz hxx) (i1 zz hxx)
  · have ee := i2 zz hxx; subst ee; exact cf zz hxx
set_option maxRecDepth 100000 in
theorem wX3_countTally_l23 {E : PE} {p : Program} {l : Launch} {e : Env} {s : State} {m : MethodId} {args : Array Value} {below : List Frame} {meth : Method} {c : Code} (X : Cx E p l e (rmv 3 0 0) s m args below meth c RX3 cX3_countTally 3 (none)) (hG : Gs E l) (hnm : meth.name = yX3_countTally.name) {v0 : Nat} {v1 : Int32} {h : PH} {r : PH} (hf : fX3_countTally_l23 v0 v1 h = some r)  : PW E p l e (rmv 3 0 0) s m args below meth c 3 0 0 (MQ below (QG E (fun v u => v = none ∧ u = r)) args s 0 0 (pA E)) h 23 [(0, some (.ref v0)), (1, some (.int v1))] [] := by
  unfold fX3_countTally_l23 at hf
  refine wh_ind (P := fun z => PW E p l e (rmv 3 0 0) s m args below meth c 3 0 0 (MQ below (QG E (fun v u => v = none ∧ u = r)) args s 0 0 (pA E)) (z.2) 23 [(0, some (.ref v0)), (1, some (.int (z.1)))] []) (fun z x0 hs i1 i2 => ?_) _ hf
  exact wX3_countTally_c23 (r := r) (v0 := v0) (v1 := z.1) (h := z.2) X hG hnm hs i1  i2
noncomputable def fX3_countTally_c2 (v0 : Nat) (v1 : Int32) (h : PH) : Option ((Int32 × PH) ⊕ PH) :=
  if ((100 : Int32) < v1) then (mr (fX3_countTally_l23 v0 (0 : Int32) h)) else
  gd (hK h v0 = 3) (gs (hR h 3 v0 1) (fun a28 =>
  gd (hK h a28 = 20 ∧ inb v1 (hN h a28)) (lt (sI h 20 a28 (Int32.toNatClampNeg v1) (0 : Int32)) (fun h32 =>
  some (.inl ((v1 + 1), h32))))))
set_option maxRecDepth 100000 in
theorem mX3_countTally_c2 {v0 : Nat} {v1 : Int32} {h : PH} {x : ((Int32 × PH) ⊕ PH)} (hf : fX3_countTally_c2 v0 v1 h = some x) : (∀ w9 : (Int32 × PH), x = .inl w9 → eqz h (hX (w9.2)) (hV (w9.2))) ∧ (∀ w9 : PH, x = .inr w9 → eqz h (hX w9) (hV w9)) := by
  unfold fX3_countTally_c2 at hf
  have hle := eqz_rf h
  rcases ite_or hf with ⟨q, hf⟩ | ⟨q, hf⟩
  · have hf := if_t q hf
    obtain ⟨y1, hfm, rfl⟩ := mr_some hf; have hf := hfm; clear hfm
    have cf := mX3_countTally_l23 hf
    exact ⟨(fun z e => nomatch e), (fun z e => by cases e <;> exact eqz_rt cf hle)⟩
  · have hf := if_f q hf
    obtain ⟨hk27, hf⟩ := gd_some hf
    obtain ⟨a28, e29, hf⟩ := gs_some hf
    obtain ⟨⟨hk31, hb30⟩, hf⟩ := gd_some hf
    obtain ⟨h32, rfl, hf⟩ := lt_some hf
    have ee := Option.some.inj hf; subst ee
    exact ⟨(fun z e => by have ee := Sum.inl.inj (e); subst ee; exact hle), (fun z e => nomatch e)⟩
set_option maxRecDepth 100000 in
theorem wX3_countTally_c2 {E : PE} {p : Program} {l : Launch} {e : Env} {s : State} {m : MethodId} {args : Array Value} {below : List Frame} {meth : Method} {c : Code} (X : Cx E p l e (rmv 3 0 0) s m args below meth c RX3 cX3_countTally 3 (none)) (hG : Gs E l) (hnm : meth.name = yX3_countTally.name) {v0 : Nat} {v1 : Int32} {h : PH} {r : PH} {x : ((Int32 × PH) ⊕ PH)} (hf : fX3_countTally_c2 v0 v1 h = some x) (k0 : ∀ z : (Int32 × PH), x = .inl z → PW E p l e (rmv 3 0 0) s m args below meth c 3 0 0 (MQ below (QG E (fun v u => v = none ∧ u = r)) args s 0 0 (pA E)) (z.2) 2 [(0, some (.ref v0)), (1, some (.int (z.1)))] []) (kf : ∀ z : PH, x = .inr z → z = r) : PW E p l e (rmv 3 0 0) s m args below meth c 3 0 0 (MQ below (QG E (fun v u => v = none ∧ u = r)) args s 0 0 (pA E)) h 2 [(0, some (.ref v0)), (1, some (.int v1))] [] := by
  unfold fX3_countTally_c2 at hf
  refine p_iload_n X (dcg dc_X3_countTally 2 rfl) rfl rfl ?_
  refine p_bipush (v := 100) X (dcg dc_X3_countTally 3 rfl) (by decide) ?_
  refine p_icmp_gt (tgt := 21) X (dcg dc_X3_countTally 4 rfl) (by decide) (fun q => ?_) (fun q => ?_)
  · have hf := if_t q hf
    obtain ⟨y1, hf, hy2⟩ := mr_some hf
    have hy2f := kf y1 hy2
    subst hy2f
    refine p_iconst (v := 0) X (dcg dc_X3_countTally 12 rfl) (by decide) ?_
    refine p_istore_n X (dcg dc_X3_countTally 13 rfl) rfl (by decide) rfl ?_
    refine p_pick [0, 1] ?_
    exact wX3_countTally_l23 X hG hnm hf 
  · have hf := if_f q hf
    refine p_aload_n X (dcg dc_X3_countTally 5 rfl) rfl rfl ?_
    obtain ⟨hk27, hf⟩ := gd_some hf
    refine p_getR X fl_X3_18 rfl (by decide) (dcg dc_X3_countTally 6 rfl) hk27 ?_
    refine p_iload_n X (dcg dc_X3_countTally 7 rfl) rfl rfl ?_
    refine p_iconst (v := 0) X (dcg dc_X3_countTally 8 rfl) (by decide) ?_
    obtain ⟨a28, e29, hf⟩ := gs_some hf
    first | subst e29 | (try rw [e29])
    obtain ⟨⟨hk31, hb30⟩, hf⟩ := gd_some hf
    refine p_iast X (dcg dc_X3_countTally 9 rfl) hk31 (vp_of_inb hb30) ?_
    obtain ⟨h32, rfl, hf⟩ := lt_some hf
    refine p_iinc (v := 1) X (dcg dc_X3_countTally 10 rfl) rfl (by decide) (by decide) rfl ?_
    refine p_goto (tgt := 2) X (dcg dc_X3_countTally 11 rfl) (by decide) ?_
    refine p_pick [0, 1] ?_
    exact k0 _ (Option.some.inj hf).symm
noncomputable def fX3_countTally_l2 (v0 : Nat) (v1 : Int32) (h : PH) : Option PH := wh (fun z : (Int32 × PH) => fX3_countTally_c2 v0 (z.1) (z.2)) (v1, h)
set_option maxRecDepth 100000 in
theorem mX3_countTally_l2 {v0 : Nat} {v1 : Int32} {h : PH} {r : PH} (hf : fX3_countTally_l2 v0 v1 h = some r) : eqz h (hX r) (hV r) := by
  unfold fX3_countTally_l2 at hf
  refine wh_ind (P := fun z => eqz (z.2) (hX r) (hV r)) (fun z x0 hs i1 i2 => ?_) _ hf
  obtain ⟨c0, cf⟩ := mX3_countTally_c2 (v0 := v0) (v1 := z.1) (h := z.2) hs
  rcases hxx : x0 with zz | zz
  · exact eqz_tr (c0 zz hxx) (i1 zz hxx)
  · have ee := i2 zz hxx; subst ee; exact cf zz hxx
set_option maxRecDepth 100000 in
theorem wX3_countTally_l2 {E : PE} {p : Program} {l : Launch} {e : Env} {s : State} {m : MethodId} {args : Array Value} {below : List Frame} {meth : Method} {c : Code} (X : Cx E p l e (rmv 3 0 0) s m args below meth c RX3 cX3_countTally 3 (none)) (hG : Gs E l) (hnm : meth.name = yX3_countTally.name) {v0 : Nat} {v1 : Int32} {h : PH} {r : PH} (hf : fX3_countTally_l2 v0 v1 h = some r)  : PW E p l e (rmv 3 0 0) s m args below meth c 3 0 0 (MQ below (QG E (fun v u => v = none ∧ u = r)) args s 0 0 (pA E)) h 2 [(0, some (.ref v0)), (1, some (.int v1))] [] := by
  unfold fX3_countTally_l2 at hf
  refine wh_ind (P := fun z => PW E p l e (rmv 3 0 0) s m args below meth c 3 0 0 (MQ below (QG E (fun v u => v = none ∧ u = r)) args s 0 0 (pA E)) (z.2) 2 [(0, some (.ref v0)), (1, some (.int (z.1)))] []) (fun z x0 hs i1 i2 => ?_) _ hf
  exact wX3_countTally_c2 (r := r) (v0 := v0) (v1 := z.1) (h := z.2) X hG hnm hs i1  i2
noncomputable def fX3_countTally (v0 : Nat) (h : PH) : Option PH :=
  fX3_countTally_l2 v0 (0 : Int32) h
set_option maxRecDepth 100000 in
theorem mX3_countTally {v0 : Nat} {h : PH} {r : PH} (hf : fX3_countTally v0 h = some r) : eqz h (hX r) (hV r) := by
  unfold fX3_countTally at hf
  have hle := eqz_rf h
  exact eqz_rt (mX3_countTally_l2 hf) hle
set_option maxRecDepth 100000 in
theorem wX3_countTally {E : PE} {l : Launch} (hG : Gs E l) {v0 : Nat} {h : PH} {r : PH} (hf : fX3_countTally v0 h = some r) : Ct E l 3 0 0 yX3_countTally cX3_countTally 3 (none) [.ref v0] h (fun v u => v = none ∧ u = r) := by
  refine ct_of hG (by decide) (Nat.le_of_ble_eq_true rfl) ?_
  intro p e s m args below meth c X hnm
  show PW E p l e _ s m args below meth c _ 0 0 _ h 0 [(0, some (.ref v0))] []
  unfold fX3_countTally at hf
  refine p_iconst (v := 0) X (dcg dc_X3_countTally 0 rfl) (by decide) ?_
  refine p_istore_n X (dcg dc_X3_countTally 1 rfl) rfl (by decide) rfl ?_
  refine p_pick [0, 1] ?_
  exact wX3_countTally_l2 X hG hnm hf 
theorem dc_X3_frequentAt : decs cX3_frequentAt [(0, .iload_n 1, 1), (1, .ifCond .lt 14, 3), (4, .iload_n 1, 1), (5, .aload_n 0, 1), (6, .getfield 12, 3), (9, .invokevirtual 22, 3), (12, .if_icmp .lt 5, 3), (15, .iconst (-1), 1), (16, .ireturn, 1), (17, .aload_n 0, 1), (18, .invokevirtual 86, 3), (21, .iload_n 1, 1), (22, .istore_n 2, 1), (23, .bipush 100, 2), (25, .istore_n 3, 1), (26, .iload_n 3, 1), (27, .ifCond .le 28, 3), (30, .iload_n 2, 1), (31, .aload_n 0, 1), (32, .getfield 18, 3), (35, .iload_n 3, 1), (36, .iaload, 1), (37, .if_icmp .lt 18, 3), (40, .iload_n 2, 1), (41, .aload_n 0, 1), (42, .getfield 18, 3), (45, .iload_n 3, 1), (46, .iaload, 1), (47, .isub, 1), (48, .istore_n 2, 1), (49, .iinc 3 (-1), 3), (52, .goto (-26), 3), (55, .iconst 0, 1), (56, .istore 4, 2), (58, .iload 4, 2), (60, .aload_n 0, 1), (61, .getfield 12, 3), (64, .invokevirtual 22, 3), (67, .if_icmp .ge 54, 3), (70, .aload_n 0, 1), (71, .getfield 12, 3), (74, .iload 4, 2), (76, .invokevirtual 26, 3), (79, .checkcast 30, 3), (82, .getfield 69, 3), (85, .invokevirtual 82, 3), (88, .iload_n 3, 1), (89, .if_icmp .ne 26, 3), (92, .iload_n 2, 1), (93, .ifCond .ne 19, 3), (96, .aload_n 0, 1), (97, .getfield 12, 3), (100, .iload 4, 2), (102, .invokevirtual 26, 3), (105, .checkcast 30, 3), (108, .getfield 32, 3), (111, .ireturn, 1), (112, .iinc 2 (-1), 3), (115, .iinc 4 1, 3), (118, .goto (-60), 3), (121, .iconst (-1), 1), (122, .ireturn, 1)] = true := by decide +kernel
noncomputable def fX3_frequentAt_b15  (h : PH) : Option (Int32 × PH) :=
  some (((-1 : Int32), h))
set_option maxRecDepth 100000 in
theorem mX3_frequentAt_b15  {h : PH} {r : (Int32 × PH)} (hf : fX3_frequentAt_b15  h = some r) : eqz h (hX r.2) (hV r.2) := by
  unfold fX3_frequentAt_b15 at hf
  have hle := eqz_rf h
  have ee := Option.some.inj hf; subst ee; exact hle
set_option maxRecDepth 100000 in
theorem wX3_frequentAt_b15 {E : PE} {p : Program} {l : Launch} {e : Env} {s : State} {m : MethodId} {args : Array Value} {below : List Frame} {meth : Method} {c : Code} (X : Cx E p l e (rmv 4 0 0) s m args below meth c RX3 cX3_frequentAt 5 (some .int)) (hG : Gs E l) (hnm : meth.name = yX3_frequentAt.name)  {h : PH} {r : (Int32 × PH)} (hf : fX3_frequentAt_b15  h = some r)  : PW E p l e (rmv 4 0 0) s m args below meth c 5 0 0 (MQ below (QG E (fun v u => v = some (.int r.1) ∧ u = r.2)) args s 0 0 (pA E)) h 15 [] [] := by
  unfold fX3_frequentAt_b15 at hf
  refine p_iconst (v := -1) X (dcg dc_X3_frequentAt 7 rfl) (by decide) ?_
  have er := Option.some.inj hf
  subst er
  exact p_iret X rfl (dcg dc_X3_frequentAt 8 rfl) ⟨rfl, rfl⟩ (Nat.le_refl _) (Nat.le_refl _)
noncomputable def fX3_frequentAt_b115 (v0 : Nat) (v2 : Int32) (v3 : Int32) (v4 : Int32) (h : PH) : Option ((Int32 × Int32) ⊕ (Int32 × PH)) :=
  some (.inl (v2, (v4 + 1)))
set_option maxRecDepth 100000 in
theorem mX3_frequentAt_b115 {v0 : Nat} {v2 : Int32} {v3 : Int32} {v4 : Int32} {h : PH} {x : ((Int32 × Int32) ⊕ (Int32 × PH))} (hf : fX3_frequentAt_b115 v0 v2 v3 v4 h = some x) : (∀ w9 : (Int32 × PH), x = .inr w9 → eqz h (hX w9.2) (hV w9.2)) := by
  unfold fX3_frequentAt_b115 at hf
  have hle := eqz_rf h
  have ee := Option.some.inj hf; subst ee
  exact (fun z e => nomatch e)
set_option maxRecDepth 100000 in
theorem wX3_frequentAt_b115 {E : PE} {p : Program} {l : Launch} {e : Env} {s : State} {m : MethodId} {args : Array Value} {below : List Frame} {meth : Method} {c : Code} (X : Cx E p l e (rmv 4 0 0) s m args below meth c RX3 cX3_frequentAt 5 (some .int)) (hG : Gs E l) (hnm : meth.name = yX3_frequentAt.name) {v0 : Nat} {v2 : Int32} {v3 : Int32} {v4 : Int32} {h : PH} {r : (Int32 × PH)} {x : ((Int32 × Int32) ⊕ (Int32 × PH))} (hf : fX3_frequentAt_b115 v0 v2 v3 v4 h = some x) (k0 : ∀ z : (Int32 × Int32), x = .inl z → PW E p l e (rmv 4 0 0) s m args below meth c 5 0 0 (MQ below (QG E (fun v u => v = some (.int r.1) ∧ u = r.2)) args s 0 0 (pA E)) h 58 [(0, some (.ref v0)), (2, some (.int (z.1))), (3, some (.int v3)), (4, some (.int (z.2)))] []) (kf : ∀ z : (Int32 × PH), x = .inr z → z = r) : PW E p l e (rmv 4 0 0) s m args below meth c 5 0 0 (MQ below (QG E (fun v u => v = some (.int r.1) ∧ u = r.2)) args s 0 0 (pA E)) h 115 [(0, some (.ref v0)), (2, some (.int v2)), (3, some (.int v3)), (4, some (.int v4))] [] := by
  unfold fX3_frequentAt_b115 at hf
  refine p_iinc (v := 1) X (dcg dc_X3_frequentAt 58 rfl) rfl (by decide) (by decide) rfl ?_
  refine p_goto (tgt := 58) X (dcg dc_X3_frequentAt 59 rfl) (by decide) ?_
  refine p_pick [0, 2, 3, 4] ?_
  exact k0 _ (Option.some.inj hf).symm
noncomputable def fX3_frequentAt_c58 (v0 : Nat) (v2 : Int32) (v3 : Int32) (v4 : Int32) (h : PH) : Option ((Int32 × Int32) ⊕ (Int32 × PH)) :=
  gd (hK h v0 = 3) (gs (hR h 3 v0 0) (fun a8 =>
  gd (hK h a8 = 14) (bd (fJx4a65c_size_8abf5 a8 h) (fun z11 =>
  if (z11 ≤ v4) then (mr (some (((-1 : Int32), h)))) else
  gs (hR h 3 v0 0) (fun a14 =>
  gd (hK h a14 = 14) (bd (fJx4a65c_get_915e3 a14 v4 h) (fun z17 =>
  gs z17 (fun a18 =>
  gd (hK h a18 = 10) (gs (hR h 10 a18 2) (fun a21 =>
  gd (hK h a21 = 9) (bd (fX9_size a21 h) (fun z24 =>
  if (¬ z24 = v3) then (fX3_frequentAt_b115 v0 v2 v3 v4 h) else
  if (¬ v2 = 0) then (fX3_frequentAt_b115 v0 (v2 + (-1)) v3 v4 h) else
  mr (gs (hR h 3 v0 0) (fun a27 =>
  gd (hK h a27 = 14) (bd (fJx4a65c_get_915e3 a27 v4 h) (fun z30 =>
  gs z30 (fun a31 =>
  gd (hK h a31 = 10) (some (((hI h 10 a31 0), h))))))))))))))))))))
set_option maxRecDepth 100000 in
theorem mX3_frequentAt_c58 {v0 : Nat} {v2 : Int32} {v3 : Int32} {v4 : Int32} {h : PH} {x : ((Int32 × Int32) ⊕ (Int32 × PH))} (hf : fX3_frequentAt_c58 v0 v2 v3 v4 h = some x) : (∀ w9 : (Int32 × PH), x = .inr w9 → eqz h (hX w9.2) (hV w9.2)) := by
  unfold fX3_frequentAt_c58 at hf
  have hle := eqz_rf h
  obtain ⟨hk7, hf⟩ := gd_some hf
  obtain ⟨a8, e9, hf⟩ := gs_some hf
  obtain ⟨hk10, hf⟩ := gd_some hf
  obtain ⟨z11, hz11, hf⟩ := bd_some hf
  rcases ite_or hf with ⟨q, hf⟩ | ⟨q, hf⟩
  · have hf := if_t q hf
    obtain ⟨y12, hfm, rfl⟩ := mr_some hf; have hf := hfm; clear hfm
    have ee := Option.some.inj hf; subst ee
    exact (fun z e => by have ee := Sum.inr.inj (e); subst ee; exact hle)
  · have hf := if_f q hf
    obtain ⟨a14, e15, hf⟩ := gs_some hf
    obtain ⟨hk16, hf⟩ := gd_some hf
    obtain ⟨z17, hz17, hf⟩ := bd_some hf
    obtain ⟨a18, e19, hf⟩ := gs_some hf
    obtain ⟨hk20, hf⟩ := gd_some hf
    obtain ⟨a21, e22, hf⟩ := gs_some hf
    obtain ⟨hk23, hf⟩ := gd_some hf
    obtain ⟨z24, hz24, hf⟩ := bd_some hf
    rcases ite_or hf with ⟨q, hf⟩ | ⟨q, hf⟩
    · have hf := if_t q hf
      obtain cf := mX3_frequentAt_b115 hf
      exact fun z e => eqz_rt (cf z (e)) hle
    · have hf := if_f q hf
      rcases ite_or hf with ⟨q, hf⟩ | ⟨q, hf⟩
      · have hf := if_t q hf
        obtain cf := mX3_frequentAt_b115 hf
        exact fun z e => eqz_rt (cf z (e)) hle
      · have hf := if_f q hf
        obtain ⟨y25, hfm, rfl⟩ := mr_some hf; have hf := hfm; clear hfm
        obtain ⟨a27, e28, hf⟩ := gs_some hf
        obtain ⟨hk29, hf⟩ := gd_some hf
        obtain ⟨z30, hz30, hf⟩ := bd_some hf
        obtain ⟨a31, e32, hf⟩ := gs_some hf
        obtain ⟨hk33, hf⟩ := gd_some hf
        have ee := Option.some.inj hf; subst ee
        exact (fun z e => by have ee := Sum.inr.inj (e); subst ee; exact hle)
set_option maxRecDepth 100000 in
theorem wX3_frequentAt_c58 {E : PE} {p : Program} {l : Launch} {e : Env} {s : State} {m : MethodId} {args : Array Value} {below : List Frame} {meth : Method} {c : Code} (X : Cx E p l e (rmv 4 0 0) s m args below meth c RX3 cX3_frequentAt 5 (some .int)) (hG : Gs E l) (hnm : meth.name = yX3_frequentAt.name) {v0 : Nat} {v2 : Int32} {v3 : Int32} {v4 : Int32} {h : PH} {r : (Int32 × PH)} {x : ((Int32 × Int32) ⊕ (Int32 × PH))} (hf : fX3_frequentAt_c58 v0 v2 v3 v4 h = some x) (k0 : ∀ z : (Int32 × Int32), x = .inl z → PW E p l e (rmv 4 0 0) s m args below meth c 5 0 0 (MQ below (QG E (fun v u => v = some (.int r.1) ∧ u = r.2)) args s 0 0 (pA E)) h 58 [(0, some (.ref v0)), (2, some (.int (z.1))), (3, some (.int v3)), (4, some (.int (z.2)))] []) (kf : ∀ z : (Int32 × PH), x = .inr z → z = r) : PW E p l e (rmv 4 0 0) s m args below meth c 5 0 0 (MQ below (QG E (fun v u => v = some (.int r.1) ∧ u = r.2)) args s 0 0 (pA E)) h 58 [(0, some (.ref v0)), (2, some (.int v2)), (3, some (.int v3)), (4, some (.int v4))] [] := by
  unfold fX3_frequentAt_c58 at hf
  refine p_iload X (dcg dc_X3_frequentAt 34 rfl) rfl ?_
  refine p_aload_n X (dcg dc_X3_frequentAt 35 rfl) rfl rfl ?_
  obtain ⟨hk7, hf⟩ := gd_some hf
  refine p_getR X fl_X3_12 rfl (by decide) (dcg dc_X3_frequentAt 36 rfl) hk7 ?_
  obtain ⟨a8, e9, hf⟩ := gs_some hf
  first | subst e9 | (try rw [e9])
  obtain ⟨hk10, hf⟩ := gd_some hf
  obtain ⟨z11, hz11, hf⟩ := bd_some hf
  refine p_callV (As := []) X ml_X3_22 (dcg dc_X3_frequentAt 37 rfl) rfl rfl hk10 (wJx4a65c_size_8abf5 hG hz11) (by decide) (room4 (Nat.le_of_ble_eq_true rfl)) (Nat.le_refl _) (Nat.le_refl _) ?_
  rintro _ u9 ⟨rfl, e9⟩; have e9 := e9.symm; subst e9
  refine p_icmp_ge (tgt := 121) X (dcg dc_X3_frequentAt 38 rfl) (by decide) (fun q => ?_) (fun q => ?_)
  · have hf := if_t q hf
    obtain ⟨y12, hf, hy13⟩ := mr_some hf
    have hy13f := kf y12 hy13
    subst hy13f
    refine p_iconst (v := -1) X (dcg dc_X3_frequentAt 60 rfl) (by decide) ?_
    have er := Option.some.inj hf
    subst er
    exact p_iret X rfl (dcg dc_X3_frequentAt 61 rfl) ⟨rfl, rfl⟩ (Nat.le_refl _) (Nat.le_refl _)
  · have hf := if_f q hf
    refine p_aload_n X (dcg dc_X3_frequentAt 39 rfl) rfl rfl ?_
    refine p_getR X fl_X3_12 rfl (by decide) (dcg dc_X3_frequentAt 40 rfl) hk7 ?_
    refine p_iload X (dcg dc_X3_frequentAt 41 rfl) rfl ?_
    obtain ⟨a14, e15, hf⟩ := gs_some hf
    first | subst e15 | (try rw [e15])
    obtain ⟨hk16, hf⟩ := gd_some hf
    obtain ⟨z17, hz17, hf⟩ := bd_some hf
    refine p_callV (As := [_]) X ml_X3_26 (dcg dc_X3_frequentAt 42 rfl) rfl rfl hk16 (wJx4a65c_get_915e3 hG hz17) (by decide) (room4 (Nat.le_of_ble_eq_true rfl)) (Nat.le_refl _) (Nat.le_refl _) ?_
    rintro _ u9 ⟨rfl, e9⟩; have e9 := e9.symm; subst e9
    obtain ⟨a18, e19, hf⟩ := gs_some hf
    first | subst e19 | (try rw [e19])
    obtain ⟨hk20, hf⟩ := gd_some hf
    refine p_cast (q := (RX10, TX10, 3)) X rfl tw_505 (dcg dc_X3_frequentAt 43 rfl) hk20 ?_
    refine p_getRn X fl_X3_69 rfl (by decide) (dcg dc_X3_frequentAt 44 rfl) hk20 ?_
    obtain ⟨a21, e22, hf⟩ := gs_some hf
    first | subst e22 | (try rw [e22])
    obtain ⟨hk23, hf⟩ := gd_some hf
    obtain ⟨z24, hz24, hf⟩ := bd_some hf
    refine p_callV (As := []) X ml_X3_82 (dcg dc_X3_frequentAt 45 rfl) rfl rfl hk23 (wX9_size hG hz24) (by decide) (room4 (Nat.le_of_ble_eq_true rfl)) (Nat.le_refl _) (Nat.le_refl _) ?_
    rintro _ u9 ⟨rfl, e9⟩; have e9 := e9.symm; subst e9
    refine p_iload_n X (dcg dc_X3_frequentAt 46 rfl) rfl rfl ?_
    refine p_icmp_ne (tgt := 115) X (dcg dc_X3_frequentAt 47 rfl) (by decide) (fun q => ?_) (fun q => ?_)
    · have hf := if_t q hf
      refine p_pick [0, 2, 3, 4] ?_
      exact wX3_frequentAt_b115 X hG hnm hf k0 kf
    · have hf := if_f q hf
      refine p_iload_n X (dcg dc_X3_frequentAt 48 rfl) rfl rfl ?_
      refine p_if_ne (tgt := 112) X (dcg dc_X3_frequentAt 49 rfl) (by decide) (fun q => ?_) (fun q => ?_)
      · have hf := if_t q hf
        refine p_iinc (v := -1) X (dcg dc_X3_frequentAt 57 rfl) rfl (by decide) (by decide) rfl ?_
        refine p_pick [0, 2, 3, 4] ?_
        exact wX3_frequentAt_b115 X hG hnm hf k0 kf
      · have hf := if_f q hf
        obtain ⟨y25, hf, hy26⟩ := mr_some hf
        have hy26f := kf y25 hy26
        subst hy26f
        refine p_aload_n X (dcg dc_X3_frequentAt 50 rfl) rfl rfl ?_
        refine p_getR X fl_X3_12 rfl (by decide) (dcg dc_X3_frequentAt 51 rfl) hk7 ?_
        refine p_iload X (dcg dc_X3_frequentAt 52 rfl) rfl ?_
        obtain ⟨a27, e28, hf⟩ := gs_some hf
        first | subst e28 | (try rw [e28])
        obtain ⟨hk29, hf⟩ := gd_some hf
        obtain ⟨z30, hz30, hf⟩ := bd_some hf
        refine p_callV (As := [_]) X ml_X3_26 (dcg dc_X3_frequentAt 53 rfl) rfl rfl hk29 (wJx4a65c_get_915e3 hG hz30) (by decide) (room4 (Nat.le_of_ble_eq_true rfl)) (Nat.le_refl _) (Nat.le_refl _) ?_
        rintro _ u9 ⟨rfl, e9⟩; have e9 := e9.symm; subst e9
        obtain ⟨a31, e32, hf⟩ := gs_some hf
        first | subst e32 | (try rw [e32])
        obtain ⟨hk33, hf⟩ := gd_some hf
        refine p_cast (q := (RX10, TX10, 3)) X rfl tw_505 (dcg dc_X3_frequentAt 54 rfl) hk33 ?_
        refine p_getIn X fl_X3_32 rfl (by decide) (dcg dc_X3_frequentAt 55 rfl) hk33 ?_
        have er := Option.some.inj hf
        subst er
        exact p_iret X rfl (dcg dc_X3_frequentAt 56 rfl) ⟨rfl, rfl⟩ (Nat.le_refl _) (Nat.le_refl _)
noncomputable def fX3_frequentAt_l58 (v0 : Nat) (v2 : Int32) (v3 : Int32) (v4 : Int32) (h : PH) : Option (Int32 × PH) := wh (fun z : (Int32 × Int32) => fX3_frequentAt_c58 v0 (z.1) v3 (z.2) h) (v2, v4)
set_option maxRecDepth 100000 in
theorem mX3_frequentAt_l58 {v0 : Nat} {v2 : Int32} {v3 : Int32} {v4 : Int32} {h : PH} {r : (Int32 × PH)} (hf : fX3_frequentAt_l58 v0 v2 v3 v4 h = some r) : eqz h (hX r.2) (hV r.2) := by
  unfold fX3_frequentAt_l58 at hf
  refine wh_ind (P := fun z => eqz h (hX r.2) (hV r.2)) (fun z x0 hs i1 i2 => ?_) _ hf
  obtain cf := mX3_frequentAt_c58 (v0 := v0) (v2 := z.1) (v3 := v3) (v4 := z.2) (h := h) hs
  rcases hxx : x0 with zz | zz
  · exact (i1 zz hxx)
  · have ee := i2 zz hxx; subst ee; exact cf zz hxx
set_option maxRecDepth 100000 in
theorem wX3_frequentAt_l58 {E : PE} {p : Program} {l : Launch} {e : Env} {s : State} {m : MethodId} {args : Array Value} {below : List Frame} {meth : Method} {c : Code} (X : Cx E p l e (rmv 4 0 0) s m args below meth c RX3 cX3_frequentAt 5 (some .int)) (hG : Gs E l) (hnm : meth.name = yX3_frequentAt.name) {v0 : Nat} {v2 : Int32} {v3 : Int32} {v4 : Int32} {h : PH} {r : (Int32 × PH)} (hf : fX3_frequentAt_l58 v0 v2 v3 v4 h = some r)  : PW E p l e (rmv 4 0 0) s m args below meth c 5 0 0 (MQ below (QG E (fun v u => v = some (.int r.1) ∧ u = r.2)) args s 0 0 (pA E)) h 58 [(0, some (.ref v0)), (2, some (.int v2)), (3, some (.int v3)), (4, some (.int v4))] [] := by
  unfold fX3_frequentAt_l58 at hf
  refine wh_ind (P := fun z => PW E p l e (rmv 4 0 0) s m args below meth c 5 0 0 (MQ below (QG E (fun v u => v = some (.int r.1) ∧ u = r.2)) args s 0 0 (pA E)) h 58 [(0, some (.ref v0)), (2, some (.int (z.1))), (3, some (.int v3)), (4, some (.int (z.2)))] []) (fun z x0 hs i1 i2 => ?_) _ hf
  exact wX3_frequentAt_c58 (r := r) (v0 := v0) (v2 := z.1) (v3 := v3) (v4 := z.2) (h := h) X hG hnm hs i1  i2
noncomputable def fX3_frequentAt_b55 (v0 : Nat) (v2 : Int32) (v3 : Int32) (h : PH) : Option (Int32 × PH) :=
  fX3_frequentAt_l58 v0 v2 v3 (0 : Int32) h
set_option maxRecDepth 100000 in
theorem mX3_frequentAt_b55 {v0 : Nat} {v2 : Int32} {v3 : Int32} {h : PH} {r : (Int32 × PH)} (hf : fX3_frequentAt_b55 v0 v2 v3 h = some r) : eqz h (hX r.2) (hV r.2) := by
  unfold fX3_frequentAt_b55 at hf
  have hle := eqz_rf h
  exact eqz_rt (mX3_frequentAt_l58 hf) hle
set_option maxRecDepth 100000 in
theorem wX3_frequentAt_b55 {E : PE} {p : Program} {l : Launch} {e : Env} {s : State} {m : MethodId} {args : Array Value} {below : List Frame} {meth : Method} {c : Code} (X : Cx E p l e (rmv 4 0 0) s m args below meth c RX3 cX3_frequentAt 5 (some .int)) (hG : Gs E l) (hnm : meth.name = yX3_frequentAt.name) {v0 : Nat} {v2 : Int32} {v3 : Int32} {h : PH} {r : (Int32 × PH)} (hf : fX3_frequentAt_b55 v0 v2 v3 h = some r)  : PW E p l e (rmv 4 0 0) s m args below meth c 5 0 0 (MQ below (QG E (fun v u => v = some (.int r.1) ∧ u = r.2)) args s 0 0 (pA E)) h 55 [(0, some (.ref v0)), (2, some (.int v2)), (3, some (.int v3))] [] := by
  unfold fX3_frequentAt_b55 at hf
  refine p_iconst (v := 0) X (dcg dc_X3_frequentAt 32 rfl) (by decide) ?_
  refine p_istore X (dcg dc_X3_frequentAt 33 rfl) (by decide) rfl ?_
  refine p_pick [0, 2, 3, 4] ?_
  exact wX3_frequentAt_l58 X hG hnm hf 
noncomputable def fX3_frequentAt_c26 (v0 : Nat) (v2 : Int32) (v3 : Int32) (h : PH) : Option ((Int32 × Int32) ⊕ (Int32 × PH)) :=
  if (v3 ≤ 0) then (mr (fX3_frequentAt_b55 v0 v2 v3 h)) else
  gd (hK h v0 = 3) (gs (hR h 3 v0 1) (fun a37 =>
  gd (hK h a37 = 20 ∧ inb v3 (hN h a37)) (if (v2 < (hI h 20 a37 (Int32.toNatClampNeg v3))) then (mr (fX3_frequentAt_b55 v0 v2 v3 h)) else
  gs (hR h 3 v0 1) (fun a43 =>
  gd (hK h a43 = 20 ∧ inb v3 (hN h a43)) (some (.inl ((v2 - (hI h 20 a43 (Int32.toNatClampNeg v3))), (v3 + (-1)))))))))
set_option maxRecDepth 100000 in
theorem mX3_frequentAt_c26 {v0 : Nat} {v2 : Int32} {v3 : Int32} {h : PH} {x : ((Int32 × Int32) ⊕ (Int32 × PH))} (hf : fX3_frequentAt_c26 v0 v2 v3 h = some x) : (∀ w9 : (Int32 × PH), x = .inr w9 → eqz h (hX w9.2) (hV w9.2)) := by
  unfold fX3_frequentAt_c26 at hf
  have hle := eqz_rf h
  rcases ite_or hf with ⟨q, hf⟩ | ⟨q, hf⟩
  · have hf := if_t q hf
    obtain ⟨y34, hfm, rfl⟩ := mr_some hf; have hf := hfm; clear hfm
    have cf := mX3_frequentAt_b55 hf
    exact (fun z e => by cases e <;> exact eqz_rt cf hle)
  · have hf := if_f q hf
    obtain ⟨hk36, hf⟩ := gd_some hf
    obtain ⟨a37, e38, hf⟩ := gs_some hf
    obtain ⟨⟨hk40, hb39⟩, hf⟩ := gd_some hf
    rcases ite_or hf with ⟨q, hf⟩ | ⟨q, hf⟩
    · have hf := if_t q hf
      obtain ⟨y41, hfm, rfl⟩ := mr_some hf; have hf := hfm; clear hfm
      have cf := mX3_frequentAt_b55 hf
      exact (fun z e => by cases e <;> exact eqz_rt cf hle)
    · have hf := if_f q hf
      obtain ⟨a43, e44, hf⟩ := gs_some hf
      obtain ⟨⟨hk46, hb45⟩, hf⟩ := gd_some hf
      have ee := Option.some.inj hf; subst ee
      exact (fun z e => nomatch e)
set_option maxRecDepth 100000 in
theorem wX3_frequentAt_c26 {E : PE} {p : Program} {l : Launch} {e : Env} {s : State} {m : MethodId} {args : Array Value} {below : List Frame} {meth : Method} {c : Code} (X : Cx E p l e (rmv 4 0 0) s m args below meth c RX3 cX3_frequentAt 5 (some .int)) (hG : Gs E l) (hnm : meth.name = yX3_frequentAt.name) {v0 : Nat} {v2 : Int32} {v3 : Int32} {h : PH} {r : (Int32 × PH)} {x : ((Int32 × Int32) ⊕ (Int32 × PH))} (hf : fX3_frequentAt_c26 v0 v2 v3 h = some x) (k0 : ∀ z : (Int32 × Int32), x = .inl z → PW E p l e (rmv 4 0 0) s m args below meth c 5 0 0 (MQ below (QG E (fun v u => v = some (.int r.1) ∧ u = r.2)) args s 0 0 (pA E)) h 26 [(0, some (.ref v0)), (2, some (.int (z.1))), (3, some (.int (z.2)))] []) (kf : ∀ z : (Int32 × PH), x = .inr z → z = r) : PW E p l e (rmv 4 0 0) s m args below meth c 5 0 0 (MQ below (QG E (fun v u => v = some (.int r.1) ∧ u = r.2)) args s 0 0 (pA E)) h 26 [(0, some (.ref v0)), (2, some (.int v2)), (3, some (.int v3))] [] := by
  unfold fX3_frequentAt_c26 at hf
  refine p_iload_n X (dcg dc_X3_frequentAt 15 rfl) rfl rfl ?_
  refine p_if_le (tgt := 55) X (dcg dc_X3_frequentAt 16 rfl) (by decide) (fun q => ?_) (fun q => ?_)
  · have hf := if_t q hf
    obtain ⟨y34, hf, hy35⟩ := mr_some hf
    have hy35f := kf y34 hy35
    subst hy35f
    refine p_pick [0, 2, 3] ?_
    exact wX3_frequentAt_b55 X hG hnm hf 
  · have hf := if_f q hf
    refine p_iload_n X (dcg dc_X3_frequentAt 17 rfl) rfl rfl ?_
    refine p_aload_n X (dcg dc_X3_frequentAt 18 rfl) rfl rfl ?_
    obtain ⟨hk36, hf⟩ := gd_some hf
    refine p_getR X fl_X3_18 rfl (by decide) (dcg dc_X3_frequentAt 19 rfl) hk36 ?_
    refine p_iload_n X (dcg dc_X3_frequentAt 20 rfl) rfl rfl ?_
    obtain ⟨a37, e38, hf⟩ := gs_some hf
    first | subst e38 | (try rw [e38])
    obtain ⟨⟨hk40, hb39⟩, hf⟩ := gd_some hf
    refine p_iald X (dcg dc_X3_frequentAt 21 rfl) hk40 (vp_of_inb hb39) ?_
    refine p_icmp_lt (tgt := 55) X (dcg dc_X3_frequentAt 22 rfl) (by decide) (fun q => ?_) (fun q => ?_)
    · have hf := if_t q hf
      obtain ⟨y41, hf, hy42⟩ := mr_some hf
      have hy42f := kf y41 hy42
      subst hy42f
      refine p_pick [0, 2, 3] ?_
      exact wX3_frequentAt_b55 X hG hnm hf 
    · have hf := if_f q hf
      refine p_iload_n X (dcg dc_X3_frequentAt 23 rfl) rfl rfl ?_
      refine p_aload_n X (dcg dc_X3_frequentAt 24 rfl) rfl rfl ?_
      refine p_getR X fl_X3_18 rfl (by decide) (dcg dc_X3_frequentAt 25 rfl) hk36 ?_
      refine p_iload_n X (dcg dc_X3_frequentAt 26 rfl) rfl rfl ?_
      obtain ⟨a43, e44, hf⟩ := gs_some hf
      first | subst e44 | (try rw [e44])
      obtain ⟨⟨hk46, hb45⟩, hf⟩ := gd_some hf
      refine p_iald X (dcg dc_X3_frequentAt 27 rfl) hk46 (vp_of_inb hb45) ?_
      refine p_isub X (dcg dc_X3_frequentAt 28 rfl) ?_
      refine p_istore_n X (dcg dc_X3_frequentAt 29 rfl) rfl (by decide) rfl ?_
      refine p_iinc (v := -1) X (dcg dc_X3_frequentAt 30 rfl) rfl (by decide) (by decide) rfl ?_
      refine p_goto (tgt := 26) X (dcg dc_X3_frequentAt 31 rfl) (by decide) ?_
      refine p_pick [0, 2, 3] ?_
      exact k0 _ (Option.some.inj hf).symm
noncomputable def fX3_frequentAt_l26 (v0 : Nat) (v2 : Int32) (v3 : Int32) (h : PH) : Option (Int32 × PH) := wh (fun z : (Int32 × Int32) => fX3_frequentAt_c26 v0 (z.1) (z.2) h) (v2, v3)
set_option maxRecDepth 100000 in
theorem mX3_frequentAt_l26 {v0 : Nat} {v2 : Int32} {v3 : Int32} {h : PH} {r : (Int32 × PH)} (hf : fX3_frequentAt_l26 v0 v2 v3 h = some r) : eqz h (hX r.2) (hV r.2) := by
  unfold fX3_frequentAt_l26 at hf
  refine wh_ind (P := fun z => eqz h (hX r.2) (hV r.2)) (fun z x0 hs i1 i2 => ?_) _ hf
  obtain cf := mX3_frequentAt_c26 (v0 := v0) (v2 := z.1) (v3 := z.2) (h := h) hs
  rcases hxx : x0 with zz | zz
  · exact (i1 zz hxx)
  · have ee := i2 zz hxx; subst ee; exact cf zz hxx
set_option maxRecDepth 100000 in
theorem wX3_frequentAt_l26 {E : PE} {p : Program} {l : Launch} {e : Env} {s : State} {m : MethodId} {args : Array Value} {below : List Frame} {meth : Method} {c : Code} (X : Cx E p l e (rmv 4 0 0) s m args below meth c RX3 cX3_frequentAt 5 (some .int)) (hG : Gs E l) (hnm : meth.name = yX3_frequentAt.name) {v0 : Nat} {v2 : Int32} {v3 : Int32} {h : PH} {r : (Int32 × PH)} (hf : fX3_frequentAt_l26 v0 v2 v3 h = some r)  : PW E p l e (rmv 4 0 0) s m args below meth c 5 0 0 (MQ below (QG E (fun v u => v = some (.int r.1) ∧ u = r.2)) args s 0 0 (pA E)) h 26 [(0, some (.ref v0)), (2, some (.int v2)), (3, some (.int v3))] [] := by
  unfold fX3_frequentAt_l26 at hf
  refine wh_ind (P := fun z => PW E p l e (rmv 4 0 0) s m args below meth c 5 0 0 (MQ below (QG E (fun v u => v = some (.int r.1) ∧ u = r.2)) args s 0 0 (pA E)) h 26 [(0, some (.ref v0)), (2, some (.int (z.1))), (3, some (.int (z.2)))] []) (fun z x0 hs i1 i2 => ?_) _ hf
  exact wX3_frequentAt_c26 (r := r) (v0 := v0) (v2 := z.1) (v3 := z.2) (h := h) X hG hnm hs i1  i2
noncomputable def fX3_frequentAt (v0 : Nat) (v1 : Int32) (h : PH) : Option (Int32 × PH) :=
  if (v1 < 0) then (fX3_frequentAt_b15  h) else
  gd (hK h v0 = 3) (gs (hR h 3 v0 0) (fun a2 =>
  gd (hK h a2 = 14) (bd (fJx4a65c_size_8abf5 a2 h) (fun z5 =>
  if (v1 < z5) then (bd (fX3_countTally v0 h) (fun z6 =>
  fX3_frequentAt_l26 v0 v1 (100 : Int32) z6)) else
  fX3_frequentAt_b15  h))))
set_option maxRecDepth 100000 in
theorem mX3_frequentAt {v0 : Nat} {v1 : Int32} {h : PH} {r : (Int32 × PH)} (hf : fX3_frequentAt v0 v1 h = some r) : eqz h (hX r.2) (hV r.2) := by
  unfold fX3_frequentAt at hf
  have hle := eqz_rf h
  rcases ite_or hf with ⟨q, hf⟩ | ⟨q, hf⟩
  · have hf := if_t q hf
    exact eqz_rt (mX3_frequentAt_b15 hf) hle
  · have hf := if_f q hf
    obtain ⟨hk1, hf⟩ := gd_some hf
    obtain ⟨a2, e3, hf⟩ := gs_some hf
    obtain ⟨hk4, hf⟩ := gd_some hf
    obtain ⟨z5, hz5, hf⟩ := bd_some hf
    rcases ite_or hf with ⟨q, hf⟩ | ⟨q, hf⟩
    · have hf := if_t q hf
      obtain ⟨z6, hz6, hf⟩ := bd_some hf
      have hle := eqz_rt (mX3_countTally hz6) hle
      exact eqz_rt (mX3_frequentAt_l26 hf) hle
    · have hf := if_f q hf
      exact eqz_rt (mX3_frequentAt_b15 hf) hle
set_option maxRecDepth 100000 in
theorem wX3_frequentAt {E : PE} {l : Launch} (hG : Gs E l) {v0 : Nat} {v1 : Int32} {h : PH} {r : (Int32 × PH)} (hf : fX3_frequentAt v0 v1 h = some r) : Ct E l 4 0 0 yX3_frequentAt cX3_frequentAt 5 (some .int) [.ref v0, .int v1] h (fun v u => v = some (.int r.1) ∧ u = r.2) := by
  refine ct_of hG (by decide) (Nat.le_of_ble_eq_true rfl) ?_
  intro p e s m args below meth c X hnm
  show PW E p l e _ s m args below meth c _ 0 0 _ h 0 [(0, some (.ref v0)), (1, some (.int v1))] []
  unfold fX3_frequentAt at hf
  refine p_iload_n X (dcg dc_X3_frequentAt 0 rfl) rfl rfl ?_
  refine p_if_lt (tgt := 15) X (dcg dc_X3_frequentAt 1 rfl) (by decide) (fun q => ?_) (fun q => ?_)
  · have hf := if_t q hf
    refine p_pick [] ?_
    exact wX3_frequentAt_b15 X hG hnm hf 
  · have hf := if_f q hf
    refine p_iload_n X (dcg dc_X3_frequentAt 2 rfl) rfl rfl ?_
    refine p_aload_n X (dcg dc_X3_frequentAt 3 rfl) rfl rfl ?_
    obtain ⟨hk1, hf⟩ := gd_some hf
    refine p_getR X fl_X3_12 rfl (by decide) (dcg dc_X3_frequentAt 4 rfl) hk1 ?_
    obtain ⟨a2, e3, hf⟩ := gs_some hf
    first | subst e3 | (try rw [e3])
    obtain ⟨hk4, hf⟩ := gd_some hf
    obtain ⟨z5, hz5, hf⟩ := bd_some hf
    refine p_callV (As := []) X ml_X3_22 (dcg dc_X3_frequentAt 5 rfl) rfl rfl hk4 (wJx4a65c_size_8abf5 hG hz5) (by decide) (room4 (Nat.le_of_ble_eq_true rfl)) (Nat.le_refl _) (Nat.le_refl _) ?_
    rintro _ u9 ⟨rfl, e9⟩; have e9 := e9.symm; subst e9
    refine p_icmp_lt (tgt := 17) X (dcg dc_X3_frequentAt 6 rfl) (by decide) (fun q => ?_) (fun q => ?_)
    · have hf := if_t q hf
      refine p_aload_n X (dcg dc_X3_frequentAt 9 rfl) rfl rfl ?_
      obtain ⟨z6, hz6, hf⟩ := bd_some hf
      refine p_callV (As := []) X ml_X3_86 (dcg dc_X3_frequentAt 10 rfl) rfl rfl hk1 (wX3_countTally hG hz6) (by decide) (room4 (Nat.le_of_ble_eq_true rfl)) (Nat.le_refl _) (Nat.le_refl _) ?_
      rintro _ u9 ⟨rfl, e9⟩; have e9 := e9.symm; subst e9
      refine p_iload_n X (dcg dc_X3_frequentAt 11 rfl) rfl rfl ?_
      refine p_istore_n X (dcg dc_X3_frequentAt 12 rfl) rfl (by decide) rfl ?_
      refine p_bipush (v := 100) X (dcg dc_X3_frequentAt 13 rfl) (by decide) ?_
      refine p_istore_n X (dcg dc_X3_frequentAt 14 rfl) rfl (by decide) rfl ?_
      refine p_pick [0, 2, 3] ?_
      exact wX3_frequentAt_l26 X hG hnm hf 
    · have hf := if_f q hf
      refine p_pick [] ?_
      exact wX3_frequentAt_b15 X hG hnm hf 
theorem dc_X9_shared : decs cX9_shared [(0, .aload_n 0, 1), (1, .getfield 11, 3), (4, .aload_n 1, 1), (5, .getfield 11, 3), (8, .land, 1), (9, .invokestatic 31, 3), (12, .aload_n 0, 1), (13, .getfield 15, 3), (16, .aload_n 1, 1), (17, .getfield 15, 3), (20, .land, 1), (21, .invokestatic 31, 3), (24, .iadd, 1), (25, .ireturn, 1)] = true := by decide +kernel
noncomputable def fX9_shared (v0 : Nat) (v1 : Option Nat) (h : PH) : Option Int32 :=
  gd (hK h v0 = 9) (gs v1 (fun a2 =>
  gd (hK h a2 = 9) (bd (fJ13_bitCount_95d88 ((hL h 9 v0 0) &&& (hL h 9 a2 0))) (fun z5 =>
  bd (fJ13_bitCount_95d88 ((hL h 9 v0 1) &&& (hL h 9 a2 1))) (fun z6 =>
  some ((z5 + z6)))))))
set_option maxRecDepth 100000 in
theorem wX9_shared {E : PE} {l : Launch} (hG : Gs E l) {v0 : Nat} {v1 : Option Nat} {h : PH} {r : Int32} (hf : fX9_shared v0 v1 h = some r) : Ct E l 1 0 0 yX9_shared cX9_shared 2 (some .int) [.ref v0, va_rf v1] h (fun v u => v = some (.int r) ∧ u = h) := by
  refine ct_of hG (by decide) (by simp [lg_sl, cat_rf, cat_r, cat_i, cat_l, cat_d, cat_f]) ?_
  intro p e s m args below meth c X hnm
  rw [show pargs 0 [.ref v0, va_rf v1] = [(0, some (.ref v0)), (1, some (va_rf v1))] from by simp [pargs, cat_rf, cat_r, cat_i, cat_l, cat_d, cat_f]]
  unfold fX9_shared at hf
  refine p_aload_n X (dcg dc_X9_shared 0 rfl) rfl rfl ?_
  obtain ⟨hk1, hf⟩ := gd_some hf
  refine p_getL X fl_X9_11 rfl (by decide) (dcg dc_X9_shared 1 rfl) hk1 ?_
  refine p_aloadq_n X (dcg dc_X9_shared 2 rfl) rfl rfl ?_
  obtain ⟨a2, e3, hf⟩ := gs_some hf
  first | subst e3 | (try rw [e3])
  obtain ⟨hk4, hf⟩ := gd_some hf
  refine p_getL X fl_X9_11 rfl (by decide) (dcg dc_X9_shared 3 rfl) hk4 ?_
  refine p_land X (dcg dc_X9_shared 4 rfl) ?_
  obtain ⟨z5, hz5, hf⟩ := bd_some hf
  refine p_callS (As := [_]) X ml_X9_31 (dcg dc_X9_shared 5 rfl) rfl rfl  (wJ13_bitCount_95d88 hG hz5) (by decide) (room4 (Nat.le_of_ble_eq_true rfl)) (Nat.le_refl _) (Nat.le_refl _) ?_
  rintro _ u9 ⟨rfl, e9⟩; have e9 := e9.symm; subst e9
  refine p_aload_n X (dcg dc_X9_shared 6 rfl) rfl rfl ?_
  refine p_getL X fl_X9_15 rfl (by decide) (dcg dc_X9_shared 7 rfl) hk1 ?_
  refine p_aload_n X (dcg dc_X9_shared 8 rfl) rfl rfl ?_
  refine p_getL X fl_X9_15 rfl (by decide) (dcg dc_X9_shared 9 rfl) hk4 ?_
  refine p_land X (dcg dc_X9_shared 10 rfl) ?_
  obtain ⟨z6, hz6, hf⟩ := bd_some hf
  refine p_callS (As := [_]) X ml_X9_31 (dcg dc_X9_shared 11 rfl) rfl rfl  (wJ13_bitCount_95d88 hG hz6) (by decide) (room4 (Nat.le_of_ble_eq_true rfl)) (Nat.le_refl _) (Nat.le_refl _) ?_
  rintro _ u9 ⟨rfl, e9⟩; have e9 := e9.symm; subst e9
  refine p_iadd X (dcg dc_X9_shared 12 rfl) ?_
  have er := Option.some.inj hf
  subst er
  exact p_iret X rfl (dcg dc_X9_shared 13 rfl) ⟨rfl, rfl⟩ (Nat.le_refl _) (Nat.le_refl _)
theorem dc_X3_companionOf : decs cX3_companionOf [(0, .aload_n 0, 1), (1, .iload_n 1, 1), (2, .invokevirtual 89, 3), (5, .astore_n 2, 1), (6, .iconst (-1), 1), (7, .istore_n 3, 1), (8, .iconst 0, 1), (9, .istore 4, 2), (11, .iconst 0, 1), (12, .istore 5, 2), (14, .aload_n 2, 1), (15, .ifnull 72, 3), (18, .iload 5, 2), (20, .aload_n 0, 1), (21, .getfield 12, 3), (24, .invokevirtual 22, 3), (27, .if_icmp .ge 60, 3), (30, .aload_n 0, 1), (31, .getfield 12, 3), (34, .iload 5, 2), (36, .invokevirtual 26, 3), (39, .checkcast 30, 3), (42, .astore 6, 2), (44, .aload_n 2, 1), (45, .getfield 69, 3), (48, .aload 6, 2), (50, .getfield 69, 3), (53, .invokevirtual 93, 3), (56, .istore 7, 2), (58, .aload 6, 2), (60, .aload_n 2, 1), (61, .if_acmp .eq 20, 3), (64, .iload 7, 2), (66, .iload 4, 2), (68, .if_icmp .le 13, 3), (71, .aload 6, 2), (73, .getfield 32, 3), (76, .istore_n 3, 1), (77, .iload 7, 2), (79, .istore 4, 2), (81, .iinc 5 1, 3), (84, .goto (-70), 3), (87, .iload_n 3, 1), (88, .ireturn, 1)] = true := by decide +kernel
noncomputable def fX3_companionOf_b87 (v3 : Int32) (h : PH) : Option Int32 :=
  some (v3)
set_option maxRecDepth 100000 in
theorem wX3_companionOf_b87 {E : PE} {p : Program} {l : Launch} {e : Env} {s : State} {m : MethodId} {args : Array Value} {below : List Frame} {meth : Method} {c : Code} (X : Cx E p l e (rmv 5 0 0) s m args below meth c RX3 cX3_companionOf 8 (some .int)) (hG : Gs E l) (hnm : meth.name = yX3_companionOf.name) {v3 : Int32} {h : PH} {r : Int32} (hf : fX3_companionOf_b87 v3 h = some r)  : PW E p l e (rmv 5 0 0) s m args below meth c 8 0 0 (MQ below (QG E (fun v u => v = some (.int r) ∧ u = h)) args s 0 0 (pA E)) h 87 [(3, some (.int v3))] [] := by
  unfold fX3_companionOf_b87 at hf
  refine p_iload_n X (dcg dc_X3_companionOf 42 rfl) rfl rfl ?_
  have er := Option.some.inj hf
  subst er
  exact p_iret X rfl (dcg dc_X3_companionOf 43 rfl) ⟨rfl, rfl⟩ (Nat.le_refl _) (Nat.le_refl _)
noncomputable def fX3_companionOf_b81 (v0 : Nat) (v2 : Option Nat) (v3 : Int32) (v4 : Int32) (v5 : Int32) (h : PH) : Option ((Int32 × Int32 × Int32) ⊕ Int32) :=
  some (.inl (v3, v4, (v5 + 1)))
set_option maxRecDepth 100000 in
theorem wX3_companionOf_b81 {E : PE} {p : Program} {l : Launch} {e : Env} {s : State} {m : MethodId} {args : Array Value} {below : List Frame} {meth : Method} {c : Code} (X : Cx E p l e (rmv 5 0 0) s m args below meth c RX3 cX3_companionOf 8 (some .int)) (hG : Gs E l) (hnm : meth.name = yX3_companionOf.name) {v0 : Nat} {v2 : Option Nat} {v3 : Int32} {v4 : Int32} {v5 : Int32} {h : PH} {r : Int32} {x : ((Int32 × Int32 × Int32) ⊕ Int32)} (hf : fX3_companionOf_b81 v0 v2 v3 v4 v5 h = some x) (k0 : ∀ z : (Int32 × Int32 × Int32), x = .inl z → PW E p l e (rmv 5 0 0) s m args below meth c 8 0 0 (MQ below (QG E (fun v u => v = some (.int r) ∧ u = h)) args s 0 0 (pA E)) h 14 [(0, some (.ref v0)), (2, some (va_rf v2)), (3, some (.int (z.1))), (4, some (.int (z.2.1))), (5, some (.int (z.2.2)))] []) (kf : ∀ z : Int32, x = .inr z → z = r) : PW E p l e (rmv 5 0 0) s m args below meth c 8 0 0 (MQ below (QG E (fun v u => v = some (.int r) ∧ u = h)) args s 0 0 (pA E)) h 81 [(0, some (.ref v0)), (2, some (va_rf v2)), (3, some (.int v3)), (4, some (.int v4)), (5, some (.int v5))] [] := by
  unfold fX3_companionOf_b81 at hf
  refine p_iinc (v := 1) X (dcg dc_X3_companionOf 40 rfl) rfl (by decide) (by decide) rfl ?_
  refine p_goto (tgt := 14) X (dcg dc_X3_companionOf 41 rfl) (by decide) ?_
  refine p_pick [0, 2, 3, 4, 5] ?_
  exact k0 _ (Option.some.inj hf).symm
noncomputable def fX3_companionOf_c14 (v0 : Nat) (v2 : Option Nat) (v3 : Int32) (v4 : Int32) (v5 : Int32) (h : PH) : Option ((Int32 × Int32 × Int32) ⊕ Int32) :=
  mq v2 (mr (fX3_companionOf_b87 v3 h)) (fun a3 =>
  gd (hK h v0 = 3) (gs (hR h 3 v0 0) (fun a7 =>
  gd (hK h a7 = 14) (bd (fJx4a65c_size_8abf5 a7 h) (fun z10 =>
  if (z10 ≤ v5) then (mr (fX3_companionOf_b87 v3 h)) else
  gs (hR h 3 v0 0) (fun a13 =>
  gd (hK h a13 = 14) (bd (fJx4a65c_get_915e3 a13 v5 h) (fun z16 =>
  gs z16 (fun a17 =>
  gd (hK h a17 = 10) (gd (hK h a3 = 10) (gs (hR h 10 a3 2) (fun a21 =>
  gd (hK h a21 = 9) (bd (fX9_shared a21 (hR h 10 a17 2) h) (fun z24 =>
  gd (acg (some a17) (some a3) = true) (if ((some a17) = (some a3)) then (fX3_companionOf_b81 v0 (some a3) v3 v4 v5 h) else
  if (z24 ≤ v4) then (fX3_companionOf_b81 v0 (some a3) v3 v4 v5 h) else
  fX3_companionOf_b81 v0 (some a3) (hI h 10 a17 0) z24 v5 h)))))))))))))))
set_option maxRecDepth 100000 in
theorem wX3_companionOf_c14 {E : PE} {p : Program} {l : Launch} {e : Env} {s : State} {m : MethodId} {args : Array Value} {below : List Frame} {meth : Method} {c : Code} (X : Cx E p l e (rmv 5 0 0) s m args below meth c RX3 cX3_companionOf 8 (some .int)) (hG : Gs E l) (hnm : meth.name = yX3_companionOf.name) {v0 : Nat} {v2 : Option Nat} {v3 : Int32} {v4 : Int32} {v5 : Int32} {h : PH} {r : Int32} {x : ((Int32 × Int32 × Int32) ⊕ Int32)} (hf : fX3_companionOf_c14 v0 v2 v3 v4 v5 h = some x) (k0 : ∀ z : (Int32 × Int32 × Int32), x = .inl z → PW E p l e (rmv 5 0 0) s m args below meth c 8 0 0 (MQ below (QG E (fun v u => v = some (.int r) ∧ u = h)) args s 0 0 (pA E)) h 14 [(0, some (.ref v0)), (2, some (va_rf v2)), (3, some (.int (z.1))), (4, some (.int (z.2.1))), (5, some (.int (z.2.2)))] []) (kf : ∀ z : Int32, x = .inr z → z = r) : PW E p l e (rmv 5 0 0) s m args below meth c 8 0 0 (MQ below (QG E (fun v u => v = some (.int r) ∧ u = h)) args s 0 0 (pA E)) h 14 [(0, some (.ref v0)), (2, some (va_rf v2)), (3, some (.int v3)), (4, some (.int v4)), (5, some (.int v5))] [] := by
  unfold fX3_companionOf_c14 at hf
  refine p_aloadq_n X (dcg dc_X3_companionOf 10 rfl) rfl rfl ?_
  refine p_ifnull (tgt := 87) X (dcg dc_X3_companionOf 11 rfl) (by decide) (fun q => ?_) (fun a3 q => ?_)
  · have hk26 := mq_n q hf
    first | subst q | (try rw [q])
    have hf := hk26
    obtain ⟨y4, hf, hy5⟩ := mr_some hf
    have hy5f := kf y4 hy5
    subst hy5f
    refine p_pick [3] ?_
    exact wX3_companionOf_b87 X hG hnm hf 
  · have hk26 := mq_s q hf
    first | subst q | (try rw [q])
    have hf := hk26
    refine p_iload X (dcg dc_X3_companionOf 12 rfl) rfl ?_
    refine p_aload_n X (dcg dc_X3_companionOf 13 rfl) rfl rfl ?_
    obtain ⟨hk6, hf⟩ := gd_some hf
    refine p_getR X fl_X3_12 rfl (by decide) (dcg dc_X3_companionOf 14 rfl) hk6 ?_
    obtain ⟨a7, e8, hf⟩ := gs_some hf
    first | subst e8 | (try rw [e8])
    obtain ⟨hk9, hf⟩ := gd_some hf
    obtain ⟨z10, hz10, hf⟩ := bd_some hf
    refine p_callV (As := []) X ml_X3_22 (dcg dc_X3_companionOf 15 rfl) rfl rfl hk9 (wJx4a65c_size_8abf5 hG hz10) (by decide) (room4 (Nat.le_of_ble_eq_true rfl)) (Nat.le_refl _) (Nat.le_refl _) ?_
    rintro _ u9 ⟨rfl, e9⟩; have e9 := e9.symm; subst e9
    refine p_icmp_ge (tgt := 87) X (dcg dc_X3_companionOf 16 rfl) (by decide) (fun q => ?_) (fun q => ?_)
    · have hf := if_t q hf
      obtain ⟨y11, hf, hy12⟩ := mr_some hf
      have hy12f := kf y11 hy12
      subst hy12f
      refine p_pick [3] ?_
      exact wX3_companionOf_b87 X hG hnm hf 
    · have hf := if_f q hf
      refine p_aload_n X (dcg dc_X3_companionOf 17 rfl) rfl rfl ?_
      refine p_getR X fl_X3_12 rfl (by decide) (dcg dc_X3_companionOf 18 rfl) hk6 ?_
      refine p_iload X (dcg dc_X3_companionOf 19 rfl) rfl ?_
      obtain ⟨a13, e14, hf⟩ := gs_some hf
      first | subst e14 | (try rw [e14])
      obtain ⟨hk15, hf⟩ := gd_some hf
      obtain ⟨z16, hz16, hf⟩ := bd_some hf
      refine p_callV (As := [_]) X ml_X3_26 (dcg dc_X3_companionOf 20 rfl) rfl rfl hk15 (wJx4a65c_get_915e3 hG hz16) (by decide) (room4 (Nat.le_of_ble_eq_true rfl)) (Nat.le_refl _) (Nat.le_refl _) ?_
      rintro _ u9 ⟨rfl, e9⟩; have e9 := e9.symm; subst e9
      obtain ⟨a17, e18, hf⟩ := gs_some hf
      first | subst e18 | (try rw [e18])
      obtain ⟨hk19, hf⟩ := gd_some hf
      refine p_cast (q := (RX10, TX10, 3)) X rfl tw_505 (dcg dc_X3_companionOf 21 rfl) hk19 ?_
      refine p_astore X (dcg dc_X3_companionOf 22 rfl) (by decide) rfl ?_
      refine p_aload_n X (dcg dc_X3_companionOf 23 rfl) rfl rfl ?_
      obtain ⟨hk20, hf⟩ := gd_some hf
      refine p_getRn X fl_X3_69 rfl (by decide) (dcg dc_X3_companionOf 24 rfl) hk20 ?_
      refine p_aload X (dcg dc_X3_companionOf 25 rfl) rfl ?_
      refine p_getRn X fl_X3_69 rfl (by decide) (dcg dc_X3_companionOf 26 rfl) hk19 ?_
      obtain ⟨a21, e22, hf⟩ := gs_some hf
      first | subst e22 | (try rw [e22])
      obtain ⟨hk23, hf⟩ := gd_some hf
      obtain ⟨z24, hz24, hf⟩ := bd_some hf
      refine p_callV (As := [va_rf _]) X ml_X3_93 (dcg dc_X3_companionOf 27 rfl) rfl rfl hk23 (wX9_shared hG hz24) (by decide) (room4 (Nat.le_of_ble_eq_true rfl)) (Nat.le_refl _) (Nat.le_refl _) ?_
      rintro _ u9 ⟨rfl, e9⟩; have e9 := e9.symm; subst e9
      refine p_istore X (dcg dc_X3_companionOf 28 rfl) (by decide) rfl ?_
      refine p_aload X (dcg dc_X3_companionOf 29 rfl) rfl ?_
      refine p_aload_n X (dcg dc_X3_companionOf 30 rfl) rfl rfl ?_
      obtain ⟨hg25, hf⟩ := gd_some hf
      refine p_acmp_eq (rx := some _) (ry := some _) (tgt := 81) X hg25 (dcg dc_X3_companionOf 31 rfl) (by decide) (fun q => ?_) (fun q => ?_)
      · have hf := if_t q hf
        refine p_pick [0, 2, 3, 4, 5] ?_
        exact wX3_companionOf_b81 X hG hnm hf k0 kf
      · have hf := if_f q hf
        refine p_iload X (dcg dc_X3_companionOf 32 rfl) rfl ?_
        refine p_iload X (dcg dc_X3_companionOf 33 rfl) rfl ?_
        refine p_icmp_le (tgt := 81) X (dcg dc_X3_companionOf 34 rfl) (by decide) (fun q => ?_) (fun q => ?_)
        · have hf := if_t q hf
          refine p_pick [0, 2, 3, 4, 5] ?_
          exact wX3_companionOf_b81 X hG hnm hf k0 kf
        · have hf := if_f q hf
          refine p_aload X (dcg dc_X3_companionOf 35 rfl) rfl ?_
          refine p_getIn X fl_X3_32 rfl (by decide) (dcg dc_X3_companionOf 36 rfl) hk19 ?_
          refine p_istore_n X (dcg dc_X3_companionOf 37 rfl) rfl (by decide) rfl ?_
          refine p_iload X (dcg dc_X3_companionOf 38 rfl) rfl ?_
          refine p_istore X (dcg dc_X3_companionOf 39 rfl) (by decide) rfl ?_
          refine p_pick [0, 2, 3, 4, 5] ?_
          exact wX3_companionOf_b81 X hG hnm hf k0 kf
noncomputable def fX3_companionOf_l14 (v0 : Nat) (v2 : Option Nat) (v3 : Int32) (v4 : Int32) (v5 : Int32) (h : PH) : Option Int32 := wh (fun z : (Int32 × Int32 × Int32) => fX3_companionOf_c14 v0 v2 (z.1) (z.2.1) (z.2.2) h) (v3, v4, v5)
set_option maxRecDepth 100000 in
theorem wX3_companionOf_l14 {E : PE} {p : Program} {l : Launch} {e : Env} {s : State} {m : MethodId} {args : Array Value} {below : List Frame} {meth : Method} {c : Code} (X : Cx E p l e (rmv 5 0 0) s m args below meth c RX3 cX3_companionOf 8 (some .int)) (hG : Gs E l) (hnm : meth.name = yX3_companionOf.name) {v0 : Nat} {v2 : Option Nat} {v3 : Int32} {v4 : Int32} {v5 : Int32} {h : PH} {r : Int32} (hf : fX3_companionOf_l14 v0 v2 v3 v4 v5 h = some r)  : PW E p l e (rmv 5 0 0) s m args below meth c 8 0 0 (MQ below (QG E (fun v u => v = some (.int r) ∧ u = h)) args s 0 0 (pA E)) h 14 [(0, some (.ref v0)), (2, some (va_rf v2)), (3, some (.int v3)), (4, some (.int v4)), (5, some (.int v5))] [] := by
  unfold fX3_companionOf_l14 at hf
  refine wh_ind (P := fun z => PW E p l e (rmv 5 0 0) s m args below meth c 8 0 0 (MQ below (QG E (fun v u => v = some (.int r) ∧ u = h)) args s 0 0 (pA E)) h 14 [(0, some (.ref v0)), (2, some (va_rf v2)), (3, some (.int (z.1))), (4, some (.int (z.2.1))), (5, some (.int (z.2.2)))] []) (fun z x0 hs i1 i2 => ?_) _ hf
  exact wX3_companionOf_c14 (r := r) (v0 := v0) (v2 := v2) (v3 := z.1) (v4 := z.2.1) (v5 := z.2.2) (h := h) X hG hnm hs i1  i2
noncomputable def fX3_companionOf (v0 : Nat) (v1 : Int32) (h : PH) : Option Int32 :=
  gd (hK h v0 = 3) (bd (fX3_find v0 v1 h) (fun z2 =>
  fX3_companionOf_l14 v0 z2 (-1 : Int32) (0 : Int32) (0 : Int32) h))
set_option maxRecDepth 100000 in
theorem wX3_companionOf {E : PE} {l : Launch} (hG : Gs E l) {v0 : Nat} {v1 : Int32} {h : PH} {r : Int32} (hf : fX3_companionOf v0 v1 h = some r) : Ct E l 5 0 0 yX3_companionOf cX3_companionOf 8 (some .int) [.ref v0, .int v1] h (fun v u => v = some (.int r) ∧ u = h) := by
  refine ct_of hG (by decide) (Nat.le_of_ble_eq_true rfl) ?_
  intro p e s m args below meth c X hnm
  show PW E p l e _ s m args below meth c _ 0 0 _ h 0 [(0, some (.ref v0)), (1, some (.int v1))] []
  unfold fX3_companionOf at hf
  refine p_aload_n X (dcg dc_X3_companionOf 0 rfl) rfl rfl ?_
  refine p_iload_n X (dcg dc_X3_companionOf 1 rfl) rfl rfl ?_
  obtain ⟨hk1, hf⟩ := gd_some hf
  obtain ⟨z2, hz2, hf⟩ := bd_some hf
  refine p_callV (As := [_]) X ml_X3_89 (dcg dc_X3_companionOf 2 rfl) rfl rfl hk1 (wX3_find hG hz2) (by decide) (room4 (Nat.le_of_ble_eq_true rfl)) (Nat.le_refl _) (Nat.le_refl _) ?_
  rintro _ u9 ⟨rfl, e9⟩; have e9 := e9.symm; subst e9
  refine p_astoreq_n X (dcg dc_X3_companionOf 3 rfl) rfl (by decide) rfl ?_
  refine p_iconst (v := -1) X (dcg dc_X3_companionOf 4 rfl) (by decide) ?_
  refine p_istore_n X (dcg dc_X3_companionOf 5 rfl) rfl (by decide) (nwq (k := 2) rfl) ?_
  refine p_iconst (v := 0) X (dcg dc_X3_companionOf 6 rfl) (by decide) ?_
  refine p_istore X (dcg dc_X3_companionOf 7 rfl) (by decide) rfl ?_
  refine p_iconst (v := 0) X (dcg dc_X3_companionOf 8 rfl) (by decide) ?_
  refine p_istore X (dcg dc_X3_companionOf 9 rfl) (by decide) rfl ?_
  refine p_pick [0, 2, 3, 4, 5] ?_
  exact wX3_companionOf_l14 X hG hnm hf 
theorem dc_X10_isOneChanged : decs cX10_isOneChanged [(0, .iconst 0, 1), (1, .istore_n 3, 1), (2, .iload_n 3, 1), (3, .iload_n 2, 1), (4, .if_icmp .ge 88, 3), (7, .iload_n 3, 1), (8, .bipush 6, 2), (10, .if_icmp .ge 82, 3), (13, .iload_n 0, 1), (14, .getstatic 23, 3), (17, .iload_n 3, 1), (18, .iconst 1, 1), (19, .iadd, 1), (20, .iaload, 1), (21, .idiv, 1), (22, .iload_n 1, 1), (23, .getstatic 23, 3), (26, .iload_n 3, 1), (27, .iconst 1, 1), (28, .iadd, 1), (29, .iaload, 1), (30, .idiv, 1), (31, .if_icmp .ne 7, 3), (34, .iconst 1, 1), (35, .goto 4, 3), (38, .iconst 0, 1), (39, .istore 4, 2), (41, .iload_n 0, 1), (42, .getstatic 23, 3), (45, .iload_n 3, 1), (46, .iaload, 1), (47, .irem, 1), (48, .iload_n 1, 1), (49, .getstatic 23, 3), (52, .iload_n 3, 1), (53, .iaload, 1), (54, .irem, 1), (55, .if_icmp .ne 7, 3), (58, .iconst 1, 1), (59, .goto 4, 3), (62, .iconst 0, 1), (63, .istore 5, 2), (65, .iload 4, 2), (67, .ifCond .eq 19, 3), (70, .iload 5, 2), (72, .ifCond .eq 14, 3), (75, .iload_n 0, 1), (76, .iload_n 1, 1), (77, .if_icmp .eq 7, 3), (80, .iconst 1, 1), (81, .goto 4, 3), (84, .iconst 0, 1), (85, .ireturn, 1), (86, .iinc 3 1, 3), (89, .goto (-87), 3), (92, .iconst 0, 1), (93, .ireturn, 1)] = true := by decide +kernel
noncomputable def fX10_isOneChanged_b92  : Option Int32 :=
  some ((0 : Int32))
set_option maxRecDepth 100000 in
theorem wX10_isOneChanged_b92 {E : PE} {p : Program} {l : Launch} {e : Env} {s : State} {m : MethodId} {args : Array Value} {below : List Frame} {meth : Method} {c : Code} (X : Cx E p l e (rmv 0 0 0) s m args below meth c RX10 cX10_isOneChanged 6 (some .boolean)) (hG : Gs E l) (hnm : meth.name = yX10_isOneChanged.name)  {h : PH} {r : Int32} (hf : fX10_isOneChanged_b92  = some r)  : PW E p l e (rmv 0 0 0) s m args below meth c 6 0 0 (MQ below (QG E (fun v u => v = some (.int r) ∧ u = h)) args s 0 0 (pA E)) h 92 [] [] := by
  unfold fX10_isOneChanged_b92 at hf
  refine p_iconst (v := 0) X (dcg dc_X10_isOneChanged 55 rfl) (by decide) ?_
  have er := Option.some.inj hf
  subst er
  exact p_zret X rfl rfl (dcg dc_X10_isOneChanged 56 rfl) ⟨rfl, rfl⟩ (Nat.le_refl _) (Nat.le_refl _)
noncomputable def fX10_isOneChanged_b86 (v0 : Int32) (v1 : Int32) (v2 : Int32) (v3 : Int32) : Option ((Int32) ⊕ Int32) :=
  some (.inl ((v3 + 1)))
set_option maxRecDepth 100000 in
theorem wX10_isOneChanged_b86 {E : PE} {p : Program} {l : Launch} {e : Env} {s : State} {m : MethodId} {args : Array Value} {below : List Frame} {meth : Method} {c : Code} (X : Cx E p l e (rmv 0 0 0) s m args below meth c RX10 cX10_isOneChanged 6 (some .boolean)) (hG : Gs E l) (hnm : meth.name = yX10_isOneChanged.name) {v0 : Int32} {v1 : Int32} {v2 : Int32} {v3 : Int32} {h : PH} {r : Int32} {x : ((Int32) ⊕ Int32)} (hf : fX10_isOneChanged_b86 v0 v1 v2 v3 = some x) (k0 : ∀ z : (Int32), x = .inl z → PW E p l e (rmv 0 0 0) s m args below meth c 6 0 0 (MQ below (QG E (fun v u => v = some (.int r) ∧ u = h)) args s 0 0 (pA E)) h 2 [(0, some (.int v0)), (1, some (.int v1)), (2, some (.int v2)), (3, some (.int (z)))] []) (kf : ∀ z : Int32, x = .inr z → z = r) : PW E p l e (rmv 0 0 0) s m args below meth c 6 0 0 (MQ below (QG E (fun v u => v = some (.int r) ∧ u = h)) args s 0 0 (pA E)) h 86 [(0, some (.int v0)), (1, some (.int v1)), (2, some (.int v2)), (3, some (.int v3))] [] := by
  unfold fX10_isOneChanged_b86 at hf
  refine p_iinc (v := 1) X (dcg dc_X10_isOneChanged 53 rfl) rfl (by decide) (by decide) rfl ?_
  refine p_goto (tgt := 2) X (dcg dc_X10_isOneChanged 54 rfl) (by decide) ?_
  refine p_pick [0, 1, 2, 3] ?_
  exact k0 _ (Option.some.inj hf).symm
noncomputable def fX10_isOneChanged_b85 (t0 : Int32) : Option Int32 :=
  gd (t0 &&& 1 = t0) (some (t0))
set_option maxRecDepth 100000 in
theorem wX10_isOneChanged_b85 {E : PE} {p : Program} {l : Launch} {e : Env} {s : State} {m : MethodId} {args : Array Value} {below : List Frame} {meth : Method} {c : Code} (X : Cx E p l e (rmv 0 0 0) s m args below meth c RX10 cX10_isOneChanged 6 (some .boolean)) (hG : Gs E l) (hnm : meth.name = yX10_isOneChanged.name) {t0 : Int32} {h : PH} {r : Int32} (hf : fX10_isOneChanged_b85 t0 = some r)  : PW E p l e (rmv 0 0 0) s m args below meth c 6 0 0 (MQ below (QG E (fun v u => v = some (.int r) ∧ u = h)) args s 0 0 (pA E)) h 85 [] [.int t0] := by
  unfold fX10_isOneChanged_b85 at hf
  obtain ⟨hg15, hf⟩ := gd_some hf
  have er := Option.some.inj hf
  subst er
  exact p_zret X rfl (congrArg Value.int hg15) (dcg dc_X10_isOneChanged 52 rfl) ⟨rfl, rfl⟩ (Nat.le_refl _) (Nat.le_refl _)
noncomputable def fX10_isOneChanged_b63 (v0 : Int32) (v1 : Int32) (v2 : Int32) (v3 : Int32) (v4 : Int32) (t0 : Int32) : Option ((Int32) ⊕ Int32) :=
  if (v4 = 0) then (fX10_isOneChanged_b86 v0 v1 v2 v3) else
  if (t0 = 0) then (fX10_isOneChanged_b86 v0 v1 v2 v3) else
  mr (if (v0 = v1) then (fX10_isOneChanged_b85 (0 : Int32)) else
  fX10_isOneChanged_b85 (1 : Int32))
set_option maxRecDepth 100000 in
theorem wX10_isOneChanged_b63 {E : PE} {p : Program} {l : Launch} {e : Env} {s : State} {m : MethodId} {args : Array Value} {below : List Frame} {meth : Method} {c : Code} (X : Cx E p l e (rmv 0 0 0) s m args below meth c RX10 cX10_isOneChanged 6 (some .boolean)) (hG : Gs E l) (hnm : meth.name = yX10_isOneChanged.name) {v0 : Int32} {v1 : Int32} {v2 : Int32} {v3 : Int32} {v4 : Int32} {t0 : Int32} {h : PH} {r : Int32} {x : ((Int32) ⊕ Int32)} (hf : fX10_isOneChanged_b63 v0 v1 v2 v3 v4 t0 = some x) (k0 : ∀ z : (Int32), x = .inl z → PW E p l e (rmv 0 0 0) s m args below meth c 6 0 0 (MQ below (QG E (fun v u => v = some (.int r) ∧ u = h)) args s 0 0 (pA E)) h 2 [(0, some (.int v0)), (1, some (.int v1)), (2, some (.int v2)), (3, some (.int (z)))] []) (kf : ∀ z : Int32, x = .inr z → z = r) : PW E p l e (rmv 0 0 0) s m args below meth c 6 0 0 (MQ below (QG E (fun v u => v = some (.int r) ∧ u = h)) args s 0 0 (pA E)) h 63 [(0, some (.int v0)), (1, some (.int v1)), (2, some (.int v2)), (3, some (.int v3)), (4, some (.int v4))] [.int t0] := by
  unfold fX10_isOneChanged_b63 at hf
  refine p_istore X (dcg dc_X10_isOneChanged 41 rfl) (by decide) rfl ?_
  refine p_iload X (dcg dc_X10_isOneChanged 42 rfl) rfl ?_
  refine p_if_eq (tgt := 86) X (dcg dc_X10_isOneChanged 43 rfl) (by decide) (fun q => ?_) (fun q => ?_)
  · have hf := if_t q hf
    refine p_pick [0, 1, 2, 3] ?_
    exact wX10_isOneChanged_b86 X hG hnm hf k0 kf
  · have hf := if_f q hf
    refine p_iload X (dcg dc_X10_isOneChanged 44 rfl) rfl ?_
    refine p_if_eq (tgt := 86) X (dcg dc_X10_isOneChanged 45 rfl) (by decide) (fun q => ?_) (fun q => ?_)
    · have hf := if_t q hf
      refine p_pick [0, 1, 2, 3] ?_
      exact wX10_isOneChanged_b86 X hG hnm hf k0 kf
    · have hf := if_f q hf
      obtain ⟨y13, hf, hy14⟩ := mr_some hf
      have hy14f := kf y13 hy14
      subst hy14f
      refine p_iload_n X (dcg dc_X10_isOneChanged 46 rfl) rfl rfl ?_
      refine p_iload_n X (dcg dc_X10_isOneChanged 47 rfl) rfl rfl ?_
      refine p_icmp_eq (tgt := 84) X (dcg dc_X10_isOneChanged 48 rfl) (by decide) (fun q => ?_) (fun q => ?_)
      · have hf := if_t q hf
        refine p_iconst (v := 0) X (dcg dc_X10_isOneChanged 51 rfl) (by decide) ?_
        refine p_pick [] ?_
        exact wX10_isOneChanged_b85 X hG hnm hf 
      · have hf := if_f q hf
        refine p_iconst (v := 1) X (dcg dc_X10_isOneChanged 49 rfl) (by decide) ?_
        refine p_goto (tgt := 85) X (dcg dc_X10_isOneChanged 50 rfl) (by decide) ?_
        refine p_pick [] ?_
        exact wX10_isOneChanged_b85 X hG hnm hf 
noncomputable def fX10_isOneChanged_b39 (v0 : Int32) (v1 : Int32) (v2 : Int32) (v3 : Int32) (t0 : Int32) : Option ((Int32) ⊕ Int32) :=
  gd (inb v3 7) (gd (¬ (pwv (Int32.toNatClampNeg v3)) = 0) (gd (inb v3 7) (gd (¬ (pwv (Int32.toNatClampNeg v3)) = 0) (if (¬ (v0 - v0 / (pwv (Int32.toNatClampNeg v3)) * (pwv (Int32.toNatClampNeg v3))) = (v1 - v1 / (pwv (Int32.toNatClampNeg v3)) * (pwv (Int32.toNatClampNeg v3)))) then (fX10_isOneChanged_b63 v0 v1 v2 v3 t0 (0 : Int32)) else
  fX10_isOneChanged_b63 v0 v1 v2 v3 t0 (1 : Int32)))))
set_option maxRecDepth 100000 in
theorem wX10_isOneChanged_b39 {E : PE} {p : Program} {l : Launch} {e : Env} {s : State} {m : MethodId} {args : Array Value} {below : List Frame} {meth : Method} {c : Code} (X : Cx E p l e (rmv 0 0 0) s m args below meth c RX10 cX10_isOneChanged 6 (some .boolean)) (hG : Gs E l) (hnm : meth.name = yX10_isOneChanged.name) {v0 : Int32} {v1 : Int32} {v2 : Int32} {v3 : Int32} {t0 : Int32} {h : PH} {r : Int32} {x : ((Int32) ⊕ Int32)} (hf : fX10_isOneChanged_b39 v0 v1 v2 v3 t0 = some x) (k0 : ∀ z : (Int32), x = .inl z → PW E p l e (rmv 0 0 0) s m args below meth c 6 0 0 (MQ below (QG E (fun v u => v = some (.int r) ∧ u = h)) args s 0 0 (pA E)) h 2 [(0, some (.int v0)), (1, some (.int v1)), (2, some (.int v2)), (3, some (.int (z)))] []) (kf : ∀ z : Int32, x = .inr z → z = r) : PW E p l e (rmv 0 0 0) s m args below meth c 6 0 0 (MQ below (QG E (fun v u => v = some (.int r) ∧ u = h)) args s 0 0 (pA E)) h 39 [(0, some (.int v0)), (1, some (.int v1)), (2, some (.int v2)), (3, some (.int v3))] [.int t0] := by
  unfold fX10_isOneChanged_b39 at hf
  refine p_istore X (dcg dc_X10_isOneChanged 26 rfl) (by decide) rfl ?_
  refine p_iload_n X (dcg dc_X10_isOneChanged 27 rfl) rfl rfl ?_
  refine p_gets (v := .ref 1) X (gz_pow hG) tw_478 (dcg dc_X10_isOneChanged 28 rfl) ?_
  refine p_iload_n X (dcg dc_X10_isOneChanged 29 rfl) rfl rfl ?_
  obtain ⟨hg9, hf⟩ := gd_some hf
  refine p_powers X (dcg dc_X10_isOneChanged 30 rfl) (vp_of_inb hg9) ?_
  obtain ⟨hg10, hf⟩ := gd_some hf
  refine p_irem X (dcg dc_X10_isOneChanged 31 rfl) hg10 ?_
  refine p_iload_n X (dcg dc_X10_isOneChanged 32 rfl) rfl rfl ?_
  refine p_gets (v := .ref 1) X (gz_pow hG) tw_478 (dcg dc_X10_isOneChanged 33 rfl) ?_
  refine p_iload_n X (dcg dc_X10_isOneChanged 34 rfl) rfl rfl ?_
  obtain ⟨hg11, hf⟩ := gd_some hf
  refine p_powers X (dcg dc_X10_isOneChanged 35 rfl) (vp_of_inb hg11) ?_
  obtain ⟨hg12, hf⟩ := gd_some hf
  refine p_irem X (dcg dc_X10_isOneChanged 36 rfl) hg12 ?_
  refine p_icmp_ne (tgt := 62) X (dcg dc_X10_isOneChanged 37 rfl) (by decide) (fun q => ?_) (fun q => ?_)
  · have hf := if_t q hf
    refine p_iconst (v := 0) X (dcg dc_X10_isOneChanged 40 rfl) (by decide) ?_
    refine p_pick [0, 1, 2, 3, 4] ?_
    exact wX10_isOneChanged_b63 X hG hnm hf k0 kf
  · have hf := if_f q hf
    refine p_iconst (v := 1) X (dcg dc_X10_isOneChanged 38 rfl) (by decide) ?_
    refine p_goto (tgt := 63) X (dcg dc_X10_isOneChanged 39 rfl) (by decide) ?_
    refine p_pick [0, 1, 2, 3, 4] ?_
    exact wX10_isOneChanged_b63 X hG hnm hf k0 kf
noncomputable def fX10_isOneChanged_c2 (v0 : Int32) (v1 : Int32) (v2 : Int32) (v3 : Int32) : Option ((Int32) ⊕ Int32) :=
  if (v2 ≤ v3) then (mr (fX10_isOneChanged_b92 )) else
  if ((6 : Int32) ≤ v3) then (mr (fX10_isOneChanged_b92 )) else
  gd (inb (v3 + (1 : Int32)) 7) (gd (¬ (pwv (Int32.toNatClampNeg (v3 + (1 : Int32)))) = 0) (gd (inb (v3 + (1 : Int32)) 7) (gd (¬ (pwv (Int32.toNatClampNeg (v3 + (1 : Int32)))) = 0) (if (¬ (v0 / (pwv (Int32.toNatClampNeg (v3 + (1 : Int32))))) = (v1 / (pwv (Int32.toNatClampNeg (v3 + (1 : Int32)))))) then (fX10_isOneChanged_b39 v0 v1 v2 v3 (0 : Int32)) else
  fX10_isOneChanged_b39 v0 v1 v2 v3 (1 : Int32)))))
set_option maxRecDepth 100000 in
theorem wX10_isOneChanged_c2 {E : PE} {p : Program} {l : Launch} {e : Env} {s : State} {m : MethodId} {args : Array Value} {below : List Frame} {meth : Method} {c : Code} (X : Cx E p l e (rmv 0 0 0) s m args below meth c RX10 cX10_isOneChanged 6 (some .boolean)) (hG : Gs E l) (hnm : meth.name = yX10_isOneChanged.name) {v0 : Int32} {v1 : Int32} {v2 : Int32} {v3 : Int32} {h : PH} {r : Int32} {x : ((Int32) ⊕ Int32)} (hf : fX10_isOneChanged_c2 v0 v1 v2 v3 = some x) (k0 : ∀ z : (Int32), x = .inl z → PW E p l e (rmv 0 0 0) s m args below meth c 6 0 0 (MQ below (QG E (fun v u => v = some (.int r) ∧ u = h)) args s 0 0 (pA E)) h 2 [(0, some (.int v0)), (1, some (.int v1)), (2, some (.int v2)), (3, some (.int (z)))] []) (kf : ∀ z : Int32, x = .inr z → z = r) : PW E p l e (rmv 0 0 0) s m args below meth c 6 0 0 (MQ below (QG E (fun v u => v = some (.int r) ∧ u = h)) args s 0 0 (pA E)) h 2 [(0, some (.int v0)), (1, some (.int v1)), (2, some (.int v2)), (3, some (.int v3))] [] := by
  unfold fX10_isOneChanged_c2 at hf
  refine p_iload_n X (dcg dc_X10_isOneChanged 2 rfl) rfl rfl ?_
  refine p_iload_n X (dcg dc_X10_isOneChanged 3 rfl) rfl rfl ?_
  refine p_icmp_ge (tgt := 92) X (dcg dc_X10_isOneChanged 4 rfl) (by decide) (fun q => ?_) (fun q => ?_)
  · have hf := if_t q hf
    obtain ⟨y1, hf, hy2⟩ := mr_some hf
    have hy2f := kf y1 hy2
    subst hy2f
    refine p_pick [] ?_
    exact wX10_isOneChanged_b92 X hG hnm hf 
  · have hf := if_f q hf
    refine p_iload_n X (dcg dc_X10_isOneChanged 5 rfl) rfl rfl ?_
    refine p_bipush (v := 6) X (dcg dc_X10_isOneChanged 6 rfl) (by decide) ?_
    refine p_icmp_ge (tgt := 92) X (dcg dc_X10_isOneChanged 7 rfl) (by decide) (fun q => ?_) (fun q => ?_)
    · have hf := if_t q hf
      obtain ⟨y3, hf, hy4⟩ := mr_some hf
      have hy4f := kf y3 hy4
      subst hy4f
      refine p_pick [] ?_
      exact wX10_isOneChanged_b92 X hG hnm hf 
    · have hf := if_f q hf
      refine p_iload_n X (dcg dc_X10_isOneChanged 8 rfl) rfl rfl ?_
      refine p_gets (v := .ref 1) X (gz_pow hG) tw_478 (dcg dc_X10_isOneChanged 9 rfl) ?_
      refine p_iload_n X (dcg dc_X10_isOneChanged 10 rfl) rfl rfl ?_
      refine p_iconst (v := 1) X (dcg dc_X10_isOneChanged 11 rfl) (by decide) ?_
      refine p_iadd X (dcg dc_X10_isOneChanged 12 rfl) ?_
      obtain ⟨hg5, hf⟩ := gd_some hf
      refine p_powers X (dcg dc_X10_isOneChanged 13 rfl) (vp_of_inb hg5) ?_
      obtain ⟨hg6, hf⟩ := gd_some hf
      refine p_idiv X (dcg dc_X10_isOneChanged 14 rfl) hg6 ?_
      refine p_iload_n X (dcg dc_X10_isOneChanged 15 rfl) rfl rfl ?_
      refine p_gets (v := .ref 1) X (gz_pow hG) tw_478 (dcg dc_X10_isOneChanged 16 rfl) ?_
      refine p_iload_n X (dcg dc_X10_isOneChanged 17 rfl) rfl rfl ?_
      refine p_iconst (v := 1) X (dcg dc_X10_isOneChanged 18 rfl) (by decide) ?_
      refine p_iadd X (dcg dc_X10_isOneChanged 19 rfl) ?_
      obtain ⟨hg7, hf⟩ := gd_some hf
      refine p_powers X (dcg dc_X10_isOneChanged 20 rfl) (vp_of_inb hg7) ?_
      obtain ⟨hg8, hf⟩ := gd_some hf
      refine p_idiv X (dcg dc_X10_isOneChanged 21 rfl) hg8 ?_
      refine p_icmp_ne (tgt := 38) X (dcg dc_X10_isOneChanged 22 rfl) (by decide) (fun q => ?_) (fun q => ?_)
      · have hf := if_t q hf
        refine p_iconst (v := 0) X (dcg dc_X10_isOneChanged 25 rfl) (by decide) ?_
        refine p_pick [0, 1, 2, 3] ?_
        exact wX10_isOneChanged_b39 X hG hnm hf k0 kf
      · have hf := if_f q hf
        refine p_iconst (v := 1) X (dcg dc_X10_isOneChanged 23 rfl) (by decide) ?_
        refine p_goto (tgt := 39) X (dcg dc_X10_isOneChanged 24 rfl) (by decide) ?_
        refine p_pick [0, 1, 2, 3] ?_
        exact wX10_isOneChanged_b39 X hG hnm hf k0 kf
noncomputable def fX10_isOneChanged_l2 (v0 : Int32) (v1 : Int32) (v2 : Int32) (v3 : Int32) : Option Int32 := wh (fun z : (Int32) => fX10_isOneChanged_c2 v0 v1 v2 (z)) (v3)
set_option maxRecDepth 100000 in
theorem wX10_isOneChanged_l2 {E : PE} {p : Program} {l : Launch} {e : Env} {s : State} {m : MethodId} {args : Array Value} {below : List Frame} {meth : Method} {c : Code} (X : Cx E p l e (rmv 0 0 0) s m args below meth c RX10 cX10_isOneChanged 6 (some .boolean)) (hG : Gs E l) (hnm : meth.name = yX10_isOneChanged.name) {v0 : Int32} {v1 : Int32} {v2 : Int32} {v3 : Int32} {h : PH} {r : Int32} (hf : fX10_isOneChanged_l2 v0 v1 v2 v3 = some r)  : PW E p l e (rmv 0 0 0) s m args below meth c 6 0 0 (MQ below (QG E (fun v u => v = some (.int r) ∧ u = h)) args s 0 0 (pA E)) h 2 [(0, some (.int v0)), (1, some (.int v1)), (2, some (.int v2)), (3, some (.int v3))] [] := by
  unfold fX10_isOneChanged_l2 at hf
  refine wh_ind (P := fun z => PW E p l e (rmv 0 0 0) s m args below meth c 6 0 0 (MQ below (QG E (fun v u => v = some (.int r) ∧ u = h)) args s 0 0 (pA E)) h 2 [(0, some (.int v0)), (1, some (.int v1)), (2, some (.int v2)), (3, some (.int (z)))] []) (fun z x0 hs i1 i2 => ?_) _ hf
  exact wX10_isOneChanged_c2 (r := r) (v0 := v0) (v1 := v1) (v2 := v2) (v3 := z) (h := h) X hG hnm hs i1  i2
noncomputable def fX10_isOneChanged (v0 : Int32) (v1 : Int32) (v2 : Int32) : Option Int32 :=
  fX10_isOneChanged_l2 v0 v1 v2 (0 : Int32)
set_option maxRecDepth 100000 in
theorem wX10_isOneChanged {E : PE} {l : Launch} (hG : Gs E l) {v0 : Int32} {v1 : Int32} {v2 : Int32} {h : PH} {r : Int32} (hf : fX10_isOneChanged v0 v1 v2 = some r) : Ct E l 0 0 0 yX10_isOneChanged cX10_isOneChanged 6 (some .boolean) [.int v0, .int v1, .int v2] h (fun v u => v = some (.int r) ∧ u = h) := by
  refine ct_of hG (by decide) (Nat.le_of_ble_eq_true rfl) ?_
  intro p e s m args below meth c X hnm
  show PW E p l e _ s m args below meth c _ 0 0 _ h 0 [(0, some (.int v0)), (1, some (.int v1)), (2, some (.int v2))] []
  unfold fX10_isOneChanged at hf
  refine p_iconst (v := 0) X (dcg dc_X10_isOneChanged 0 rfl) (by decide) ?_
  refine p_istore_n X (dcg dc_X10_isOneChanged 1 rfl) rfl (by decide) rfl ?_
  refine p_pick [0, 1, 2, 3] ?_
  exact wX10_isOneChanged_l2 X hG hnm hf 
theorem dc_X10_isOneLeftOut : decs cX10_isOneLeftOut [(0, .iconst 0, 1), (1, .istore_n 3, 1), (2, .iload_n 3, 1), (3, .iload_n 2, 1), (4, .if_icmp .ge 44, 3), (7, .iload_n 3, 1), (8, .bipush 6, 2), (10, .if_icmp .ge 38, 3), (13, .iload_n 0, 1), (14, .getstatic 23, 3), (17, .iload_n 3, 1), (18, .iconst 1, 1), (19, .iadd, 1), (20, .iaload, 1), (21, .idiv, 1), (22, .getstatic 23, 3), (25, .iload_n 3, 1), (26, .iaload, 1), (27, .imul, 1), (28, .iload_n 0, 1), (29, .getstatic 23, 3), (32, .iload_n 3, 1), (33, .iaload, 1), (34, .irem, 1), (35, .iadd, 1), (36, .iload_n 1, 1), (37, .if_icmp .ne 5, 3), (40, .iconst 1, 1), (41, .ireturn, 1), (42, .iinc 3 1, 3), (45, .goto (-43), 3), (48, .iconst 0, 1), (49, .ireturn, 1)] = true := by decide +kernel
noncomputable def fX10_isOneLeftOut_b48  : Option Int32 :=
  some ((0 : Int32))
set_option maxRecDepth 100000 in
theorem wX10_isOneLeftOut_b48 {E : PE} {p : Program} {l : Launch} {e : Env} {s : State} {m : MethodId} {args : Array Value} {below : List Frame} {meth : Method} {c : Code} (X : Cx E p l e (rmv 0 0 0) s m args below meth c RX10 cX10_isOneLeftOut 4 (some .boolean)) (hG : Gs E l) (hnm : meth.name = yX10_isOneLeftOut.name)  {h : PH} {r : Int32} (hf : fX10_isOneLeftOut_b48  = some r)  : PW E p l e (rmv 0 0 0) s m args below meth c 4 0 0 (MQ below (QG E (fun v u => v = some (.int r) ∧ u = h)) args s 0 0 (pA E)) h 48 [] [] := by
  unfold fX10_isOneLeftOut_b48 at hf
  refine p_iconst (v := 0) X (dcg dc_X10_isOneLeftOut 31 rfl) (by decide) ?_
  have er := Option.some.inj hf
  subst er
  exact p_zret X rfl rfl (dcg dc_X10_isOneLeftOut 32 rfl) ⟨rfl, rfl⟩ (Nat.le_refl _) (Nat.le_refl _)
noncomputable def fX10_isOneLeftOut_c2 (v0 : Int32) (v1 : Int32) (v2 : Int32) (v3 : Int32) : Option ((Int32) ⊕ Int32) :=
  if (v2 ≤ v3) then (mr (fX10_isOneLeftOut_b48 )) else
  if ((6 : Int32) ≤ v3) then (mr (fX10_isOneLeftOut_b48 )) else
  gd (inb (v3 + (1 : Int32)) 7) (gd (¬ (pwv (Int32.toNatClampNeg (v3 + (1 : Int32)))) = 0) (gd (inb v3 7) (gd (inb v3 7) (gd (¬ (pwv (Int32.toNatClampNeg v3)) = 0) (if (¬ (((v0 / (pwv (Int32.toNatClampNeg (v3 + (1 : Int32))))) * (pwv (Int32.toNatClampNeg v3))) + (v0 - v0 / (pwv (Int32.toNatClampNeg v3)) * (pwv (Int32.toNatClampNeg v3)))) = v1) then (some (.inl ((v3 + 1)))) else
  mr (some ((1 : Int32))))))))
set_option maxRecDepth 100000 in
theorem wX10_isOneLeftOut_c2 {E : PE} {p : Program} {l : Launch} {e : Env} {s : State} {m : MethodId} {args : Array Value} {below : List Frame} {meth : Method} {c : Code} (X : Cx E p l e (rmv 0 0 0) s m args below meth c RX10 cX10_isOneLeftOut 4 (some .boolean)) (hG : Gs E l) (hnm : meth.name = yX10_isOneLeftOut.name) {v0 : Int32} {v1 : Int32} {v2 : Int32} {v3 : Int32} {h : PH} {r : Int32} {x : ((Int32) ⊕ Int32)} (hf : fX10_isOneLeftOut_c2 v0 v1 v2 v3 = some x) (k0 : ∀ z : (Int32), x = .inl z → PW E p l e (rmv 0 0 0) s m args below meth c 4 0 0 (MQ below (QG E (fun v u => v = some (.int r) ∧ u = h)) args s 0 0 (pA E)) h 2 [(0, some (.int v0)), (1, some (.int v1)), (2, some (.int v2)), (3, some (.int (z)))] []) (kf : ∀ z : Int32, x = .inr z → z = r) : PW E p l e (rmv 0 0 0) s m args below meth c 4 0 0 (MQ below (QG E (fun v u => v = some (.int r) ∧ u = h)) args s 0 0 (pA E)) h 2 [(0, some (.int v0)), (1, some (.int v1)), (2, some (.int v2)), (3, some (.int v3))] [] := by
  unfold fX10_isOneLeftOut_c2 at hf
  refine p_iload_n X (dcg dc_X10_isOneLeftOut 2 rfl) rfl rfl ?_
  refine p_iload_n X (dcg dc_X10_isOneLeftOut 3 rfl) rfl rfl ?_
  refine p_icmp_ge (tgt := 48) X (dcg dc_X10_isOneLeftOut 4 rfl) (by decide) (fun q => ?_) (fun q => ?_)
  · have hf := if_t q hf
    obtain ⟨y1, hf, hy2⟩ := mr_some hf
    have hy2f := kf y1 hy2
    subst hy2f
    refine p_pick [] ?_
    exact wX10_isOneLeftOut_b48 X hG hnm hf 
  · have hf := if_f q hf
    refine p_iload_n X (dcg dc_X10_isOneLeftOut 5 rfl) rfl rfl ?_
    refine p_bipush (v := 6) X (dcg dc_X10_isOneLeftOut 6 rfl) (by decide) ?_
    refine p_icmp_ge (tgt := 48) X (dcg dc_X10_isOneLeftOut 7 rfl) (by decide) (fun q => ?_) (fun q => ?_)
    · have hf := if_t q hf
      obtain ⟨y3, hf, hy4⟩ := mr_some hf
      have hy4f := kf y3 hy4
      subst hy4f
      refine p_pick [] ?_
      exact wX10_isOneLeftOut_b48 X hG hnm hf 
    · have hf := if_f q hf
      refine p_iload_n X (dcg dc_X10_isOneLeftOut 8 rfl) rfl rfl ?_
      refine p_gets (v := .ref 1) X (gz_pow hG) tw_478 (dcg dc_X10_isOneLeftOut 9 rfl) ?_
      refine p_iload_n X (dcg dc_X10_isOneLeftOut 10 rfl) rfl rfl ?_
      refine p_iconst (v := 1) X (dcg dc_X10_isOneLeftOut 11 rfl) (by decide) ?_
      refine p_iadd X (dcg dc_X10_isOneLeftOut 12 rfl) ?_
      obtain ⟨hg5, hf⟩ := gd_some hf
      refine p_powers X (dcg dc_X10_isOneLeftOut 13 rfl) (vp_of_inb hg5) ?_
      obtain ⟨hg6, hf⟩ := gd_some hf
      refine p_idiv X (dcg dc_X10_isOneLeftOut 14 rfl) hg6 ?_
      refine p_gets (v := .ref 1) X (gz_pow hG) tw_478 (dcg dc_X10_isOneLeftOut 15 rfl) ?_
      refine p_iload_n X (dcg dc_X10_isOneLeftOut 16 rfl) rfl rfl ?_
      obtain ⟨hg7, hf⟩ := gd_some hf
      refine p_powers X (dcg dc_X10_isOneLeftOut 17 rfl) (vp_of_inb hg7) ?_
      refine p_imul X (dcg dc_X10_isOneLeftOut 18 rfl) ?_
      refine p_iload_n X (dcg dc_X10_isOneLeftOut 19 rfl) rfl rfl ?_
      refine p_gets (v := .ref 1) X (gz_pow hG) tw_478 (dcg dc_X10_isOneLeftOut 20 rfl) ?_
      refine p_iload_n X (dcg dc_X10_isOneLeftOut 21 rfl) rfl rfl ?_
      obtain ⟨hg8, hf⟩ := gd_some hf
      refine p_powers X (dcg dc_X10_isOneLeftOut 22 rfl) (vp_of_inb hg8) ?_
      obtain ⟨hg9, hf⟩ := gd_some hf
      refine p_irem X (dcg dc_X10_isOneLeftOut 23 rfl) hg9 ?_
      refine p_iadd X (dcg dc_X10_isOneLeftOut 24 rfl) ?_
      refine p_iload_n X (dcg dc_X10_isOneLeftOut 25 rfl) rfl rfl ?_
      refine p_icmp_ne (tgt := 42) X (dcg dc_X10_isOneLeftOut 26 rfl) (by decide) (fun q => ?_) (fun q => ?_)
      · have hf := if_t q hf
        refine p_iinc (v := 1) X (dcg dc_X10_isOneLeftOut 29 rfl) rfl (by decide) (by decide) rfl ?_
        refine p_goto (tgt := 2) X (dcg dc_X10_isOneLeftOut 30 rfl) (by decide) ?_
        refine p_pick [0, 1, 2, 3] ?_
        exact k0 _ (Option.some.inj hf).symm
      · have hf := if_f q hf
        obtain ⟨y10, hf, hy11⟩ := mr_some hf
        have hy11f := kf y10 hy11
        subst hy11f
        refine p_iconst (v := 1) X (dcg dc_X10_isOneLeftOut 27 rfl) (by decide) ?_
        have er := Option.some.inj hf
        subst er
        exact p_zret X rfl rfl (dcg dc_X10_isOneLeftOut 28 rfl) ⟨rfl, rfl⟩ (Nat.le_refl _) (Nat.le_refl _)
noncomputable def fX10_isOneLeftOut_l2 (v0 : Int32) (v1 : Int32) (v2 : Int32) (v3 : Int32) : Option Int32 := wh (fun z : (Int32) => fX10_isOneLeftOut_c2 v0 v1 v2 (z)) (v3)
set_option maxRecDepth 100000 in
theorem wX10_isOneLeftOut_l2 {E : PE} {p : Program} {l : Launch} {e : Env} {s : State} {m : MethodId} {args : Array Value} {below : List Frame} {meth : Method} {c : Code} (X : Cx E p l e (rmv 0 0 0) s m args below meth c RX10 cX10_isOneLeftOut 4 (some .boolean)) (hG : Gs E l) (hnm : meth.name = yX10_isOneLeftOut.name) {v0 : Int32} {v1 : Int32} {v2 : Int32} {v3 : Int32} {h : PH} {r : Int32} (hf : fX10_isOneLeftOut_l2 v0 v1 v2 v3 = some r)  : PW E p l e (rmv 0 0 0) s m args below meth c 4 0 0 (MQ below (QG E (fun v u => v = some (.int r) ∧ u = h)) args s 0 0 (pA E)) h 2 [(0, some (.int v0)), (1, some (.int v1)), (2, some (.int v2)), (3, some (.int v3))] [] := by
  unfold fX10_isOneLeftOut_l2 at hf
  refine wh_ind (P := fun z => PW E p l e (rmv 0 0 0) s m args below meth c 4 0 0 (MQ below (QG E (fun v u => v = some (.int r) ∧ u = h)) args s 0 0 (pA E)) h 2 [(0, some (.int v0)), (1, some (.int v1)), (2, some (.int v2)), (3, some (.int (z)))] []) (fun z x0 hs i1 i2 => ?_) _ hf
  exact wX10_isOneLeftOut_c2 (r := r) (v0 := v0) (v1 := v1) (v2 := v2) (v3 := z) (h := h) X hG hnm hs i1  i2
noncomputable def fX10_isOneLeftOut (v0 : Int32) (v1 : Int32) (v2 : Int32) : Option Int32 :=
  fX10_isOneLeftOut_l2 v0 v1 v2 (0 : Int32)
set_option maxRecDepth 100000 in
theorem wX10_isOneLeftOut {E : PE} {l : Launch} (hG : Gs E l) {v0 : Int32} {v1 : Int32} {v2 : Int32} {h : PH} {r : Int32} (hf : fX10_isOneLeftOut v0 v1 v2 = some r) : Ct E l 0 0 0 yX10_isOneLeftOut cX10_isOneLeftOut 4 (some .boolean) [.int v0, .int v1, .int v2] h (fun v u => v = some (.int r) ∧ u = h) := by
  refine ct_of hG (by decide) (Nat.le_of_ble_eq_true rfl) ?_
  intro p e s m args below meth c X hnm
  show PW E p l e _ s m args below meth c _ 0 0 _ h 0 [(0, some (.int v0)), (1, some (.int v1)), (2, some (.int v2))] []
  unfold fX10_isOneLeftOut at hf
  refine p_iconst (v := 0) X (dcg dc_X10_isOneLeftOut 0 rfl) (by decide) ?_
  refine p_istore_n X (dcg dc_X10_isOneLeftOut 1 rfl) rfl (by decide) rfl ?_
  refine p_pick [0, 1, 2, 3] ?_
  exact wX10_isOneLeftOut_l2 X hG hnm hf 
theorem dc_X10_isNeighbour : decs cX10_isNeighbour [(0, .iload_n 0, 1), (1, .invokestatic 27, 3), (4, .istore_n 2, 1), (5, .iload_n 2, 1), (6, .iload_n 1, 1), (7, .invokestatic 27, 3), (10, .isub, 1), (11, .istore_n 3, 1), (12, .iload_n 3, 1), (13, .ifCond .ne 10, 3), (16, .iload_n 0, 1), (17, .iload_n 1, 1), (18, .iload_n 2, 1), (19, .invokestatic 31, 3), (22, .ireturn, 1), (23, .iload_n 3, 1), (24, .iconst 1, 1), (25, .if_icmp .ne 10, 3), (28, .iload_n 0, 1), (29, .iload_n 1, 1), (30, .iload_n 2, 1), (31, .invokestatic 35, 3), (34, .ireturn, 1), (35, .iload_n 3, 1), (36, .iconst (-1), 1), (37, .if_icmp .ne 18, 3), (40, .iload_n 1, 1), (41, .iload_n 0, 1), (42, .iload_n 2, 1), (43, .iconst 1, 1), (44, .iadd, 1), (45, .invokestatic 35, 3), (48, .ifCond .eq 7, 3), (51, .iconst 1, 1), (52, .goto 4, 3), (55, .iconst 0, 1), (56, .ireturn, 1)] = true := by decide +kernel
noncomputable def fX10_isNeighbour_b56 (t0 : Int32) : Option Int32 :=
  gd (t0 &&& 1 = t0) (some (t0))
set_option maxRecDepth 100000 in
theorem wX10_isNeighbour_b56 {E : PE} {p : Program} {l : Launch} {e : Env} {s : State} {m : MethodId} {args : Array Value} {below : List Frame} {meth : Method} {c : Code} (X : Cx E p l e (rmv 1 0 0) s m args below meth c RX10 cX10_isNeighbour 4 (some .boolean)) (hG : Gs E l) (hnm : meth.name = yX10_isNeighbour.name) {t0 : Int32} {h : PH} {r : Int32} (hf : fX10_isNeighbour_b56 t0 = some r)  : PW E p l e (rmv 1 0 0) s m args below meth c 4 0 0 (MQ below (QG E (fun v u => v = some (.int r) ∧ u = h)) args s 0 0 (pA E)) h 56 [] [.int t0] := by
  unfold fX10_isNeighbour_b56 at hf
  obtain ⟨hg3, hf⟩ := gd_some hf
  have er := Option.some.inj hf
  subst er
  exact p_zret X rfl (congrArg Value.int hg3) (dcg dc_X10_isNeighbour 36 rfl) ⟨rfl, rfl⟩ (Nat.le_refl _) (Nat.le_refl _)
noncomputable def fX10_isNeighbour_b55  : Option Int32 :=
  fX10_isNeighbour_b56 (0 : Int32)
set_option maxRecDepth 100000 in
theorem wX10_isNeighbour_b55 {E : PE} {p : Program} {l : Launch} {e : Env} {s : State} {m : MethodId} {args : Array Value} {below : List Frame} {meth : Method} {c : Code} (X : Cx E p l e (rmv 1 0 0) s m args below meth c RX10 cX10_isNeighbour 4 (some .boolean)) (hG : Gs E l) (hnm : meth.name = yX10_isNeighbour.name)  {h : PH} {r : Int32} (hf : fX10_isNeighbour_b55  = some r)  : PW E p l e (rmv 1 0 0) s m args below meth c 4 0 0 (MQ below (QG E (fun v u => v = some (.int r) ∧ u = h)) args s 0 0 (pA E)) h 55 [] [] := by
  unfold fX10_isNeighbour_b55 at hf
  refine p_iconst (v := 0) X (dcg dc_X10_isNeighbour 35 rfl) (by decide) ?_
  refine p_pick [] ?_
  exact wX10_isNeighbour_b56 X hG hnm hf 
noncomputable def fX10_isNeighbour (v0 : Int32) (v1 : Int32) : Option Int32 :=
  bd (fX10_lettersOf v0) (fun z1 =>
  bd (fX10_lettersOf v1) (fun z2 =>
  if (¬ (z1 - z2) = 0) then (if (¬ (z1 - z2) = (1 : Int32)) then (if (¬ (z1 - z2) = (-1 : Int32)) then (fX10_isNeighbour_b55 ) else
  bd (fX10_isOneLeftOut v1 v0 (z1 + (1 : Int32))) (fun z4 =>
  if (z4 = 0) then (fX10_isNeighbour_b55 ) else
  fX10_isNeighbour_b56 (1 : Int32))) else
  bd (fX10_isOneLeftOut v0 v1 z1) (fun z5 =>
  gd (z5 &&& 1 = z5) (some (z5)))) else
  bd (fX10_isOneChanged v0 v1 z1) (fun z7 =>
  gd (z7 &&& 1 = z7) (some (z7)))))
set_option maxRecDepth 100000 in
theorem wX10_isNeighbour {E : PE} {l : Launch} (hG : Gs E l) {v0 : Int32} {v1 : Int32} {h : PH} {r : Int32} (hf : fX10_isNeighbour v0 v1 = some r) : Ct E l 1 0 0 yX10_isNeighbour cX10_isNeighbour 4 (some .boolean) [.int v0, .int v1] h (fun v u => v = some (.int r) ∧ u = h) := by
  refine ct_of hG (by decide) (Nat.le_of_ble_eq_true rfl) ?_
  intro p e s m args below meth c X hnm
  show PW E p l e _ s m args below meth c _ 0 0 _ h 0 [(0, some (.int v0)), (1, some (.int v1))] []
  unfold fX10_isNeighbour at hf
  refine p_iload_n X (dcg dc_X10_isNeighbour 0 rfl) rfl rfl ?_
  obtain ⟨z1, hz1, hf⟩ := bd_some hf
  refine p_callS (As := [_]) X ml_X10_27 (dcg dc_X10_isNeighbour 1 rfl) rfl rfl  (wX10_lettersOf hG hz1) (by decide) (room4 (Nat.le_of_ble_eq_true rfl)) (Nat.le_refl _) (Nat.le_refl _) ?_
  rintro _ u9 ⟨rfl, e9⟩; have e9 := e9.symm; subst e9
  refine p_istore_n X (dcg dc_X10_isNeighbour 2 rfl) rfl (by decide) rfl ?_
  refine p_iload_n X (dcg dc_X10_isNeighbour 3 rfl) rfl rfl ?_
  refine p_iload_n X (dcg dc_X10_isNeighbour 4 rfl) rfl rfl ?_
  obtain ⟨z2, hz2, hf⟩ := bd_some hf
  refine p_callS (As := [_]) X ml_X10_27 (dcg dc_X10_isNeighbour 5 rfl) rfl rfl  (wX10_lettersOf hG hz2) (by decide) (room4 (Nat.le_of_ble_eq_true rfl)) (Nat.le_refl _) (Nat.le_refl _) ?_
  rintro _ u9 ⟨rfl, e9⟩; have e9 := e9.symm; subst e9
  refine p_isub X (dcg dc_X10_isNeighbour 6 rfl) ?_
  refine p_istore_n X (dcg dc_X10_isNeighbour 7 rfl) rfl (by decide) rfl ?_
  refine p_iload_n X (dcg dc_X10_isNeighbour 8 rfl) rfl rfl ?_
  refine p_if_ne (tgt := 23) X (dcg dc_X10_isNeighbour 9 rfl) (by decide) (fun q => ?_) (fun q => ?_)
  · have hf := if_t q hf
    refine p_iload_n X (dcg dc_X10_isNeighbour 15 rfl) rfl rfl ?_
    refine p_iconst (v := 1) X (dcg dc_X10_isNeighbour 16 rfl) (by decide) ?_
    refine p_icmp_ne (tgt := 35) X (dcg dc_X10_isNeighbour 17 rfl) (by decide) (fun q => ?_) (fun q => ?_)
    · have hf := if_t q hf
      refine p_iload_n X (dcg dc_X10_isNeighbour 23 rfl) rfl rfl ?_
      refine p_iconst (v := -1) X (dcg dc_X10_isNeighbour 24 rfl) (by decide) ?_
      refine p_icmp_ne (tgt := 55) X (dcg dc_X10_isNeighbour 25 rfl) (by decide) (fun q => ?_) (fun q => ?_)
      · have hf := if_t q hf
        refine p_pick [] ?_
        exact wX10_isNeighbour_b55 X hG hnm hf 
      · have hf := if_f q hf
        refine p_iload_n X (dcg dc_X10_isNeighbour 26 rfl) rfl rfl ?_
        refine p_iload_n X (dcg dc_X10_isNeighbour 27 rfl) rfl rfl ?_
        refine p_iload_n X (dcg dc_X10_isNeighbour 28 rfl) rfl rfl ?_
        refine p_iconst (v := 1) X (dcg dc_X10_isNeighbour 29 rfl) (by decide) ?_
        refine p_iadd X (dcg dc_X10_isNeighbour 30 rfl) ?_
        obtain ⟨z4, hz4, hf⟩ := bd_some hf
        refine p_callS (As := [_, _, _]) X ml_X10_35 (dcg dc_X10_isNeighbour 31 rfl) rfl rfl  (wX10_isOneLeftOut hG hz4) (by decide) (room4 (Nat.le_of_ble_eq_true rfl)) (Nat.le_refl _) (Nat.le_refl _) ?_
        rintro _ u9 ⟨rfl, e9⟩; have e9 := e9.symm; subst e9
        refine p_if_eq (tgt := 55) X (dcg dc_X10_isNeighbour 32 rfl) (by decide) (fun q => ?_) (fun q => ?_)
        · have hf := if_t q hf
          refine p_pick [] ?_
          exact wX10_isNeighbour_b55 X hG hnm hf 
        · have hf := if_f q hf
          refine p_iconst (v := 1) X (dcg dc_X10_isNeighbour 33 rfl) (by decide) ?_
          refine p_goto (tgt := 56) X (dcg dc_X10_isNeighbour 34 rfl) (by decide) ?_
          refine p_pick [] ?_
          exact wX10_isNeighbour_b56 X hG hnm hf 
    · have hf := if_f q hf
      refine p_iload_n X (dcg dc_X10_isNeighbour 18 rfl) rfl rfl ?_
      refine p_iload_n X (dcg dc_X10_isNeighbour 19 rfl) rfl rfl ?_
      refine p_iload_n X (dcg dc_X10_isNeighbour 20 rfl) rfl rfl ?_
      obtain ⟨z5, hz5, hf⟩ := bd_some hf
      refine p_callS (As := [_, _, _]) X ml_X10_35 (dcg dc_X10_isNeighbour 21 rfl) rfl rfl  (wX10_isOneLeftOut hG hz5) (by decide) (room4 (Nat.le_of_ble_eq_true rfl)) (Nat.le_refl _) (Nat.le_refl _) ?_
      rintro _ u9 ⟨rfl, e9⟩; have e9 := e9.symm; subst e9
      obtain ⟨hg6, hf⟩ := gd_some hf
      have er := Option.some.inj hf
      subst er
      exact p_zret X rfl (congrArg Value.int hg6) (dcg dc_X10_isNeighbour 22 rfl) ⟨rfl, rfl⟩ (Nat.le_refl _) (Nat.le_refl _)
  · have hf := if_f q hf
    refine p_iload_n X (dcg dc_X10_isNeighbour 10 rfl) rfl rfl ?_
    refine p_iload_n X (dcg dc_X10_isNeighbour 11 rfl) rfl rfl ?_
    refine p_iload_n X (dcg dc_X10_isNeighbour 12 rfl) rfl rfl ?_
    obtain ⟨z7, hz7, hf⟩ := bd_some hf
    refine p_callS (As := [_, _, _]) X ml_X10_31 (dcg dc_X10_isNeighbour 13 rfl) rfl rfl  (wX10_isOneChanged hG hz7) (by decide) (room4 (Nat.le_of_ble_eq_true rfl)) (Nat.le_refl _) (Nat.le_refl _) ?_
    rintro _ u9 ⟨rfl, e9⟩; have e9 := e9.symm; subst e9
    obtain ⟨hg8, hf⟩ := gd_some hf
    have er := Option.some.inj hf
    subst er
    exact p_zret X rfl (congrArg Value.int hg8) (dcg dc_X10_isNeighbour 14 rfl) ⟨rfl, rfl⟩ (Nat.le_refl _) (Nat.le_refl _)
theorem dc_X3_countNeighbours : decs cX3_countNeighbours [(0, .iconst 0, 1), (1, .istore_n 2, 1), (2, .iconst 0, 1), (3, .istore_n 3, 1), (4, .iload_n 3, 1), (5, .aload_n 0, 1), (6, .getfield 12, 3), (9, .invokevirtual 22, 3), (12, .if_icmp .ge 33, 3), (15, .iload_n 1, 1), (16, .aload_n 0, 1), (17, .getfield 12, 3), (20, .iload_n 3, 1), (21, .invokevirtual 26, 3), (24, .checkcast 30, 3), (27, .getfield 32, 3), (30, .invokestatic 97, 3), (33, .ifCond .eq 6, 3), (36, .iinc 2 1, 3), (39, .iinc 3 1, 3), (42, .goto (-38), 3), (45, .iload_n 2, 1), (46, .ireturn, 1)] = true := by decide +kernel
noncomputable def fX3_countNeighbours_b39 (v0 : Nat) (v1 : Int32) (v2 : Int32) (v3 : Int32) (h : PH) : Option ((Int32 × Int32) ⊕ Int32) :=
  some (.inl (v2, (v3 + 1)))
set_option maxRecDepth 100000 in
theorem wX3_countNeighbours_b39 {E : PE} {p : Program} {l : Launch} {e : Env} {s : State} {m : MethodId} {args : Array Value} {below : List Frame} {meth : Method} {c : Code} (X : Cx E p l e (rmv 3 0 0) s m args below meth c RX3 cX3_countNeighbours 4 (some .int)) (hG : Gs E l) (hnm : meth.name = yX3_countNeighbours.name) {v0 : Nat} {v1 : Int32} {v2 : Int32} {v3 : Int32} {h : PH} {r : Int32} {x : ((Int32 × Int32) ⊕ Int32)} (hf : fX3_countNeighbours_b39 v0 v1 v2 v3 h = some x) (k0 : ∀ z : (Int32 × Int32), x = .inl z → PW E p l e (rmv 3 0 0) s m args below meth c 4 0 0 (MQ below (QG E (fun v u => v = some (.int r) ∧ u = h)) args s 0 0 (pA E)) h 4 [(0, some (.ref v0)), (1, some (.int v1)), (2, some (.int (z.1))), (3, some (.int (z.2)))] []) (kf : ∀ z : Int32, x = .inr z → z = r) : PW E p l e (rmv 3 0 0) s m args below meth c 4 0 0 (MQ below (QG E (fun v u => v = some (.int r) ∧ u = h)) args s 0 0 (pA E)) h 39 [(0, some (.ref v0)), (1, some (.int v1)), (2, some (.int v2)), (3, some (.int v3))] [] := by
  unfold fX3_countNeighbours_b39 at hf
  refine p_iinc (v := 1) X (dcg dc_X3_countNeighbours 19 rfl) rfl (by decide) (by decide) rfl ?_
  refine p_goto (tgt := 4) X (dcg dc_X3_countNeighbours 20 rfl) (by decide) ?_
  refine p_pick [0, 1, 2, 3] ?_
  exact k0 _ (Option.some.inj hf).symm
noncomputable def fX3_countNeighbours_c4 (v0 : Nat) (v1 : Int32) (v2 : Int32) (v3 : Int32) (h : PH) : Option ((Int32 × Int32) ⊕ Int32) :=
  gd (hK h v0 = 3) (gs (hR h 3 v0 0) (fun a2 =>
  gd (hK h a2 = 14) (bd (fJx4a65c_size_8abf5 a2 h) (fun z5 =>
  if (z5 ≤ v3) then (mr (some (v2))) else
  gs (hR h 3 v0 0) (fun a8 =>
  gd (hK h a8 = 14) (bd (fJx4a65c_get_915e3 a8 v3 h) (fun z11 =>
  gs z11 (fun a12 =>
  gd (hK h a12 = 10) (bd (fX10_isNeighbour v1 (hI h 10 a12 0)) (fun z15 =>
  if (z15 = 0) then (fX3_countNeighbours_b39 v0 v1 v2 v3 h) else
  fX3_countNeighbours_b39 v0 v1 (v2 + 1) v3 h))))))))))
set_option maxRecDepth 100000 in
theorem wX3_countNeighbours_c4 {E : PE} {p : Program} {l : Launch} {e : Env} {s : State} {m : MethodId} {args : Array Value} {below : List Frame} {meth : Method} {c : Code} (X : Cx E p l e (rmv 3 0 0) s m args below meth c RX3 cX3_countNeighbours 4 (some .int)) (hG : Gs E l) (hnm : meth.name = yX3_countNeighbours.name) {v0 : Nat} {v1 : Int32} {v2 : Int32} {v3 : Int32} {h : PH} {r : Int32} {x : ((Int32 × Int32) ⊕ Int32)} (hf : fX3_countNeighbours_c4 v0 v1 v2 v3 h = some x) (k0 : ∀ z : (Int32 × Int32), x = .inl z → PW E p l e (rmv 3 0 0) s m args below meth c 4 0 0 (MQ below (QG E (fun v u => v = some (.int r) ∧ u = h)) args s 0 0 (pA E)) h 4 [(0, some (.ref v0)), (1, some (.int v1)), (2, some (.int (z.1))), (3, some (.int (z.2)))] []) (kf : ∀ z : Int32, x = .inr z → z = r) : PW E p l e (rmv 3 0 0) s m args below meth c 4 0 0 (MQ below (QG E (fun v u => v = some (.int r) ∧ u = h)) args s 0 0 (pA E)) h 4 [(0, some (.ref v0)), (1, some (.int v1)), (2, some (.int v2)), (3, some (.int v3))] [] := by
  unfold fX3_countNeighbours_c4 at hf
  refine p_iload_n X (dcg dc_X3_countNeighbours 4 rfl) rfl rfl ?_
  refine p_aload_n X (dcg dc_X3_countNeighbours 5 rfl) rfl rfl ?_
  obtain ⟨hk1, hf⟩ := gd_some hf
  refine p_getR X fl_X3_12 rfl (by decide) (dcg dc_X3_countNeighbours 6 rfl) hk1 ?_
  obtain ⟨a2, e3, hf⟩ := gs_some hf
  first | subst e3 | (try rw [e3])
  obtain ⟨hk4, hf⟩ := gd_some hf
  obtain ⟨z5, hz5, hf⟩ := bd_some hf
  refine p_callV (As := []) X ml_X3_22 (dcg dc_X3_countNeighbours 7 rfl) rfl rfl hk4 (wJx4a65c_size_8abf5 hG hz5) (by decide) (room4 (Nat.le_of_ble_eq_true rfl)) (Nat.le_refl _) (Nat.le_refl _) ?_
  rintro _ u9 ⟨rfl, e9⟩; have e9 := e9.symm; subst e9
  refine p_icmp_ge (tgt := 45) X (dcg dc_X3_countNeighbours 8 rfl) (by decide) (fun q => ?_) (fun q => ?_)
  · have hf := if_t q hf
    obtain ⟨y6, hf, hy7⟩ := mr_some hf
    have hy7f := kf y6 hy7
    subst hy7f
    refine p_iload_n X (dcg dc_X3_countNeighbours 21 rfl) rfl rfl ?_
    have er := Option.some.inj hf
    subst er
    exact p_iret X rfl (dcg dc_X3_countNeighbours 22 rfl) ⟨rfl, rfl⟩ (Nat.le_refl _) (Nat.le_refl _)
  · have hf := if_f q hf
    refine p_iload_n X (dcg dc_X3_countNeighbours 9 rfl) rfl rfl ?_
    refine p_aload_n X (dcg dc_X3_countNeighbours 10 rfl) rfl rfl ?_
    refine p_getR X fl_X3_12 rfl (by decide) (dcg dc_X3_countNeighbours 11 rfl) hk1 ?_
    refine p_iload_n X (dcg dc_X3_countNeighbours 12 rfl) rfl rfl ?_
    obtain ⟨a8, e9, hf⟩ := gs_some hf
    first | subst e9 | (try rw [e9])
    obtain ⟨hk10, hf⟩ := gd_some hf
    obtain ⟨z11, hz11, hf⟩ := bd_some hf
    refine p_callV (As := [_]) X ml_X3_26 (dcg dc_X3_countNeighbours 13 rfl) rfl rfl hk10 (wJx4a65c_get_915e3 hG hz11) (by decide) (room4 (Nat.le_of_ble_eq_true rfl)) (Nat.le_refl _) (Nat.le_refl _) ?_
    rintro _ u9 ⟨rfl, e9⟩; have e9 := e9.symm; subst e9
    obtain ⟨a12, e13, hf⟩ := gs_some hf
    first | subst e13 | (try rw [e13])
    obtain ⟨hk14, hf⟩ := gd_some hf
    refine p_cast (q := (RX10, TX10, 3)) X rfl tw_505 (dcg dc_X3_countNeighbours 14 rfl) hk14 ?_
    refine p_getIn X fl_X3_32 rfl (by decide) (dcg dc_X3_countNeighbours 15 rfl) hk14 ?_
    obtain ⟨z15, hz15, hf⟩ := bd_some hf
    refine p_callS (As := [_, _]) X ml_X3_97 (dcg dc_X3_countNeighbours 16 rfl) rfl rfl  (wX10_isNeighbour hG hz15) (by decide) (room4 (Nat.le_of_ble_eq_true rfl)) (Nat.le_refl _) (Nat.le_refl _) ?_
    rintro _ u9 ⟨rfl, e9⟩; have e9 := e9.symm; subst e9
    refine p_if_eq (tgt := 39) X (dcg dc_X3_countNeighbours 17 rfl) (by decide) (fun q => ?_) (fun q => ?_)
    · have hf := if_t q hf
      refine p_pick [0, 1, 2, 3] ?_
      exact wX3_countNeighbours_b39 X hG hnm hf k0 kf
    · have hf := if_f q hf
      refine p_iinc (v := 1) X (dcg dc_X3_countNeighbours 18 rfl) rfl (by decide) (by decide) rfl ?_
      refine p_pick [0, 1, 2, 3] ?_
      exact wX3_countNeighbours_b39 X hG hnm hf k0 kf
noncomputable def fX3_countNeighbours_l4 (v0 : Nat) (v1 : Int32) (v2 : Int32) (v3 : Int32) (h : PH) : Option Int32 := wh (fun z : (Int32 × Int32) => fX3_countNeighbours_c4 v0 v1 (z.1) (z.2) h) (v2, v3)
set_option maxRecDepth 100000 in
theorem wX3_countNeighbours_l4 {E : PE} {p : Program} {l : Launch} {e : Env} {s : State} {m : MethodId} {args : Array Value} {below : List Frame} {meth : Method} {c : Code} (X : Cx E p l e (rmv 3 0 0) s m args below meth c RX3 cX3_countNeighbours 4 (some .int)) (hG : Gs E l) (hnm : meth.name = yX3_countNeighbours.name) {v0 : Nat} {v1 : Int32} {v2 : Int32} {v3 : Int32} {h : PH} {r : Int32} (hf : fX3_countNeighbours_l4 v0 v1 v2 v3 h = some r)  : PW E p l e (rmv 3 0 0) s m args below meth c 4 0 0 (MQ below (QG E (fun v u => v = some (.int r) ∧ u = h)) args s 0 0 (pA E)) h 4 [(0, some (.ref v0)), (1, some (.int v1)), (2, some (.int v2)), (3, some (.int v3))] [] := by
  unfold fX3_countNeighbours_l4 at hf
  refine wh_ind (P := fun z => PW E p l e (rmv 3 0 0) s m args below meth c 4 0 0 (MQ below (QG E (fun v u => v = some (.int r) ∧ u = h)) args s 0 0 (pA E)) h 4 [(0, some (.ref v0)), (1, some (.int v1)), (2, some (.int (z.1))), (3, some (.int (z.2)))] []) (fun z x0 hs i1 i2 => ?_) _ hf
  exact wX3_countNeighbours_c4 (r := r) (v0 := v0) (v1 := v1) (v2 := z.1) (v3 := z.2) (h := h) X hG hnm hs i1  i2
noncomputable def fX3_countNeighbours (v0 : Nat) (v1 : Int32) (h : PH) : Option Int32 :=
  fX3_countNeighbours_l4 v0 v1 (0 : Int32) (0 : Int32) h
set_option maxRecDepth 100000 in
theorem wX3_countNeighbours {E : PE} {l : Launch} (hG : Gs E l) {v0 : Nat} {v1 : Int32} {h : PH} {r : Int32} (hf : fX3_countNeighbours v0 v1 h = some r) : Ct E l 3 0 0 yX3_countNeighbours cX3_countNeighbours 4 (some .int) [.ref v0, .int v1] h (fun v u => v = some (.int r) ∧ u = h) := by
  refine ct_of hG (by decide) (Nat.le_of_ble_eq_true rfl) ?_
  intro p e s m args below meth c X hnm
  show PW E p l e _ s m args below meth c _ 0 0 _ h 0 [(0, some (.ref v0)), (1, some (.int v1))] []
  unfold fX3_countNeighbours at hf
  refine p_iconst (v := 0) X (dcg dc_X3_countNeighbours 0 rfl) (by decide) ?_
  refine p_istore_n X (dcg dc_X3_countNeighbours 1 rfl) rfl (by decide) rfl ?_
  refine p_iconst (v := 0) X (dcg dc_X3_countNeighbours 2 rfl) (by decide) ?_
  refine p_istore_n X (dcg dc_X3_countNeighbours 3 rfl) rfl (by decide) rfl ?_
  refine p_pick [0, 1, 2, 3] ?_
  exact wX3_countNeighbours_l4 X hG hnm hf 
