/-! methods of the program (by program: wip/whole/gen2.py) -/
theorem dc_J5_append_3fe6f : decs cJ5_append_3fe6f [(0, .aload_n 0, 1), (1, .aload_n 0, 1), (2, .getfield 79, 3), (5, .iconst 1, 1), (6, .iadd, 1), (7, .invokevirtual 100, 3), (10, .aload_n 0, 1), (11, .invokevirtual 83, 3), (14, .ifCond .eq 31, 3), (17, .iload_n 1, 1), (18, .invokestatic 191, 3), (21, .ifCond .eq 24, 3), (24, .aload_n 0, 1), (25, .getfield 15, 3), (28, .aload_n 0, 1), (29, .dup, 1), (30, .getfield 79, 3), (33, .dup_x1, 1), (34, .iconst 1, 1), (35, .iadd, 1), (36, .putfield 79, 3), (39, .iload_n 1, 1), (40, .i2b, 1), (41, .bastore, 1), (42, .goto 33, 3), (45, .aload_n 0, 1), (46, .invokevirtual 83, 3), (49, .ifCond .eq 7, 3), (52, .aload_n 0, 1), (53, .invokevirtual 195, 3), (56, .aload_n 0, 1), (57, .getfield 15, 3), (60, .aload_n 0, 1), (61, .dup, 1), (62, .getfield 79, 3), (65, .dup_x1, 1), (66, .iconst 1, 1), (67, .iadd, 1), (68, .putfield 79, 3), (71, .iload_n 1, 1), (72, .invokestatic 197, 3), (75, .aload_n 0, 1), (76, .areturn, 1)] = true := by decide +kernel
noncomputable def fJ5_append_3fe6f_b45 (v0 : Nat) (v1 : Int32) (h : PH) : Option (Option Nat × PH) :=
  gd (hK h v0 = 13) (bd (fJ5_isLatin1_aae02 v0 h) (fun z6 =>
  if (z6 = 0) then (lt (sI h 13 v0 3 ((hI h 13 v0 3) + (1 : Int32))) (fun h7 =>
  none)) else
  none))
set_option maxRecDepth 100000 in
theorem mJ5_append_3fe6f_b45 {v0 : Nat} {v1 : Int32} {h : PH} {r : (Option Nat × PH)} (hf : fJ5_append_3fe6f_b45 v0 v1 h = some r) : lez h (hX r.2) (hV r.2) := by
  unfold fJ5_append_3fe6f_b45 at hf
  have hle := lez_rf h
  obtain ⟨hk5, hf⟩ := gd_some hf
  obtain ⟨z6, hz6, hf⟩ := bd_some hf
  rcases ite_or hf with ⟨q, hf⟩ | ⟨q, hf⟩
  · have hf := if_t q hf
    obtain ⟨h7, rfl, hf⟩ := lt_some hf
    cases hf
  · have hf := if_f q hf
    cases hf
set_option maxRecDepth 100000 in
theorem wJ5_append_3fe6f_b45 {E : PE} {p : Program} {l : Launch} {e : Env} {s : State} {m : MethodId} {args : Array Value} {below : List Frame} {meth : Method} {c : Code} {X0 V0 MC MS uc us : Nat} (X : Cx E p l e (rmv 4 MC MS) s m args below meth c RJ5 cJ5_append_3fe6f 2 (some (.object "java/lang/AbstractStringBuilder"))) (hG : Gs E l) (hnm : meth.name = yJ5_append_3fe6f.name) {v0 : Nat} {v1 : Int32} {h : PH} {r : (Option Nat × PH)} (hM : MC + X0 = (hX r.2)) (hN : MS + V0 = (hV r.2)) (hu : uc + X0 = hX h) (hv : us + V0 = hV h) (hf : fJ5_append_3fe6f_b45 v0 v1 h = some r)  : PW E p l e (rmv 4 MC MS) s m args below meth c 2 uc us (MQ below (QG E (fun v u => v = some (va_rf r.1) ∧ u = r.2)) args s MC MS (pA E)) h 45 [(0, some (.ref v0)), (1, some (.int v1))] [] := by
  have hm1 : lez h (hX r.2) (hV r.2) := mJ5_append_3fe6f_b45 hf
  have hcm : uc ≤ MC := (by have o0 := hm1.1; have o1 := hM; have o2 := hu; (try simp only [hX_sI, hX_sR, hX_sL, hX_sD, hX_sIa, hX_sRa, hV_sI, hV_sR, hV_sL, hV_sD, hV_sIa, hV_sRa, hX_new, hV_new] at o0 o1 o2 ⊢); omega)
  have hsm : us ≤ MS := (by have o0 := hm1.2; have o1 := hN; have o2 := hv; (try simp only [hX_sI, hX_sR, hX_sL, hX_sD, hX_sIa, hX_sRa, hV_sI, hV_sR, hV_sL, hV_sD, hV_sIa, hV_sRa, hX_new, hV_new] at o0 o1 o2 ⊢); omega)
  clear hm1
  unfold fJ5_append_3fe6f_b45 at hf
  refine p_aload_n X (dcg dc_J5_append_3fe6f 25 rfl) rfl rfl ?_
  obtain ⟨hk5, hf⟩ := gd_some hf
  obtain ⟨z6, hz6, hf⟩ := bd_some hf
  refine p_callU (As := []) X ml_J5_83 (dcg dc_J5_append_3fe6f 26 rfl) rfl rfl hk5 (wJ5_isLatin1_aae02 hG hz6) (by decide) (room4 (Nat.le_of_ble_eq_true rfl)) hcm hsm ?_
  rintro _ u9 ⟨rfl, e9⟩; have e9 := e9.symm; subst e9
  refine p_if_eq (tgt := 56) X (dcg dc_J5_append_3fe6f 27 rfl) (by decide) (fun q => ?_) (fun q => ?_)
  · have hf := if_t q hf
    refine p_aload_n X (dcg dc_J5_append_3fe6f 30 rfl) rfl rfl ?_
    refine p_getR X fl_J5_15 rfl (by decide) (dcg dc_J5_append_3fe6f 31 rfl) hk5 ?_
    refine p_aload_n X (dcg dc_J5_append_3fe6f 32 rfl) rfl rfl ?_
    refine p_dup X (dcg dc_J5_append_3fe6f 33 rfl) rfl ?_
    refine p_getI X fl_J5_79 rfl (by decide) (dcg dc_J5_append_3fe6f 34 rfl) hk5 ?_
    refine p_dup_x1 X (dcg dc_J5_append_3fe6f 35 rfl) rfl rfl ?_
    refine p_iconst (v := 1) X (dcg dc_J5_append_3fe6f 36 rfl) (by decide) ?_
    refine p_iadd X (dcg dc_J5_append_3fe6f 37 rfl) ?_
    refine p_putI X fl_J5_79 rfl (by decide) (fun q hq => by cases hq; rfl) rfl rfl (dcg dc_J5_append_3fe6f 38 rfl) hk5 ?_
    obtain ⟨h7, rfl, hf⟩ := lt_some hf
    refine p_iload_n X (dcg dc_J5_append_3fe6f 39 rfl) rfl rfl ?_
    cases hf
  · have hf := if_f q hf
    refine p_aload_n X (dcg dc_J5_append_3fe6f 28 rfl) rfl rfl ?_
    cases hf
noncomputable def fJ5_append_3fe6f_b10 (v0 : Nat) (v1 : Int32) (h : PH) : Option (Option Nat × PH) :=
  gd (hK h v0 = 13) (bd (fJ5_isLatin1_aae02 v0 h) (fun z4 =>
  if (z4 = 0) then (fJ5_append_3fe6f_b45 v0 v1 h) else
  bd (fJ1_canEncode_fc78d v1) (fun z8 =>
  if (z8 = 0) then (fJ5_append_3fe6f_b45 v0 v1 h) else
  lt (sI h 13 v0 3 ((hI h 13 v0 3) + (1 : Int32))) (fun h9 =>
  gs (hR h 13 v0 0) (fun a10 =>
  gd (hK h9 a10 = 22 ∧ inb (hI h 13 v0 3) (hN h9 a10)) (lt (sI h9 22 a10 (Int32.toNatClampNeg (hI h 13 v0 3)) (Int32.toInt8 ((Int32.toInt8 v1).toInt32)).toInt32) (fun h14 =>
  some (((some v0), h14)))))))))
set_option maxRecDepth 100000 in
theorem mJ5_append_3fe6f_b10 {v0 : Nat} {v1 : Int32} {h : PH} {r : (Option Nat × PH)} (hf : fJ5_append_3fe6f_b10 v0 v1 h = some r) : lez h (hX r.2) (hV r.2) := by
  unfold fJ5_append_3fe6f_b10 at hf
  have hle := lez_rf h
  obtain ⟨hk3, hf⟩ := gd_some hf
  obtain ⟨z4, hz4, hf⟩ := bd_some hf
  rcases ite_or hf with ⟨q, hf⟩ | ⟨q, hf⟩
  · have hf := if_t q hf
    exact lez_rt (mJ5_append_3fe6f_b45 hf) hle
  · have hf := if_f q hf
    obtain ⟨z8, hz8, hf⟩ := bd_some hf
    rcases ite_or hf with ⟨q, hf⟩ | ⟨q, hf⟩
    · have hf := if_t q hf
      exact lez_rt (mJ5_append_3fe6f_b45 hf) hle
    · have hf := if_f q hf
      obtain ⟨h9, rfl, hf⟩ := lt_some hf
      obtain ⟨a10, e11, hf⟩ := gs_some hf
      obtain ⟨⟨hk13, hb12⟩, hf⟩ := gd_some hf
      obtain ⟨h14, rfl, hf⟩ := lt_some hf
      have ee := Option.some.inj hf; subst ee; exact hle
set_option maxRecDepth 100000 in
theorem wJ5_append_3fe6f_b10 {E : PE} {p : Program} {l : Launch} {e : Env} {s : State} {m : MethodId} {args : Array Value} {below : List Frame} {meth : Method} {c : Code} {X0 V0 MC MS uc us : Nat} (X : Cx E p l e (rmv 4 MC MS) s m args below meth c RJ5 cJ5_append_3fe6f 2 (some (.object "java/lang/AbstractStringBuilder"))) (hG : Gs E l) (hnm : meth.name = yJ5_append_3fe6f.name) {v0 : Nat} {v1 : Int32} {h : PH} {r : (Option Nat × PH)} (hM : MC + X0 = (hX r.2)) (hN : MS + V0 = (hV r.2)) (hu : uc + X0 = hX h) (hv : us + V0 = hV h) (hf : fJ5_append_3fe6f_b10 v0 v1 h = some r)  : PW E p l e (rmv 4 MC MS) s m args below meth c 2 uc us (MQ below (QG E (fun v u => v = some (va_rf r.1) ∧ u = r.2)) args s MC MS (pA E)) h 10 [(0, some (.ref v0)), (1, some (.int v1))] [] := by
  have hm1 : lez h (hX r.2) (hV r.2) := mJ5_append_3fe6f_b10 hf
  have hcm : uc ≤ MC := (by have o0 := hm1.1; have o1 := hM; have o2 := hu; (try simp only [hX_sI, hX_sR, hX_sL, hX_sD, hX_sIa, hX_sRa, hV_sI, hV_sR, hV_sL, hV_sD, hV_sIa, hV_sRa, hX_new, hV_new] at o0 o1 o2 ⊢); omega)
  have hsm : us ≤ MS := (by have o0 := hm1.2; have o1 := hN; have o2 := hv; (try simp only [hX_sI, hX_sR, hX_sL, hX_sD, hX_sIa, hX_sRa, hV_sI, hV_sR, hV_sL, hV_sD, hV_sIa, hV_sRa, hX_new, hV_new] at o0 o1 o2 ⊢); omega)
  clear hm1
  unfold fJ5_append_3fe6f_b10 at hf
  refine p_aload_n X (dcg dc_J5_append_3fe6f 6 rfl) rfl rfl ?_
  obtain ⟨hk3, hf⟩ := gd_some hf
  obtain ⟨z4, hz4, hf⟩ := bd_some hf
  refine p_callU (As := []) X ml_J5_83 (dcg dc_J5_append_3fe6f 7 rfl) rfl rfl hk3 (wJ5_isLatin1_aae02 hG hz4) (by decide) (room4 (Nat.le_of_ble_eq_true rfl)) hcm hsm ?_
  rintro _ u9 ⟨rfl, e9⟩; have e9 := e9.symm; subst e9
  refine p_if_eq (tgt := 45) X (dcg dc_J5_append_3fe6f 8 rfl) (by decide) (fun q => ?_) (fun q => ?_)
  · have hf := if_t q hf
    refine p_pick [0, 1] ?_
    exact wJ5_append_3fe6f_b45 X hG hnm hM hN hu hv hf 
  · have hf := if_f q hf
    refine p_iload_n X (dcg dc_J5_append_3fe6f 9 rfl) rfl rfl ?_
    obtain ⟨z8, hz8, hf⟩ := bd_some hf
    refine p_callS (As := [_]) X ml_J5_191 (dcg dc_J5_append_3fe6f 10 rfl) rfl rfl  (wJ1_canEncode_fc78d hG hz8) (by decide) (room4 (Nat.le_of_ble_eq_true rfl)) hcm hsm ?_
    rintro _ u9 ⟨rfl, e9⟩; have e9 := e9.symm; subst e9
    refine p_if_eq (tgt := 45) X (dcg dc_J5_append_3fe6f 11 rfl) (by decide) (fun q => ?_) (fun q => ?_)
    · have hf := if_t q hf
      refine p_pick [0, 1] ?_
      exact wJ5_append_3fe6f_b45 X hG hnm hM hN hu hv hf 
    · have hf := if_f q hf
      refine p_aload_n X (dcg dc_J5_append_3fe6f 12 rfl) rfl rfl ?_
      refine p_getR X fl_J5_15 rfl (by decide) (dcg dc_J5_append_3fe6f 13 rfl) hk3 ?_
      refine p_aload_n X (dcg dc_J5_append_3fe6f 14 rfl) rfl rfl ?_
      refine p_dup X (dcg dc_J5_append_3fe6f 15 rfl) rfl ?_
      refine p_getI X fl_J5_79 rfl (by decide) (dcg dc_J5_append_3fe6f 16 rfl) hk3 ?_
      refine p_dup_x1 X (dcg dc_J5_append_3fe6f 17 rfl) rfl rfl ?_
      refine p_iconst (v := 1) X (dcg dc_J5_append_3fe6f 18 rfl) (by decide) ?_
      refine p_iadd X (dcg dc_J5_append_3fe6f 19 rfl) ?_
      refine p_putI X fl_J5_79 rfl (by decide) (fun q hq => by cases hq; rfl) rfl rfl (dcg dc_J5_append_3fe6f 20 rfl) hk3 ?_
      obtain ⟨h9, rfl, hf⟩ := lt_some hf
      refine p_iload_n X (dcg dc_J5_append_3fe6f 21 rfl) rfl rfl ?_
      refine p_i2b X (dcg dc_J5_append_3fe6f 22 rfl) ?_
      obtain ⟨a10, e11, hf⟩ := gs_some hf
      first | subst e11 | (try rw [e11])
      obtain ⟨⟨hk13, hb12⟩, hf⟩ := gd_some hf
      refine p_bast X (dcg dc_J5_append_3fe6f 23 rfl) hk13 (vp_of_inb hb12) ?_
      obtain ⟨h14, rfl, hf⟩ := lt_some hf
      refine p_goto (tgt := 75) X (dcg dc_J5_append_3fe6f 24 rfl) (by decide) ?_
      refine p_aload_n X (dcg dc_J5_append_3fe6f 41 rfl) rfl rfl ?_
      have er := Option.some.inj hf
      subst er
      exact p_aret (r := some _) X rfl (Or.inl ⟨_, rfl⟩) (dcg dc_J5_append_3fe6f 42 rfl) ⟨rfl, rfl⟩ hcm hsm
noncomputable def fJ5_append_3fe6f_b0 (v0 : Nat) (v1 : Int32) (h : PH) : Option (Option Nat × PH) :=
  gd (hK h v0 = 13) (bd (fJ5_ensureCapacityInternal_d00df v0 ((hI h 13 v0 3) + (1 : Int32)) h) (fun z2 =>
  fJ5_append_3fe6f_b10 v0 v1 z2))
set_option maxRecDepth 100000 in
theorem mJ5_append_3fe6f_b0 {v0 : Nat} {v1 : Int32} {h : PH} {r : (Option Nat × PH)} (hf : fJ5_append_3fe6f_b0 v0 v1 h = some r) : lez h (hX r.2) (hV r.2) := by
  unfold fJ5_append_3fe6f_b0 at hf
  have hle := lez_rf h
  obtain ⟨hk1, hf⟩ := gd_some hf
  obtain ⟨z2, hz2, hf⟩ := bd_some hf
  have hle := lez_rt (mJ5_ensureCapacityInternal_d00df hz2) hle
  exact lez_rt (mJ5_append_3fe6f_b10 hf) hle
set_option maxRecDepth 100000 in
theorem wJ5_append_3fe6f_b0 {E : PE} {p : Program} {l : Launch} {e : Env} {s : State} {m : MethodId} {args : Array Value} {below : List Frame} {meth : Method} {c : Code} {X0 V0 MC MS uc us : Nat} (X : Cx E p l e (rmv 4 MC MS) s m args below meth c RJ5 cJ5_append_3fe6f 2 (some (.object "java/lang/AbstractStringBuilder"))) (hG : Gs E l) (hnm : meth.name = yJ5_append_3fe6f.name) {v0 : Nat} {v1 : Int32} {h : PH} {r : (Option Nat × PH)} (hM : MC + X0 = (hX r.2)) (hN : MS + V0 = (hV r.2)) (hu : uc + X0 = hX h) (hv : us + V0 = hV h) (hf : fJ5_append_3fe6f_b0 v0 v1 h = some r)  : PW E p l e (rmv 4 MC MS) s m args below meth c 2 uc us (MQ below (QG E (fun v u => v = some (va_rf r.1) ∧ u = r.2)) args s MC MS (pA E)) h 0 [(0, some (.ref v0)), (1, some (.int v1))] [] := by
  have hm1 : lez h (hX r.2) (hV r.2) := mJ5_append_3fe6f_b0 hf
  have hcm : uc ≤ MC := (by have o0 := hm1.1; have o1 := hM; have o2 := hu; (try simp only [hX_sI, hX_sR, hX_sL, hX_sD, hX_sIa, hX_sRa, hV_sI, hV_sR, hV_sL, hV_sD, hV_sIa, hV_sRa, hX_new, hV_new] at o0 o1 o2 ⊢); omega)
  have hsm : us ≤ MS := (by have o0 := hm1.2; have o1 := hN; have o2 := hv; (try simp only [hX_sI, hX_sR, hX_sL, hX_sD, hX_sIa, hX_sRa, hV_sI, hV_sR, hV_sL, hV_sD, hV_sIa, hV_sRa, hX_new, hV_new] at o0 o1 o2 ⊢); omega)
  clear hm1
  unfold fJ5_append_3fe6f_b0 at hf
  refine p_aload_n X (dcg dc_J5_append_3fe6f 0 rfl) rfl rfl ?_
  refine p_aload_n X (dcg dc_J5_append_3fe6f 1 rfl) rfl rfl ?_
  obtain ⟨hk1, hf⟩ := gd_some hf
  refine p_getI X fl_J5_79 rfl (by decide) (dcg dc_J5_append_3fe6f 2 rfl) hk1 ?_
  refine p_iconst (v := 1) X (dcg dc_J5_append_3fe6f 3 rfl) (by decide) ?_
  refine p_iadd X (dcg dc_J5_append_3fe6f 4 rfl) ?_
  obtain ⟨z2, hz2, hf⟩ := bd_some hf
  have hc1 := mJ5_ensureCapacityInternal_d00df hz2
  have hm1 : lez _ (hX r.2) (hV r.2) := mJ5_append_3fe6f_b10 hf
  refine p_callP (As := [_]) X ml_J5_100 (dcg dc_J5_append_3fe6f 5 rfl) rfl rfl hk1 (wJ5_ensureCapacityInternal_d00df hG hz2) (by decide) (room4 (Nat.le_of_ble_eq_true rfl)) (by have o0 := hm1.1; have o1 := hc1.1; have o2 := hM; have o3 := hu; (try simp only [hX_sI, hX_sR, hX_sL, hX_sD, hX_sIa, hX_sRa, hV_sI, hV_sR, hV_sL, hV_sD, hV_sIa, hV_sRa, hX_new, hV_new] at o0 o1 o2 o3 ⊢); omega) (by have o0 := hm1.2; have o1 := hc1.2; have o2 := hN; have o3 := hv; (try simp only [hX_sI, hX_sR, hX_sL, hX_sD, hX_sIa, hX_sRa, hV_sI, hV_sR, hV_sL, hV_sD, hV_sIa, hV_sRa, hX_new, hV_new] at o0 o1 o2 o3 ⊢); omega) ?_
  rintro _ u9 ⟨rfl, e9⟩; have e9 := e9.symm; subst e9
  refine p_pick [0, 1] ?_
  exact wJ5_append_3fe6f_b10 X hG hnm hM hN (by have o0 := hc1.1; have o1 := hu; (try simp only [hX_sI, hX_sR, hX_sL, hX_sD, hX_sIa, hX_sRa, hV_sI, hV_sR, hV_sL, hV_sD, hV_sIa, hV_sRa, hX_new, hV_new] at o0 o1 ⊢); omega) (by have o0 := hc1.2; have o1 := hv; (try simp only [hX_sI, hX_sR, hX_sL, hX_sD, hX_sIa, hX_sRa, hV_sI, hV_sR, hV_sL, hV_sD, hV_sIa, hV_sRa, hX_new, hV_new] at o0 o1 ⊢); omega) hf 
noncomputable def fJ5_append_3fe6f (v0 : Nat) (v1 : Int32) (h : PH) : Option (Option Nat × PH) :=
  fJ5_append_3fe6f_b0 v0 v1 h
set_option maxRecDepth 100000 in
theorem mJ5_append_3fe6f {v0 : Nat} {v1 : Int32} {h : PH} {r : (Option Nat × PH)} (hf : fJ5_append_3fe6f v0 v1 h = some r) : lez h (hX r.2) (hV r.2) := by
  unfold fJ5_append_3fe6f at hf
  have hle := lez_rf h
  exact lez_rt (mJ5_append_3fe6f_b0 hf) hle
set_option maxRecDepth 100000 in
theorem wJ5_append_3fe6f {E : PE} {l : Launch} (hG : Gs E l) {v0 : Nat} {v1 : Int32} {h : PH} {r : (Option Nat × PH)} (hf : fJ5_append_3fe6f v0 v1 h = some r) : Ct E l 4 ((hX r.2) - hX h) ((hV r.2) - hV h) yJ5_append_3fe6f cJ5_append_3fe6f 2 (some (.object "java/lang/AbstractStringBuilder")) [.ref v0, .int v1] h (fun v u => v = some (va_rf r.1) ∧ u = r.2) := by
  have hmm := mJ5_append_3fe6f hf
  refine ct_of hG (by decide) (Nat.le_of_ble_eq_true rfl) ?_
  intro p e s m args below meth c X hnm
  show PW E p l e _ s m args below meth c _ 0 0 _ h 0 [(0, some (.ref v0)), (1, some (.int v1))] []
  unfold fJ5_append_3fe6f at hf
  have hM := Nat.sub_add_cancel hmm.1
  have hN := Nat.sub_add_cancel hmm.2
  refine p_pick [0, 1] ?_
  exact wJ5_append_3fe6f_b0 X hG hnm hM hN (Nat.zero_add _) (Nat.zero_add _) hf
theorem dc_J4_append_cf468 : decs cJ4_append_cf468 [(0, .aload_n 0, 1), (1, .iload_n 1, 1), (2, .invokespecial 50, 3), (5, .pop, 1), (6, .aload_n 0, 1), (7, .areturn, 1)] = true := by decide +kernel
noncomputable def fJ4_append_cf468_b5 (v0 : Nat) (t0 : Option Nat) (h : PH) : Option (Option Nat × PH) :=
  some (((some v0), h))
set_option maxRecDepth 100000 in
theorem mJ4_append_cf468_b5 {v0 : Nat} {t0 : Option Nat} {h : PH} {r : (Option Nat × PH)} (hf : fJ4_append_cf468_b5 v0 t0 h = some r) : lez h (hX r.2) (hV r.2) := by
  unfold fJ4_append_cf468_b5 at hf
  have hle := lez_rf h
  have ee := Option.some.inj hf; subst ee; exact hle
set_option maxRecDepth 100000 in
theorem wJ4_append_cf468_b5 {E : PE} {p : Program} {l : Launch} {e : Env} {s : State} {m : MethodId} {args : Array Value} {below : List Frame} {meth : Method} {c : Code} {X0 V0 MC MS uc us : Nat} (X : Cx E p l e (rmv 5 MC MS) s m args below meth c RJ4 cJ4_append_cf468 2 (some (.object "java/lang/StringBuilder"))) (hG : Gs E l) (hnm : meth.name = yJ4_append_cf468.name) {v0 : Nat} {t0 : Option Nat} {h : PH} {r : (Option Nat × PH)} (hM : MC + X0 = (hX r.2)) (hN : MS + V0 = (hV r.2)) (hu : uc + X0 = hX h) (hv : us + V0 = hV h) (hf : fJ4_append_cf468_b5 v0 t0 h = some r)  : PW E p l e (rmv 5 MC MS) s m args below meth c 2 uc us (MQ below (QG E (fun v u => v = some (va_rf r.1) ∧ u = r.2)) args s MC MS (pA E)) h 5 [(0, some (.ref v0))] [va_rf t0] := by
  have hm1 : lez h (hX r.2) (hV r.2) := mJ4_append_cf468_b5 hf
  have hcm : uc ≤ MC := (by have o0 := hm1.1; have o1 := hM; have o2 := hu; (try simp only [hX_sI, hX_sR, hX_sL, hX_sD, hX_sIa, hX_sRa, hV_sI, hV_sR, hV_sL, hV_sD, hV_sIa, hV_sRa, hX_new, hV_new] at o0 o1 o2 ⊢); omega)
  have hsm : us ≤ MS := (by have o0 := hm1.2; have o1 := hN; have o2 := hv; (try simp only [hX_sI, hX_sR, hX_sL, hX_sD, hX_sIa, hX_sRa, hV_sI, hV_sR, hV_sL, hV_sD, hV_sIa, hV_sRa, hX_new, hV_new] at o0 o1 o2 ⊢); omega)
  clear hm1
  unfold fJ4_append_cf468_b5 at hf
  refine p_pop X (dcg dc_J4_append_cf468 3 rfl) (cat_rf _) ?_
  refine p_aload_n X (dcg dc_J4_append_cf468 4 rfl) rfl rfl ?_
  have er := Option.some.inj hf
  subst er
  exact p_aret (r := some _) X rfl (Or.inl ⟨_, rfl⟩) (dcg dc_J4_append_cf468 5 rfl) ⟨rfl, rfl⟩ hcm hsm
noncomputable def fJ4_append_cf468_b0 (v0 : Nat) (v1 : Int32) (h : PH) : Option (Option Nat × PH) :=
  gd (hK h v0 = 13) (bd (fJ5_append_3fe6f v0 v1 h) (fun z2 =>
  fJ4_append_cf468_b5 v0 z2.1 z2.2))
set_option maxRecDepth 100000 in
theorem mJ4_append_cf468_b0 {v0 : Nat} {v1 : Int32} {h : PH} {r : (Option Nat × PH)} (hf : fJ4_append_cf468_b0 v0 v1 h = some r) : lez h (hX r.2) (hV r.2) := by
  unfold fJ4_append_cf468_b0 at hf
  have hle := lez_rf h
  obtain ⟨hk1, hf⟩ := gd_some hf
  obtain ⟨z2, hz2, hf⟩ := bd_some hf
  have hle := lez_rt (mJ5_append_3fe6f hz2) hle
  exact lez_rt (mJ4_append_cf468_b5 hf) hle
set_option maxRecDepth 100000 in
theorem wJ4_append_cf468_b0 {E : PE} {p : Program} {l : Launch} {e : Env} {s : State} {m : MethodId} {args : Array Value} {below : List Frame} {meth : Method} {c : Code} {X0 V0 MC MS uc us : Nat} (X : Cx E p l e (rmv 5 MC MS) s m args below meth c RJ4 cJ4_append_cf468 2 (some (.object "java/lang/StringBuilder"))) (hG : Gs E l) (hnm : meth.name = yJ4_append_cf468.name) {v0 : Nat} {v1 : Int32} {h : PH} {r : (Option Nat × PH)} (hM : MC + X0 = (hX r.2)) (hN : MS + V0 = (hV r.2)) (hu : uc + X0 = hX h) (hv : us + V0 = hV h) (hf : fJ4_append_cf468_b0 v0 v1 h = some r)  : PW E p l e (rmv 5 MC MS) s m args below meth c 2 uc us (MQ below (QG E (fun v u => v = some (va_rf r.1) ∧ u = r.2)) args s MC MS (pA E)) h 0 [(0, some (.ref v0)), (1, some (.int v1))] [] := by
  have hm1 : lez h (hX r.2) (hV r.2) := mJ4_append_cf468_b0 hf
  have hcm : uc ≤ MC := (by have o0 := hm1.1; have o1 := hM; have o2 := hu; (try simp only [hX_sI, hX_sR, hX_sL, hX_sD, hX_sIa, hX_sRa, hV_sI, hV_sR, hV_sL, hV_sD, hV_sIa, hV_sRa, hX_new, hV_new] at o0 o1 o2 ⊢); omega)
  have hsm : us ≤ MS := (by have o0 := hm1.2; have o1 := hN; have o2 := hv; (try simp only [hX_sI, hX_sR, hX_sL, hX_sD, hX_sIa, hX_sRa, hV_sI, hV_sR, hV_sL, hV_sD, hV_sIa, hV_sRa, hX_new, hV_new] at o0 o1 o2 ⊢); omega)
  clear hm1
  unfold fJ4_append_cf468_b0 at hf
  refine p_aload_n X (dcg dc_J4_append_cf468 0 rfl) rfl rfl ?_
  refine p_iload_n X (dcg dc_J4_append_cf468 1 rfl) rfl rfl ?_
  obtain ⟨hk1, hf⟩ := gd_some hf
  obtain ⟨z2, hz2, hf⟩ := bd_some hf
  have hc1 := mJ5_append_3fe6f hz2
  have hm1 : lez _ (hX r.2) (hV r.2) := mJ4_append_cf468_b5 hf
  refine p_callW (As := [_]) X ml_J4_50 (dcg dc_J4_append_cf468 2 rfl) rfl rfl hk1 (wJ5_append_3fe6f hG hz2) (by decide) (room4 (Nat.le_of_ble_eq_true rfl)) (by have o0 := hm1.1; have o1 := hc1.1; have o2 := hM; have o3 := hu; (try simp only [hX_sI, hX_sR, hX_sL, hX_sD, hX_sIa, hX_sRa, hV_sI, hV_sR, hV_sL, hV_sD, hV_sIa, hV_sRa, hX_new, hV_new] at o0 o1 o2 o3 ⊢); omega) (by have o0 := hm1.2; have o1 := hc1.2; have o2 := hN; have o3 := hv; (try simp only [hX_sI, hX_sR, hX_sL, hX_sD, hX_sIa, hX_sRa, hV_sI, hV_sR, hV_sL, hV_sD, hV_sIa, hV_sRa, hX_new, hV_new] at o0 o1 o2 o3 ⊢); omega) ?_
  rintro _ u9 ⟨rfl, e9⟩; have e9 := e9.symm; subst e9
  refine p_pick [0] ?_
  exact wJ4_append_cf468_b5 X hG hnm hM hN (by have o0 := hc1.1; have o1 := hu; (try simp only [hX_sI, hX_sR, hX_sL, hX_sD, hX_sIa, hX_sRa, hV_sI, hV_sR, hV_sL, hV_sD, hV_sIa, hV_sRa, hX_new, hV_new] at o0 o1 ⊢); omega) (by have o0 := hc1.2; have o1 := hv; (try simp only [hX_sI, hX_sR, hX_sL, hX_sD, hX_sIa, hX_sRa, hV_sI, hV_sR, hV_sL, hV_sD, hV_sIa, hV_sRa, hX_new, hV_new] at o0 o1 ⊢); omega) hf 
noncomputable def fJ4_append_cf468 (v0 : Nat) (v1 : Int32) (h : PH) : Option (Option Nat × PH) :=
  fJ4_append_cf468_b0 v0 v1 h
set_option maxRecDepth 100000 in
theorem mJ4_append_cf468 {v0 : Nat} {v1 : Int32} {h : PH} {r : (Option Nat × PH)} (hf : fJ4_append_cf468 v0 v1 h = some r) : lez h (hX r.2) (hV r.2) := by
  unfold fJ4_append_cf468 at hf
  have hle := lez_rf h
  exact lez_rt (mJ4_append_cf468_b0 hf) hle
set_option maxRecDepth 100000 in
theorem wJ4_append_cf468 {E : PE} {l : Launch} (hG : Gs E l) {v0 : Nat} {v1 : Int32} {h : PH} {r : (Option Nat × PH)} (hf : fJ4_append_cf468 v0 v1 h = some r) : Ct E l 5 ((hX r.2) - hX h) ((hV r.2) - hV h) yJ4_append_cf468 cJ4_append_cf468 2 (some (.object "java/lang/StringBuilder")) [.ref v0, .int v1] h (fun v u => v = some (va_rf r.1) ∧ u = r.2) := by
  have hmm := mJ4_append_cf468 hf
  refine ct_of hG (by decide) (Nat.le_of_ble_eq_true rfl) ?_
  intro p e s m args below meth c X hnm
  show PW E p l e _ s m args below meth c _ 0 0 _ h 0 [(0, some (.ref v0)), (1, some (.int v1))] []
  unfold fJ4_append_cf468 at hf
  have hM := Nat.sub_add_cancel hmm.1
  have hN := Nat.sub_add_cancel hmm.2
  refine p_pick [0, 1] ?_
  exact wJ4_append_cf468_b0 X hG hnm hM hN (Nat.zero_add _) (Nat.zero_add _) hf
theorem dc_J6_stringSize_0f7a4 : decs cJ6_stringSize_0f7a4 [(0, .iconst 1, 1), (1, .istore_n 1, 1), (2, .iload_n 0, 1), (3, .ifCond .lt 8, 3), (6, .iconst 0, 1), (7, .istore_n 1, 1), (8, .iload_n 0, 1), (9, .ineg, 1), (10, .istore_n 0, 1), (11, .bipush (-10), 2), (13, .istore_n 2, 1), (14, .iconst 1, 1), (15, .istore_n 3, 1), (16, .iload_n 3, 1), (17, .bipush 10, 2), (19, .if_icmp .ge 23, 3), (22, .iload_n 0, 1), (23, .iload_n 2, 1), (24, .if_icmp .le 7, 3), (27, .iload_n 3, 1), (28, .iload_n 1, 1), (29, .iadd, 1), (30, .ireturn, 1), (31, .bipush 10, 2), (33, .iload_n 2, 1), (34, .imul, 1), (35, .istore_n 2, 1), (36, .iinc 3 1, 3), (39, .goto (-23), 3), (42, .bipush 10, 2), (44, .iload_n 1, 1), (45, .iadd, 1), (46, .ireturn, 1)] = true := by decide +kernel
noncomputable def fJ6_stringSize_0f7a4_c16 (v0 : Int32) (v1 : Int32) (v2 : Int32) (v3 : Int32) : Option ((Int32 × Int32) ⊕ Int32) :=
  if ((10 : Int32) ≤ v3) then (mr (some (((10 : Int32) + v1)))) else
  if (v0 ≤ v2) then (some (.inl (((10 : Int32) * v2), (v3 + 1)))) else
  mr (some ((v3 + v1)))
set_option maxRecDepth 100000 in
theorem wJ6_stringSize_0f7a4_c16 {E : PE} {p : Program} {l : Launch} {e : Env} {s : State} {m : MethodId} {args : Array Value} {below : List Frame} {meth : Method} {c : Code} (X : Cx E p l e (rmv 0 0 0) s m args below meth c RJ6 cJ6_stringSize_0f7a4 4 (some .int)) (hG : Gs E l) (hnm : meth.name = yJ6_stringSize_0f7a4.name) {v0 : Int32} {v1 : Int32} {v2 : Int32} {v3 : Int32} {h : PH} {r : Int32} {x : ((Int32 × Int32) ⊕ Int32)} (hf : fJ6_stringSize_0f7a4_c16 v0 v1 v2 v3 = some x) (k0 : ∀ z : (Int32 × Int32), x = .inl z → PW E p l e (rmv 0 0 0) s m args below meth c 4 0 0 (MQ below (QG E (fun v u => v = some (.int r) ∧ u = h)) args s 0 0 (pA E)) h 16 [(0, some (.int v0)), (1, some (.int v1)), (2, some (.int (z.1))), (3, some (.int (z.2)))] []) (kf : ∀ z : Int32, x = .inr z → z = r) : PW E p l e (rmv 0 0 0) s m args below meth c 4 0 0 (MQ below (QG E (fun v u => v = some (.int r) ∧ u = h)) args s 0 0 (pA E)) h 16 [(0, some (.int v0)), (1, some (.int v1)), (2, some (.int v2)), (3, some (.int v3))] [] := by
  unfold fJ6_stringSize_0f7a4_c16 at hf
  refine p_iload_n X (dcg dc_J6_stringSize_0f7a4 13 rfl) rfl rfl ?_
  refine p_bipush (v := 10) X (dcg dc_J6_stringSize_0f7a4 14 rfl) (by decide) ?_
  refine p_icmp_ge (tgt := 42) X (dcg dc_J6_stringSize_0f7a4 15 rfl) (by decide) (fun q => ?_) (fun q => ?_)
  · have hf := if_t q hf
    obtain ⟨y1, hf, hy2⟩ := mr_some hf
    have hy2f := kf y1 hy2
    subst hy2f
    refine p_bipush (v := 10) X (dcg dc_J6_stringSize_0f7a4 29 rfl) (by decide) ?_
    refine p_iload_n X (dcg dc_J6_stringSize_0f7a4 30 rfl) rfl rfl ?_
    refine p_iadd X (dcg dc_J6_stringSize_0f7a4 31 rfl) ?_
    have er := Option.some.inj hf
    subst er
    exact p_iret X rfl (dcg dc_J6_stringSize_0f7a4 32 rfl) ⟨rfl, rfl⟩ (Nat.le_refl _) (Nat.le_refl _)
  · have hf := if_f q hf
    refine p_iload_n X (dcg dc_J6_stringSize_0f7a4 16 rfl) rfl rfl ?_
    refine p_iload_n X (dcg dc_J6_stringSize_0f7a4 17 rfl) rfl rfl ?_
    refine p_icmp_le (tgt := 31) X (dcg dc_J6_stringSize_0f7a4 18 rfl) (by decide) (fun q => ?_) (fun q => ?_)
    · have hf := if_t q hf
      refine p_bipush (v := 10) X (dcg dc_J6_stringSize_0f7a4 23 rfl) (by decide) ?_
      refine p_iload_n X (dcg dc_J6_stringSize_0f7a4 24 rfl) rfl rfl ?_
      refine p_imul X (dcg dc_J6_stringSize_0f7a4 25 rfl) ?_
      refine p_istore_n X (dcg dc_J6_stringSize_0f7a4 26 rfl) rfl (by decide) rfl ?_
      refine p_iinc (v := 1) X (dcg dc_J6_stringSize_0f7a4 27 rfl) rfl (by decide) (by decide) rfl ?_
      refine p_goto (tgt := 16) X (dcg dc_J6_stringSize_0f7a4 28 rfl) (by decide) ?_
      refine p_pick [0, 1, 2, 3] ?_
      exact k0 _ (Option.some.inj hf).symm
    · have hf := if_f q hf
      obtain ⟨y3, hf, hy4⟩ := mr_some hf
      have hy4f := kf y3 hy4
      subst hy4f
      refine p_iload_n X (dcg dc_J6_stringSize_0f7a4 19 rfl) rfl rfl ?_
      refine p_iload_n X (dcg dc_J6_stringSize_0f7a4 20 rfl) rfl rfl ?_
      refine p_iadd X (dcg dc_J6_stringSize_0f7a4 21 rfl) ?_
      have er := Option.some.inj hf
      subst er
      exact p_iret X rfl (dcg dc_J6_stringSize_0f7a4 22 rfl) ⟨rfl, rfl⟩ (Nat.le_refl _) (Nat.le_refl _)
noncomputable def fJ6_stringSize_0f7a4_l16 (v0 : Int32) (v1 : Int32) (v2 : Int32) (v3 : Int32) : Option Int32 := wh (fun z : (Int32 × Int32) => fJ6_stringSize_0f7a4_c16 v0 v1 (z.1) (z.2)) (v2, v3)
set_option maxRecDepth 100000 in
theorem wJ6_stringSize_0f7a4_l16 {E : PE} {p : Program} {l : Launch} {e : Env} {s : State} {m : MethodId} {args : Array Value} {below : List Frame} {meth : Method} {c : Code} (X : Cx E p l e (rmv 0 0 0) s m args below meth c RJ6 cJ6_stringSize_0f7a4 4 (some .int)) (hG : Gs E l) (hnm : meth.name = yJ6_stringSize_0f7a4.name) {v0 : Int32} {v1 : Int32} {v2 : Int32} {v3 : Int32} {h : PH} {r : Int32} (hf : fJ6_stringSize_0f7a4_l16 v0 v1 v2 v3 = some r)  : PW E p l e (rmv 0 0 0) s m args below meth c 4 0 0 (MQ below (QG E (fun v u => v = some (.int r) ∧ u = h)) args s 0 0 (pA E)) h 16 [(0, some (.int v0)), (1, some (.int v1)), (2, some (.int v2)), (3, some (.int v3))] [] := by
  unfold fJ6_stringSize_0f7a4_l16 at hf
  refine wh_ind (P := fun z => PW E p l e (rmv 0 0 0) s m args below meth c 4 0 0 (MQ below (QG E (fun v u => v = some (.int r) ∧ u = h)) args s 0 0 (pA E)) h 16 [(0, some (.int v0)), (1, some (.int v1)), (2, some (.int (z.1))), (3, some (.int (z.2)))] []) (fun z x0 hs i1 i2 => ?_) _ hf
  exact wJ6_stringSize_0f7a4_c16 (r := r) (v0 := v0) (v1 := v1) (v2 := z.1) (v3 := z.2) (h := h) X hG hnm hs i1  i2
noncomputable def fJ6_stringSize_0f7a4_b11 (v0 : Int32) (v1 : Int32) : Option Int32 :=
  fJ6_stringSize_0f7a4_l16 v0 v1 (-10 : Int32) (1 : Int32)
set_option maxRecDepth 100000 in
theorem wJ6_stringSize_0f7a4_b11 {E : PE} {p : Program} {l : Launch} {e : Env} {s : State} {m : MethodId} {args : Array Value} {below : List Frame} {meth : Method} {c : Code} (X : Cx E p l e (rmv 0 0 0) s m args below meth c RJ6 cJ6_stringSize_0f7a4 4 (some .int)) (hG : Gs E l) (hnm : meth.name = yJ6_stringSize_0f7a4.name) {v0 : Int32} {v1 : Int32} {h : PH} {r : Int32} (hf : fJ6_stringSize_0f7a4_b11 v0 v1 = some r)  : PW E p l e (rmv 0 0 0) s m args below meth c 4 0 0 (MQ below (QG E (fun v u => v = some (.int r) ∧ u = h)) args s 0 0 (pA E)) h 11 [(0, some (.int v0)), (1, some (.int v1))] [] := by
  unfold fJ6_stringSize_0f7a4_b11 at hf
  refine p_bipush (v := -10) X (dcg dc_J6_stringSize_0f7a4 9 rfl) (by decide) ?_
  refine p_istore_n X (dcg dc_J6_stringSize_0f7a4 10 rfl) rfl (by decide) rfl ?_
  refine p_iconst (v := 1) X (dcg dc_J6_stringSize_0f7a4 11 rfl) (by decide) ?_
  refine p_istore_n X (dcg dc_J6_stringSize_0f7a4 12 rfl) rfl (by decide) rfl ?_
  refine p_pick [0, 1, 2, 3] ?_
  exact wJ6_stringSize_0f7a4_l16 X hG hnm hf 
noncomputable def fJ6_stringSize_0f7a4 (v0 : Int32) : Option Int32 :=
  if (v0 < 0) then (fJ6_stringSize_0f7a4_b11 v0 (1 : Int32)) else
  fJ6_stringSize_0f7a4_b11 ((-v0)) (0 : Int32)
set_option maxRecDepth 100000 in
theorem wJ6_stringSize_0f7a4 {E : PE} {l : Launch} (hG : Gs E l) {v0 : Int32} {h : PH} {r : Int32} (hf : fJ6_stringSize_0f7a4 v0 = some r) : Ct E l 0 0 0 yJ6_stringSize_0f7a4 cJ6_stringSize_0f7a4 4 (some .int) [.int v0] h (fun v u => v = some (.int r) ∧ u = h) := by
  refine ct_of hG (by decide) (Nat.le_of_ble_eq_true rfl) ?_
  intro p e s m args below meth c X hnm
  show PW E p l e _ s m args below meth c _ 0 0 _ h 0 [(0, some (.int v0))] []
  unfold fJ6_stringSize_0f7a4 at hf
  refine p_iconst (v := 1) X (dcg dc_J6_stringSize_0f7a4 0 rfl) (by decide) ?_
  refine p_istore_n X (dcg dc_J6_stringSize_0f7a4 1 rfl) rfl (by decide) rfl ?_
  refine p_iload_n X (dcg dc_J6_stringSize_0f7a4 2 rfl) rfl rfl ?_
  refine p_if_lt (tgt := 11) X (dcg dc_J6_stringSize_0f7a4 3 rfl) (by decide) (fun q => ?_) (fun q => ?_)
  · have hf := if_t q hf
    refine p_pick [0, 1] ?_
    exact wJ6_stringSize_0f7a4_b11 X hG hnm hf 
  · have hf := if_f q hf
    refine p_iconst (v := 0) X (dcg dc_J6_stringSize_0f7a4 4 rfl) (by decide) ?_
    refine p_istore_n X (dcg dc_J6_stringSize_0f7a4 5 rfl) rfl (by decide) rfl ?_
    refine p_iload_n X (dcg dc_J6_stringSize_0f7a4 6 rfl) rfl rfl ?_
    refine p_ineg X (dcg dc_J6_stringSize_0f7a4 7 rfl) ?_
    refine p_istore_n X (dcg dc_J6_stringSize_0f7a4 8 rfl) rfl (by decide) rfl ?_
    refine p_pick [0, 1] ?_
    exact wJ6_stringSize_0f7a4_b11 X hG hnm hf 
theorem dc_J6_getChars_ba4f3 : decs cJ6_getChars_ba4f3 [(0, .iload_n 1, 1), (1, .istore 5, 2), (3, .iload_n 0, 1), (4, .ifCond .ge 7, 3), (7, .iconst 1, 1), (8, .goto 4, 3), (11, .iconst 0, 1), (12, .istore 6, 2), (14, .iload 6, 2), (16, .ifCond .ne 6, 3), (19, .iload_n 0, 1), (20, .ineg, 1), (21, .istore_n 0, 1), (22, .iload_n 0, 1), (23, .bipush (-100), 2), (25, .if_icmp .gt 47, 3), (28, .iload_n 0, 1), (29, .bipush 100, 2), (31, .idiv, 1), (32, .istore_n 3, 1), (33, .iload_n 3, 1), (34, .bipush 100, 2), (36, .imul, 1), (37, .iload_n 0, 1), (38, .isub, 1), (39, .istore 4, 2), (41, .iload_n 3, 1), (42, .istore_n 0, 1), (43, .aload_n 2, 1), (44, .iinc 5 (-1), 3), (47, .iload 5, 2), (49, .getstatic 83, 3), (52, .iload 4, 2), (54, .baload, 1), (55, .bastore, 1), (56, .aload_n 2, 1), (57, .iinc 5 (-1), 3), (60, .iload 5, 2), (62, .getstatic 87, 3), (65, .iload 4, 2), (67, .baload, 1), (68, .bastore, 1), (69, .goto (-47), 3), (72, .aload_n 2, 1), (73, .iinc 5 (-1), 3), (76, .iload 5, 2), (78, .getstatic 83, 3), (81, .iload_n 0, 1), (82, .ineg, 1), (83, .baload, 1), (84, .bastore, 1), (85, .iload_n 0, 1), (86, .bipush (-9), 2), (88, .if_icmp .ge 16, 3), (91, .aload_n 2, 1), (92, .iinc 5 (-1), 3), (95, .iload 5, 2), (97, .getstatic 87, 3), (100, .iload_n 0, 1), (101, .ineg, 1), (102, .baload, 1), (103, .bastore, 1), (104, .iload 6, 2), (106, .ifCond .eq 12, 3), (109, .aload_n 2, 1), (110, .iinc 5 (-1), 3), (113, .iload 5, 2), (115, .bipush 45, 2), (117, .bastore, 1), (118, .iload 5, 2), (120, .ireturn, 1)] = true := by decide +kernel
noncomputable def fJ6_getChars_ba4f3_b118 (v5 : Int32) (h : PH) : Option (Int32 × PH) :=
  some ((v5, h))
set_option maxRecDepth 100000 in
theorem mJ6_getChars_ba4f3_b118 {v5 : Int32} {h : PH} {r : (Int32 × PH)} (hf : fJ6_getChars_ba4f3_b118 v5 h = some r) : eqz h (hX r.2) (hV r.2) := by
  unfold fJ6_getChars_ba4f3_b118 at hf
  have hle := eqz_rf h
  have ee := Option.some.inj hf; subst ee; exact hle
set_option maxRecDepth 100000 in
theorem wJ6_getChars_ba4f3_b118 {E : PE} {p : Program} {l : Launch} {e : Env} {s : State} {m : MethodId} {args : Array Value} {below : List Frame} {meth : Method} {c : Code} (X : Cx E p l e (rmv 0 0 0) s m args below meth c RJ6 cJ6_getChars_ba4f3 7 (some .int)) (hG : Gs E l) (hnm : meth.name = yJ6_getChars_ba4f3.name) {v5 : Int32} {h : PH} {r : (Int32 × PH)} (hf : fJ6_getChars_ba4f3_b118 v5 h = some r)  : PW E p l e (rmv 0 0 0) s m args below meth c 7 0 0 (MQ below (QG E (fun v u => v = some (.int r.1) ∧ u = r.2)) args s 0 0 (pA E)) h 118 [(5, some (.int v5))] [] := by
  unfold fJ6_getChars_ba4f3_b118 at hf
  refine p_iload X (dcg dc_J6_getChars_ba4f3 69 rfl) rfl ?_
  have er := Option.some.inj hf
  subst er
  exact p_iret X rfl (dcg dc_J6_getChars_ba4f3 70 rfl) ⟨rfl, rfl⟩ (Nat.le_refl _) (Nat.le_refl _)
noncomputable def fJ6_getChars_ba4f3_b104 (v2 : Option Nat) (v5 : Int32) (v6 : Int32) (h : PH) : Option (Int32 × PH) :=
  if (v6 = 0) then (fJ6_getChars_ba4f3_b118 v5 h) else
  gs v2 (fun a9 =>
  gd (hK h a9 = 22 ∧ inb (v5 + (-1)) (hN h a9)) (lt (sI h 22 a9 (Int32.toNatClampNeg (v5 + (-1))) (Int32.toInt8 (45 : Int32)).toInt32) (fun h13 =>
  fJ6_getChars_ba4f3_b118 (v5 + (-1)) h13)))
set_option maxRecDepth 100000 in
theorem mJ6_getChars_ba4f3_b104 {v2 : Option Nat} {v5 : Int32} {v6 : Int32} {h : PH} {r : (Int32 × PH)} (hf : fJ6_getChars_ba4f3_b104 v2 v5 v6 h = some r) : eqz h (hX r.2) (hV r.2) := by
  unfold fJ6_getChars_ba4f3_b104 at hf
  have hle := eqz_rf h
  rcases ite_or hf with ⟨q, hf⟩ | ⟨q, hf⟩
  · have hf := if_t q hf
    exact eqz_rt (mJ6_getChars_ba4f3_b118 hf) hle
  · have hf := if_f q hf
    obtain ⟨a9, e10, hf⟩ := gs_some hf
    obtain ⟨⟨hk12, hb11⟩, hf⟩ := gd_some hf
    obtain ⟨h13, rfl, hf⟩ := lt_some hf
    exact eqz_rt (mJ6_getChars_ba4f3_b118 hf) hle
set_option maxRecDepth 100000 in
theorem wJ6_getChars_ba4f3_b104 {E : PE} {p : Program} {l : Launch} {e : Env} {s : State} {m : MethodId} {args : Array Value} {below : List Frame} {meth : Method} {c : Code} (X : Cx E p l e (rmv 0 0 0) s m args below meth c RJ6 cJ6_getChars_ba4f3 7 (some .int)) (hG : Gs E l) (hnm : meth.name = yJ6_getChars_ba4f3.name) {v2 : Option Nat} {v5 : Int32} {v6 : Int32} {h : PH} {r : (Int32 × PH)} (hf : fJ6_getChars_ba4f3_b104 v2 v5 v6 h = some r)  : PW E p l e (rmv 0 0 0) s m args below meth c 7 0 0 (MQ below (QG E (fun v u => v = some (.int r.1) ∧ u = r.2)) args s 0 0 (pA E)) h 104 [(2, some (va_rf v2)), (5, some (.int v5)), (6, some (.int v6))] [] := by
  unfold fJ6_getChars_ba4f3_b104 at hf
  refine p_iload X (dcg dc_J6_getChars_ba4f3 62 rfl) rfl ?_
  refine p_if_eq (tgt := 118) X (dcg dc_J6_getChars_ba4f3 63 rfl) (by decide) (fun q => ?_) (fun q => ?_)
  · have hf := if_t q hf
    refine p_pick [5] ?_
    exact wJ6_getChars_ba4f3_b118 X hG hnm hf 
  · have hf := if_f q hf
    refine p_aloadq_n X (dcg dc_J6_getChars_ba4f3 64 rfl) rfl rfl ?_
    refine p_iinc (v := -1) X (dcg dc_J6_getChars_ba4f3 65 rfl) rfl (by decide) (by decide) rfl ?_
    refine p_iload X (dcg dc_J6_getChars_ba4f3 66 rfl) rfl ?_
    refine p_bipush (v := 45) X (dcg dc_J6_getChars_ba4f3 67 rfl) (by decide) ?_
    obtain ⟨a9, e10, hf⟩ := gs_some hf
    first | subst e10 | (try rw [e10])
    obtain ⟨⟨hk12, hb11⟩, hf⟩ := gd_some hf
    refine p_bast X (dcg dc_J6_getChars_ba4f3 68 rfl) hk12 (vp_of_inb hb11) ?_
    obtain ⟨h13, rfl, hf⟩ := lt_some hf
    refine p_pick [5] ?_
    exact wJ6_getChars_ba4f3_b118 X hG hnm hf 
noncomputable def fJ6_getChars_ba4f3_c22 (v0 : Int32) (v2 : Option Nat) (v5 : Int32) (v6 : Int32) (h : PH) : Option ((Int32 × Int32 × PH) ⊕ (Int32 × PH)) :=
  if ((-100 : Int32) < v0) then (mr (gd (inb ((-v0)) 100) (gs v2 (fun a4 =>
  gd (hK h a4 = 22 ∧ inb (v5 + (-1)) (hN h a4)) (lt (sI h 22 a4 (Int32.toNatClampNeg (v5 + (-1))) (Int32.toInt8 (nI (48 + (Int32.toNatClampNeg ((-v0))) % 10))).toInt32) (fun h8 =>
  if ((-9 : Int32) ≤ v0) then (fJ6_getChars_ba4f3_b104 (some a4) (v5 + (-1)) v6 h8) else
  gd (inb ((-v0)) 100) (gd (inb ((v5 + (-1)) + (-1)) (hN h8 a4)) (lt (sI h8 22 a4 (Int32.toNatClampNeg ((v5 + (-1)) + (-1))) (Int32.toInt8 (nI (48 + (Int32.toNatClampNeg ((-v0))) / 10))).toInt32) (fun h16 =>
  fJ6_getChars_ba4f3_b104 (some a4) ((v5 + (-1)) + (-1)) v6 h16))))))))) else
  gd (inb (((v0 / (100 : Int32)) * (100 : Int32)) - v0) 100) (gs v2 (fun a18 =>
  gd (hK h a18 = 22 ∧ inb (v5 + (-1)) (hN h a18)) (lt (sI h 22 a18 (Int32.toNatClampNeg (v5 + (-1))) (Int32.toInt8 (nI (48 + (Int32.toNatClampNeg (((v0 / (100 : Int32)) * (100 : Int32)) - v0)) % 10))).toInt32) (fun h22 =>
  gd (inb (((v0 / (100 : Int32)) * (100 : Int32)) - v0) 100) (gd (inb ((v5 + (-1)) + (-1)) (hN h22 a18)) (lt (sI h22 22 a18 (Int32.toNatClampNeg ((v5 + (-1)) + (-1))) (Int32.toInt8 (nI (48 + (Int32.toNatClampNeg (((v0 / (100 : Int32)) * (100 : Int32)) - v0)) / 10))).toInt32) (fun h25 =>
  some (.inl ((v0 / (100 : Int32)), ((v5 + (-1)) + (-1)), h25)))))))))
set_option maxRecDepth 100000 in
theorem mJ6_getChars_ba4f3_c22 {v0 : Int32} {v2 : Option Nat} {v5 : Int32} {v6 : Int32} {h : PH} {x : ((Int32 × Int32 × PH) ⊕ (Int32 × PH))} (hf : fJ6_getChars_ba4f3_c22 v0 v2 v5 v6 h = some x) : (∀ w9 : (Int32 × Int32 × PH), x = .inl w9 → eqz h (hX (w9.2.2)) (hV (w9.2.2))) ∧ (∀ w9 : (Int32 × PH), x = .inr w9 → eqz h (hX w9.2) (hV w9.2)) := by
  unfold fJ6_getChars_ba4f3_c22 at hf
  have hle := eqz_rf h
  rcases ite_or hf with ⟨q, hf⟩ | ⟨q, hf⟩
  · have hf := if_t q hf
    obtain ⟨y1, hfm, rfl⟩ := mr_some hf; have hf := hfm; clear hfm
    obtain ⟨hg3, hf⟩ := gd_some hf
    obtain ⟨a4, e5, hf⟩ := gs_some hf
    obtain ⟨⟨hk7, hb6⟩, hf⟩ := gd_some hf
    obtain ⟨h8, rfl, hf⟩ := lt_some hf
    rcases ite_or hf with ⟨q, hf⟩ | ⟨q, hf⟩
    · have hf := if_t q hf
      have cf := mJ6_getChars_ba4f3_b104 hf
      exact ⟨(fun z e => nomatch e), (fun z e => by cases e <;> exact eqz_rt cf hle)⟩
    · have hf := if_f q hf
      obtain ⟨hg14, hf⟩ := gd_some hf
      obtain ⟨hb15, hf⟩ := gd_some hf
      obtain ⟨h16, rfl, hf⟩ := lt_some hf
      have cf := mJ6_getChars_ba4f3_b104 hf
      exact ⟨(fun z e => nomatch e), (fun z e => by cases e <;> exact eqz_rt cf hle)⟩
  · have hf := if_f q hf
    obtain ⟨hg17, hf⟩ := gd_some hf
    obtain ⟨a18, e19, hf⟩ := gs_some hf
    obtain ⟨⟨hk21, hb20⟩, hf⟩ := gd_some hf
    obtain ⟨h22, rfl, hf⟩ := lt_some hf
    obtain ⟨hg23, hf⟩ := gd_some hf
    obtain ⟨hb24, hf⟩ := gd_some hf
    obtain ⟨h25, rfl, hf⟩ := lt_some hf
    have ee := Option.some.inj hf; subst ee
    exact ⟨(fun z e => by have ee := Sum.inl.inj (e); subst ee; exact hle), (fun z e => nomatch e)⟩
set_option maxRecDepth 100000 in
theorem wJ6_getChars_ba4f3_c22 {E : PE} {p : Program} {l : Launch} {e : Env} {s : State} {m : MethodId} {args : Array Value} {below : List Frame} {meth : Method} {c : Code} (X : Cx E p l e (rmv 0 0 0) s m args below meth c RJ6 cJ6_getChars_ba4f3 7 (some .int)) (hG : Gs E l) (hnm : meth.name = yJ6_getChars_ba4f3.name) {v0 : Int32} {v2 : Option Nat} {v5 : Int32} {v6 : Int32} {h : PH} {r : (Int32 × PH)} {x : ((Int32 × Int32 × PH) ⊕ (Int32 × PH))} (hf : fJ6_getChars_ba4f3_c22 v0 v2 v5 v6 h = some x) (k0 : ∀ z : (Int32 × Int32 × PH), x = .inl z → PW E p l e (rmv 0 0 0) s m args below meth c 7 0 0 (MQ below (QG E (fun v u => v = some (.int r.1) ∧ u = r.2)) args s 0 0 (pA E)) (z.2.2) 22 [(0, some (.int (z.1))), (2, some (va_rf v2)), (5, some (.int (z.2.1))), (6, some (.int v6))] []) (kf : ∀ z : (Int32 × PH), x = .inr z → z = r) : PW E p l e (rmv 0 0 0) s m args below meth c 7 0 0 (MQ below (QG E (fun v u => v = some (.int r.1) ∧ u = r.2)) args s 0 0 (pA E)) h 22 [(0, some (.int v0)), (2, some (va_rf v2)), (5, some (.int v5)), (6, some (.int v6))] [] := by
  unfold fJ6_getChars_ba4f3_c22 at hf
  refine p_iload_n X (dcg dc_J6_getChars_ba4f3 13 rfl) rfl rfl ?_
  refine p_bipush (v := -100) X (dcg dc_J6_getChars_ba4f3 14 rfl) (by decide) ?_
  refine p_icmp_gt (tgt := 72) X (dcg dc_J6_getChars_ba4f3 15 rfl) (by decide) (fun q => ?_) (fun q => ?_)
  · have hf := if_t q hf
    obtain ⟨y1, hf, hy2⟩ := mr_some hf
    have hy2f := kf y1 hy2
    subst hy2f
    refine p_aloadq_n X (dcg dc_J6_getChars_ba4f3 43 rfl) rfl rfl ?_
    refine p_iinc (v := -1) X (dcg dc_J6_getChars_ba4f3 44 rfl) rfl (by decide) (by decide) rfl ?_
    refine p_iload X (dcg dc_J6_getChars_ba4f3 45 rfl) rfl ?_
    refine p_gets (v := .ref 4) X (gz_ones hG) tw_717 (dcg dc_J6_getChars_ba4f3 46 rfl) ?_
    refine p_iload_n X (dcg dc_J6_getChars_ba4f3 47 rfl) rfl rfl ?_
    refine p_ineg X (dcg dc_J6_getChars_ba4f3 48 rfl) ?_
    obtain ⟨hg3, hf⟩ := gd_some hf
    refine p_ones X (dcg dc_J6_getChars_ba4f3 49 rfl) (vp_of_inb hg3) ?_
    obtain ⟨a4, e5, hf⟩ := gs_some hf
    first | subst e5 | (try rw [e5])
    obtain ⟨⟨hk7, hb6⟩, hf⟩ := gd_some hf
    refine p_bast X (dcg dc_J6_getChars_ba4f3 50 rfl) hk7 (vp_of_inb hb6) ?_
    obtain ⟨h8, rfl, hf⟩ := lt_some hf
    refine p_iload_n X (dcg dc_J6_getChars_ba4f3 51 rfl) rfl rfl ?_
    refine p_bipush (v := -9) X (dcg dc_J6_getChars_ba4f3 52 rfl) (by decide) ?_
    refine p_icmp_ge (tgt := 104) X (dcg dc_J6_getChars_ba4f3 53 rfl) (by decide) (fun q => ?_) (fun q => ?_)
    · have hf := if_t q hf
      refine p_pick [2, 5, 6] ?_
      exact wJ6_getChars_ba4f3_b104 X hG hnm hf 
    · have hf := if_f q hf
      refine p_aload_n X (dcg dc_J6_getChars_ba4f3 54 rfl) rfl rfl ?_
      refine p_iinc (v := -1) X (dcg dc_J6_getChars_ba4f3 55 rfl) rfl (by decide) (by decide) rfl ?_
      refine p_iload X (dcg dc_J6_getChars_ba4f3 56 rfl) rfl ?_
      refine p_gets (v := .ref 5) X (gz_tens hG) tw_719 (dcg dc_J6_getChars_ba4f3 57 rfl) ?_
      refine p_iload_n X (dcg dc_J6_getChars_ba4f3 58 rfl) rfl rfl ?_
      refine p_ineg X (dcg dc_J6_getChars_ba4f3 59 rfl) ?_
      obtain ⟨hg14, hf⟩ := gd_some hf
      refine p_tens X (dcg dc_J6_getChars_ba4f3 60 rfl) (vp_of_inb hg14) ?_
      obtain ⟨hb15, hf⟩ := gd_some hf
      refine p_bast X (dcg dc_J6_getChars_ba4f3 61 rfl) hk7 (vp_of_inb hb15) ?_
      obtain ⟨h16, rfl, hf⟩ := lt_some hf
      refine p_pick [2, 5, 6] ?_
      exact wJ6_getChars_ba4f3_b104 X hG hnm hf 
  · have hf := if_f q hf
    refine p_iload_n X (dcg dc_J6_getChars_ba4f3 16 rfl) rfl rfl ?_
    refine p_bipush (v := 100) X (dcg dc_J6_getChars_ba4f3 17 rfl) (by decide) ?_
    refine p_idiv X (dcg dc_J6_getChars_ba4f3 18 rfl) (by decide) ?_
    refine p_istore_n X (dcg dc_J6_getChars_ba4f3 19 rfl) rfl (by decide) (nwq (k := 2) rfl) ?_
    refine p_iload_n X (dcg dc_J6_getChars_ba4f3 20 rfl) rfl rfl ?_
    refine p_bipush (v := 100) X (dcg dc_J6_getChars_ba4f3 21 rfl) (by decide) ?_
    refine p_imul X (dcg dc_J6_getChars_ba4f3 22 rfl) ?_
    refine p_iload_n X (dcg dc_J6_getChars_ba4f3 23 rfl) rfl rfl ?_
    refine p_isub X (dcg dc_J6_getChars_ba4f3 24 rfl) ?_
    refine p_istore X (dcg dc_J6_getChars_ba4f3 25 rfl) (by decide) rfl ?_
    refine p_iload_n X (dcg dc_J6_getChars_ba4f3 26 rfl) rfl rfl ?_
    refine p_istore_n X (dcg dc_J6_getChars_ba4f3 27 rfl) rfl (by decide) rfl ?_
    refine p_aloadq_n X (dcg dc_J6_getChars_ba4f3 28 rfl) rfl rfl ?_
    refine p_iinc (v := -1) X (dcg dc_J6_getChars_ba4f3 29 rfl) rfl (by decide) (by decide) rfl ?_
    refine p_iload X (dcg dc_J6_getChars_ba4f3 30 rfl) rfl ?_
    refine p_gets (v := .ref 4) X (gz_ones hG) tw_717 (dcg dc_J6_getChars_ba4f3 31 rfl) ?_
    refine p_iload X (dcg dc_J6_getChars_ba4f3 32 rfl) rfl ?_
    obtain ⟨hg17, hf⟩ := gd_some hf
    refine p_ones X (dcg dc_J6_getChars_ba4f3 33 rfl) (vp_of_inb hg17) ?_
    obtain ⟨a18, e19, hf⟩ := gs_some hf
    first | subst e19 | (try rw [e19])
    obtain ⟨⟨hk21, hb20⟩, hf⟩ := gd_some hf
    refine p_bast X (dcg dc_J6_getChars_ba4f3 34 rfl) hk21 (vp_of_inb hb20) ?_
    obtain ⟨h22, rfl, hf⟩ := lt_some hf
    refine p_aload_n X (dcg dc_J6_getChars_ba4f3 35 rfl) rfl rfl ?_
    refine p_iinc (v := -1) X (dcg dc_J6_getChars_ba4f3 36 rfl) rfl (by decide) (by decide) rfl ?_
    refine p_iload X (dcg dc_J6_getChars_ba4f3 37 rfl) rfl ?_
    refine p_gets (v := .ref 5) X (gz_tens hG) tw_719 (dcg dc_J6_getChars_ba4f3 38 rfl) ?_
    refine p_iload X (dcg dc_J6_getChars_ba4f3 39 rfl) rfl ?_
    obtain ⟨hg23, hf⟩ := gd_some hf
    refine p_tens X (dcg dc_J6_getChars_ba4f3 40 rfl) (vp_of_inb hg23) ?_
    obtain ⟨hb24, hf⟩ := gd_some hf
    refine p_bast X (dcg dc_J6_getChars_ba4f3 41 rfl) hk21 (vp_of_inb hb24) ?_
    obtain ⟨h25, rfl, hf⟩ := lt_some hf
    refine p_goto (tgt := 22) X (dcg dc_J6_getChars_ba4f3 42 rfl) (by decide) ?_
    refine p_pick [0, 2, 5, 6] ?_
    exact k0 _ (Option.some.inj hf).symm
noncomputable def fJ6_getChars_ba4f3_l22 (v0 : Int32) (v2 : Option Nat) (v5 : Int32) (v6 : Int32) (h : PH) : Option (Int32 × PH) := wh (fun z : (Int32 × Int32 × PH) => fJ6_getChars_ba4f3_c22 (z.1) v2 (z.2.1) v6 (z.2.2)) (v0, v5, h)
set_option maxRecDepth 100000 in
theorem mJ6_getChars_ba4f3_l22 {v0 : Int32} {v2 : Option Nat} {v5 : Int32} {v6 : Int32} {h : PH} {r : (Int32 × PH)} (hf : fJ6_getChars_ba4f3_l22 v0 v2 v5 v6 h = some r) : eqz h (hX r.2) (hV r.2) := by
  unfold fJ6_getChars_ba4f3_l22 at hf
  refine wh_ind (P := fun z => eqz (z.2.2) (hX r.2) (hV r.2)) (fun z x0 hs i1 i2 => ?_) _ hf
  obtain ⟨c0, cf⟩ := mJ6_getChars_ba4f3_c22 (v0 := z.1) (v2 := v2) (v5 := z.2.1) (v6 := v6) (h := z.2.2) hs
  rcases hxx : x0 with zz | zz
  · exact eqz_tr (c0 zz hxx) (i1 zz hxx)
  · have ee := i2 zz hxx; subst ee; exact cf zz hxx
set_option maxRecDepth 100000 in
theorem wJ6_getChars_ba4f3_l22 {E : PE} {p : Program} {l : Launch} {e : Env} {s : State} {m : MethodId} {args : Array Value} {below : List Frame} {meth : Method} {c : Code} (X : Cx E p l e (rmv 0 0 0) s m args below meth c RJ6 cJ6_getChars_ba4f3 7 (some .int)) (hG : Gs E l) (hnm : meth.name = yJ6_getChars_ba4f3.name) {v0 : Int32} {v2 : Option Nat} {v5 : Int32} {v6 : Int32} {h : PH} {r : (Int32 × PH)} (hf : fJ6_getChars_ba4f3_l22 v0 v2 v5 v6 h = some r)  : PW E p l e (rmv 0 0 0) s m args below meth c 7 0 0 (MQ below (QG E (fun v u => v = some (.int r.1) ∧ u = r.2)) args s 0 0 (pA E)) h 22 [(0, some (.int v0)), (2, some (va_rf v2)), (5, some (.int v5)), (6, some (.int v6))] [] := by
  unfold fJ6_getChars_ba4f3_l22 at hf
  refine wh_ind (P := fun z => PW E p l e (rmv 0 0 0) s m args below meth c 7 0 0 (MQ below (QG E (fun v u => v = some (.int r.1) ∧ u = r.2)) args s 0 0 (pA E)) (z.2.2) 22 [(0, some (.int (z.1))), (2, some (va_rf v2)), (5, some (.int (z.2.1))), (6, some (.int v6))] []) (fun z x0 hs i1 i2 => ?_) _ hf
  exact wJ6_getChars_ba4f3_c22 (r := r) (v0 := z.1) (v2 := v2) (v5 := z.2.1) (v6 := v6) (h := z.2.2) X hG hnm hs i1  i2
noncomputable def fJ6_getChars_ba4f3_b12 (v0 : Int32) (v2 : Option Nat) (v5 : Int32) (t0 : Int32) (h : PH) : Option (Int32 × PH) :=
  if (¬ t0 = 0) then (fJ6_getChars_ba4f3_l22 v0 v2 v5 t0 h) else
  fJ6_getChars_ba4f3_l22 ((-v0)) v2 v5 t0 h
set_option maxRecDepth 100000 in
theorem mJ6_getChars_ba4f3_b12 {v0 : Int32} {v2 : Option Nat} {v5 : Int32} {t0 : Int32} {h : PH} {r : (Int32 × PH)} (hf : fJ6_getChars_ba4f3_b12 v0 v2 v5 t0 h = some r) : eqz h (hX r.2) (hV r.2) := by
  unfold fJ6_getChars_ba4f3_b12 at hf
  have hle := eqz_rf h
  rcases ite_or hf with ⟨q, hf⟩ | ⟨q, hf⟩
  · have hf := if_t q hf
    exact eqz_rt (mJ6_getChars_ba4f3_l22 hf) hle
  · have hf := if_f q hf
    exact eqz_rt (mJ6_getChars_ba4f3_l22 hf) hle
set_option maxRecDepth 100000 in
theorem wJ6_getChars_ba4f3_b12 {E : PE} {p : Program} {l : Launch} {e : Env} {s : State} {m : MethodId} {args : Array Value} {below : List Frame} {meth : Method} {c : Code} (X : Cx E p l e (rmv 0 0 0) s m args below meth c RJ6 cJ6_getChars_ba4f3 7 (some .int)) (hG : Gs E l) (hnm : meth.name = yJ6_getChars_ba4f3.name) {v0 : Int32} {v2 : Option Nat} {v5 : Int32} {t0 : Int32} {h : PH} {r : (Int32 × PH)} (hf : fJ6_getChars_ba4f3_b12 v0 v2 v5 t0 h = some r)  : PW E p l e (rmv 0 0 0) s m args below meth c 7 0 0 (MQ below (QG E (fun v u => v = some (.int r.1) ∧ u = r.2)) args s 0 0 (pA E)) h 12 [(0, some (.int v0)), (2, some (va_rf v2)), (5, some (.int v5))] [.int t0] := by
  unfold fJ6_getChars_ba4f3_b12 at hf
  refine p_istore X (dcg dc_J6_getChars_ba4f3 7 rfl) (by decide) rfl ?_
  refine p_iload X (dcg dc_J6_getChars_ba4f3 8 rfl) rfl ?_
  refine p_if_ne (tgt := 22) X (dcg dc_J6_getChars_ba4f3 9 rfl) (by decide) (fun q => ?_) (fun q => ?_)
  · have hf := if_t q hf
    refine p_pick [0, 2, 5, 6] ?_
    exact wJ6_getChars_ba4f3_l22 X hG hnm hf 
  · have hf := if_f q hf
    refine p_iload_n X (dcg dc_J6_getChars_ba4f3 10 rfl) rfl rfl ?_
    refine p_ineg X (dcg dc_J6_getChars_ba4f3 11 rfl) ?_
    refine p_istore_n X (dcg dc_J6_getChars_ba4f3 12 rfl) rfl (by decide) rfl ?_
    refine p_pick [0, 2, 5, 6] ?_
    exact wJ6_getChars_ba4f3_l22 X hG hnm hf 
noncomputable def fJ6_getChars_ba4f3 (v0 : Int32) (v1 : Int32) (v2 : Option Nat) (h : PH) : Option (Int32 × PH) :=
  if (0 ≤ v0) then (fJ6_getChars_ba4f3_b12 v0 v2 v1 (0 : Int32) h) else
  fJ6_getChars_ba4f3_b12 v0 v2 v1 (1 : Int32) h
set_option maxRecDepth 100000 in
theorem mJ6_getChars_ba4f3 {v0 : Int32} {v1 : Int32} {v2 : Option Nat} {h : PH} {r : (Int32 × PH)} (hf : fJ6_getChars_ba4f3 v0 v1 v2 h = some r) : eqz h (hX r.2) (hV r.2) := by
  unfold fJ6_getChars_ba4f3 at hf
  have hle := eqz_rf h
  rcases ite_or hf with ⟨q, hf⟩ | ⟨q, hf⟩
  · have hf := if_t q hf
    exact eqz_rt (mJ6_getChars_ba4f3_b12 hf) hle
  · have hf := if_f q hf
    exact eqz_rt (mJ6_getChars_ba4f3_b12 hf) hle
set_option maxRecDepth 100000 in
theorem wJ6_getChars_ba4f3 {E : PE} {l : Launch} (hG : Gs E l) {v0 : Int32} {v1 : Int32} {v2 : Option Nat} {h : PH} {r : (Int32 × PH)} (hf : fJ6_getChars_ba4f3 v0 v1 v2 h = some r) : Ct E l 0 0 0 yJ6_getChars_ba4f3 cJ6_getChars_ba4f3 7 (some .int) [.int v0, .int v1, va_rf v2] h (fun v u => v = some (.int r.1) ∧ u = r.2) := by
  refine ct_of hG (by decide) (by simp [lg_sl, cat_rf, cat_r, cat_i, cat_l, cat_d, cat_f]) ?_
  intro p e s m args below meth c X hnm
  rw [show pargs 0 [.int v0, .int v1, va_rf v2] = [(0, some (.int v0)), (1, some (.int v1)), (2, some (va_rf v2))] from by simp [pargs, cat_rf, cat_r, cat_i, cat_l, cat_d, cat_f]]
  unfold fJ6_getChars_ba4f3 at hf
  refine p_iload_n X (dcg dc_J6_getChars_ba4f3 0 rfl) rfl rfl ?_
  refine p_istore X (dcg dc_J6_getChars_ba4f3 1 rfl) (by decide) rfl ?_
  refine p_iload_n X (dcg dc_J6_getChars_ba4f3 2 rfl) rfl rfl ?_
  refine p_if_ge (tgt := 11) X (dcg dc_J6_getChars_ba4f3 3 rfl) (by decide) (fun q => ?_) (fun q => ?_)
  · have hf := if_t q hf
    refine p_iconst (v := 0) X (dcg dc_J6_getChars_ba4f3 6 rfl) (by decide) ?_
    refine p_pick [0, 2, 5] ?_
    exact wJ6_getChars_ba4f3_b12 X hG hnm hf 
  · have hf := if_f q hf
    refine p_iconst (v := 1) X (dcg dc_J6_getChars_ba4f3 4 rfl) (by decide) ?_
    refine p_goto (tgt := 12) X (dcg dc_J6_getChars_ba4f3 5 rfl) (by decide) ?_
    refine p_pick [0, 2, 5] ?_
    exact wJ6_getChars_ba4f3_b12 X hG hnm hf 
theorem dc_J5_append_c97b9 : decs cJ5_append_c97b9 [(0, .aload_n 0, 1), (1, .getfield 79, 3), (4, .istore_n 2, 1), (5, .iload_n 2, 1), (6, .iload_n 1, 1), (7, .invokestatic 245, 3), (10, .iadd, 1), (11, .istore_n 3, 1), (12, .aload_n 0, 1), (13, .iload_n 3, 1), (14, .invokevirtual 100, 3), (17, .aload_n 0, 1), (18, .invokevirtual 83, 3), (21, .ifCond .eq 16, 3), (24, .iload_n 1, 1), (25, .iload_n 3, 1), (26, .aload_n 0, 1), (27, .getfield 15, 3), (30, .invokestatic 248, 3), (33, .pop, 1), (34, .goto 14, 3), (37, .iload_n 1, 1), (38, .iload_n 2, 1), (39, .iload_n 3, 1), (40, .aload_n 0, 1), (41, .getfield 15, 3), (44, .invokestatic 251, 3), (47, .pop, 1), (48, .aload_n 0, 1), (49, .iload_n 3, 1), (50, .putfield 79, 3), (53, .aload_n 0, 1), (54, .areturn, 1)] = true := by decide +kernel
noncomputable def fJ5_append_c97b9_b17 (v0 : Nat) (v1 : Int32) (v2 : Int32) (v3 : Int32) (h : PH) : Option (Option Nat × PH) :=
  gd (hK h v0 = 13) (bd (fJ5_isLatin1_aae02 v0 h) (fun z5 =>
  if (z5 = 0) then (none) else
  bd (fJ6_getChars_ba4f3 v1 v3 (hR h 13 v0 0) h) (fun z6 =>
  gd (hK z6.2 v0 = 13) (lt (sI z6.2 13 v0 3 v3) (fun h8 =>
  some (((some v0), h8)))))))
set_option maxRecDepth 100000 in
theorem mJ5_append_c97b9_b17 {v0 : Nat} {v1 : Int32} {v2 : Int32} {v3 : Int32} {h : PH} {r : (Option Nat × PH)} (hf : fJ5_append_c97b9_b17 v0 v1 v2 v3 h = some r) : lez h (hX r.2) (hV r.2) := by
  unfold fJ5_append_c97b9_b17 at hf
  have hle := lez_rf h
  obtain ⟨hk4, hf⟩ := gd_some hf
  obtain ⟨z5, hz5, hf⟩ := bd_some hf
  rcases ite_or hf with ⟨q, hf⟩ | ⟨q, hf⟩
  · have hf := if_t q hf
    cases hf
  · have hf := if_f q hf
    obtain ⟨z6, hz6, hf⟩ := bd_some hf
    have hle := lez_rt (lez_eq (mJ6_getChars_ba4f3 hz6)) hle
    obtain ⟨hk7, hf⟩ := gd_some hf
    obtain ⟨h8, rfl, hf⟩ := lt_some hf
    have ee := Option.some.inj hf; subst ee; exact hle
set_option maxRecDepth 100000 in
theorem wJ5_append_c97b9_b17 {E : PE} {p : Program} {l : Launch} {e : Env} {s : State} {m : MethodId} {args : Array Value} {below : List Frame} {meth : Method} {c : Code} {X0 V0 MC MS uc us : Nat} (X : Cx E p l e (rmv 4 MC MS) s m args below meth c RJ5 cJ5_append_c97b9 4 (some (.object "java/lang/AbstractStringBuilder"))) (hG : Gs E l) (hnm : meth.name = yJ5_append_c97b9.name) {v0 : Nat} {v1 : Int32} {v2 : Int32} {v3 : Int32} {h : PH} {r : (Option Nat × PH)} (hM : MC + X0 = (hX r.2)) (hN : MS + V0 = (hV r.2)) (hu : uc + X0 = hX h) (hv : us + V0 = hV h) (hf : fJ5_append_c97b9_b17 v0 v1 v2 v3 h = some r)  : PW E p l e (rmv 4 MC MS) s m args below meth c 4 uc us (MQ below (QG E (fun v u => v = some (va_rf r.1) ∧ u = r.2)) args s MC MS (pA E)) h 17 [(0, some (.ref v0)), (1, some (.int v1)), (2, some (.int v2)), (3, some (.int v3))] [] := by
  have hm1 : lez h (hX r.2) (hV r.2) := mJ5_append_c97b9_b17 hf
  have hcm : uc ≤ MC := (by have o0 := hm1.1; have o1 := hM; have o2 := hu; (try simp only [hX_sI, hX_sR, hX_sL, hX_sD, hX_sIa, hX_sRa, hV_sI, hV_sR, hV_sL, hV_sD, hV_sIa, hV_sRa, hX_new, hV_new] at o0 o1 o2 ⊢); omega)
  have hsm : us ≤ MS := (by have o0 := hm1.2; have o1 := hN; have o2 := hv; (try simp only [hX_sI, hX_sR, hX_sL, hX_sD, hX_sIa, hX_sRa, hV_sI, hV_sR, hV_sL, hV_sD, hV_sIa, hV_sRa, hX_new, hV_new] at o0 o1 o2 ⊢); omega)
  clear hm1
  unfold fJ5_append_c97b9_b17 at hf
  refine p_aload_n X (dcg dc_J5_append_c97b9 11 rfl) rfl rfl ?_
  obtain ⟨hk4, hf⟩ := gd_some hf
  obtain ⟨z5, hz5, hf⟩ := bd_some hf
  refine p_callU (As := []) X ml_J5_83 (dcg dc_J5_append_c97b9 12 rfl) rfl rfl hk4 (wJ5_isLatin1_aae02 hG hz5) (by decide) (room4 (Nat.le_of_ble_eq_true rfl)) hcm hsm ?_
  rintro _ u9 ⟨rfl, e9⟩; have e9 := e9.symm; subst e9
  refine p_if_eq (tgt := 37) X (dcg dc_J5_append_c97b9 13 rfl) (by decide) (fun q => ?_) (fun q => ?_)
  · have hf := if_t q hf
    refine p_iload_n X (dcg dc_J5_append_c97b9 21 rfl) rfl rfl ?_
    refine p_iload_n X (dcg dc_J5_append_c97b9 22 rfl) rfl rfl ?_
    refine p_iload_n X (dcg dc_J5_append_c97b9 23 rfl) rfl rfl ?_
    refine p_aload_n X (dcg dc_J5_append_c97b9 24 rfl) rfl rfl ?_
    refine p_getR X fl_J5_15 rfl (by decide) (dcg dc_J5_append_c97b9 25 rfl) hk4 ?_
    cases hf
  · have hf := if_f q hf
    refine p_iload_n X (dcg dc_J5_append_c97b9 14 rfl) rfl rfl ?_
    refine p_iload_n X (dcg dc_J5_append_c97b9 15 rfl) rfl rfl ?_
    refine p_aload_n X (dcg dc_J5_append_c97b9 16 rfl) rfl rfl ?_
    refine p_getR X fl_J5_15 rfl (by decide) (dcg dc_J5_append_c97b9 17 rfl) hk4 ?_
    obtain ⟨z6, hz6, hf⟩ := bd_some hf
    refine p_callS (As := [_, _, va_rf _]) X ml_J5_248 (dcg dc_J5_append_c97b9 18 rfl) rfl rfl  (wJ6_getChars_ba4f3 hG hz6) (by decide) (room4 (Nat.le_of_ble_eq_true rfl)) hcm hsm ?_
    rintro _ u9 ⟨rfl, e9⟩; have e9 := e9.symm; subst e9
    have hu := hu.trans (mJ6_getChars_ba4f3 hz6).1
    have hv := hv.trans (mJ6_getChars_ba4f3 hz6).2
    refine p_pop X (dcg dc_J5_append_c97b9 19 rfl) rfl ?_
    refine p_goto (tgt := 48) X (dcg dc_J5_append_c97b9 20 rfl) (by decide) ?_
    refine p_aload_n X (dcg dc_J5_append_c97b9 28 rfl) rfl rfl ?_
    refine p_iload_n X (dcg dc_J5_append_c97b9 29 rfl) rfl rfl ?_
    obtain ⟨hk7, hf⟩ := gd_some hf
    refine p_putI X fl_J5_79 rfl (by decide) (fun q hq => by cases hq; rfl) rfl rfl (dcg dc_J5_append_c97b9 30 rfl) hk7 ?_
    obtain ⟨h8, rfl, hf⟩ := lt_some hf
    refine p_aload_n X (dcg dc_J5_append_c97b9 31 rfl) rfl rfl ?_
    have er := Option.some.inj hf
    subst er
    exact p_aret (r := some _) X rfl (Or.inl ⟨_, rfl⟩) (dcg dc_J5_append_c97b9 32 rfl) ⟨rfl, rfl⟩ hcm hsm
noncomputable def fJ5_append_c97b9_b0 (v0 : Nat) (v1 : Int32) (h : PH) : Option (Option Nat × PH) :=
  gd (hK h v0 = 13) (bd (fJ6_stringSize_0f7a4 v1) (fun z2 =>
  bd (fJ5_ensureCapacityInternal_d00df v0 ((hI h 13 v0 3) + z2) h) (fun z3 =>
  fJ5_append_c97b9_b17 v0 v1 (hI h 13 v0 3) ((hI h 13 v0 3) + z2) z3)))
set_option maxRecDepth 100000 in
theorem mJ5_append_c97b9_b0 {v0 : Nat} {v1 : Int32} {h : PH} {r : (Option Nat × PH)} (hf : fJ5_append_c97b9_b0 v0 v1 h = some r) : lez h (hX r.2) (hV r.2) := by
  unfold fJ5_append_c97b9_b0 at hf
  have hle := lez_rf h
  obtain ⟨hk1, hf⟩ := gd_some hf
  obtain ⟨z2, hz2, hf⟩ := bd_some hf
  obtain ⟨z3, hz3, hf⟩ := bd_some hf
  have hle := lez_rt (mJ5_ensureCapacityInternal_d00df hz3) hle
  exact lez_rt (mJ5_append_c97b9_b17 hf) hle
set_option maxRecDepth 100000 in
theorem wJ5_append_c97b9_b0 {E : PE} {p : Program} {l : Launch} {e : Env} {s : State} {m : MethodId} {args : Array Value} {below : List Frame} {meth : Method} {c : Code} {X0 V0 MC MS uc us : Nat} (X : Cx E p l e (rmv 4 MC MS) s m args below meth c RJ5 cJ5_append_c97b9 4 (some (.object "java/lang/AbstractStringBuilder"))) (hG : Gs E l) (hnm : meth.name = yJ5_append_c97b9.name) {v0 : Nat} {v1 : Int32} {h : PH} {r : (Option Nat × PH)} (hM : MC + X0 = (hX r.2)) (hN : MS + V0 = (hV r.2)) (hu : uc + X0 = hX h) (hv : us + V0 = hV h) (hf : fJ5_append_c97b9_b0 v0 v1 h = some r)  : PW E p l e (rmv 4 MC MS) s m args below meth c 4 uc us (MQ below (QG E (fun v u => v = some (va_rf r.1) ∧ u = r.2)) args s MC MS (pA E)) h 0 [(0, some (.ref v0)), (1, some (.int v1))] [] := by
  have hm1 : lez h (hX r.2) (hV r.2) := mJ5_append_c97b9_b0 hf
  have hcm : uc ≤ MC := (by have o0 := hm1.1; have o1 := hM; have o2 := hu; (try simp only [hX_sI, hX_sR, hX_sL, hX_sD, hX_sIa, hX_sRa, hV_sI, hV_sR, hV_sL, hV_sD, hV_sIa, hV_sRa, hX_new, hV_new] at o0 o1 o2 ⊢); omega)
  have hsm : us ≤ MS := (by have o0 := hm1.2; have o1 := hN; have o2 := hv; (try simp only [hX_sI, hX_sR, hX_sL, hX_sD, hX_sIa, hX_sRa, hV_sI, hV_sR, hV_sL, hV_sD, hV_sIa, hV_sRa, hX_new, hV_new] at o0 o1 o2 ⊢); omega)
  clear hm1
  unfold fJ5_append_c97b9_b0 at hf
  refine p_aload_n X (dcg dc_J5_append_c97b9 0 rfl) rfl rfl ?_
  obtain ⟨hk1, hf⟩ := gd_some hf
  refine p_getI X fl_J5_79 rfl (by decide) (dcg dc_J5_append_c97b9 1 rfl) hk1 ?_
  refine p_istore_n X (dcg dc_J5_append_c97b9 2 rfl) rfl (by decide) rfl ?_
  refine p_iload_n X (dcg dc_J5_append_c97b9 3 rfl) rfl rfl ?_
  refine p_iload_n X (dcg dc_J5_append_c97b9 4 rfl) rfl rfl ?_
  obtain ⟨z2, hz2, hf⟩ := bd_some hf
  refine p_callS (As := [_]) X ml_J5_245 (dcg dc_J5_append_c97b9 5 rfl) rfl rfl  (wJ6_stringSize_0f7a4 hG hz2) (by decide) (room4 (Nat.le_of_ble_eq_true rfl)) hcm hsm ?_
  rintro _ u9 ⟨rfl, e9⟩; have e9 := e9.symm; subst e9
  refine p_iadd X (dcg dc_J5_append_c97b9 6 rfl) ?_
  refine p_istore_n X (dcg dc_J5_append_c97b9 7 rfl) rfl (by decide) rfl ?_
  refine p_aload_n X (dcg dc_J5_append_c97b9 8 rfl) rfl rfl ?_
  refine p_iload_n X (dcg dc_J5_append_c97b9 9 rfl) rfl rfl ?_
  obtain ⟨z3, hz3, hf⟩ := bd_some hf
  have hc1 := mJ5_ensureCapacityInternal_d00df hz3
  have hm1 : lez _ (hX r.2) (hV r.2) := mJ5_append_c97b9_b17 hf
  refine p_callP (As := [_]) X ml_J5_100 (dcg dc_J5_append_c97b9 10 rfl) rfl rfl hk1 (wJ5_ensureCapacityInternal_d00df hG hz3) (by decide) (room4 (Nat.le_of_ble_eq_true rfl)) (by have o0 := hm1.1; have o1 := hc1.1; have o2 := hM; have o3 := hu; (try simp only [hX_sI, hX_sR, hX_sL, hX_sD, hX_sIa, hX_sRa, hV_sI, hV_sR, hV_sL, hV_sD, hV_sIa, hV_sRa, hX_new, hV_new] at o0 o1 o2 o3 ⊢); omega) (by have o0 := hm1.2; have o1 := hc1.2; have o2 := hN; have o3 := hv; (try simp only [hX_sI, hX_sR, hX_sL, hX_sD, hX_sIa, hX_sRa, hV_sI, hV_sR, hV_sL, hV_sD, hV_sIa, hV_sRa, hX_new, hV_new] at o0 o1 o2 o3 ⊢); omega) ?_
  rintro _ u9 ⟨rfl, e9⟩; have e9 := e9.symm; subst e9
  refine p_pick [0, 1, 2, 3] ?_
  exact wJ5_append_c97b9_b17 X hG hnm hM hN (by have o0 := hc1.1; have o1 := hu; (try simp only [hX_sI, hX_sR, hX_sL, hX_sD, hX_sIa, hX_sRa, hV_sI, hV_sR, hV_sL, hV_sD, hV_sIa, hV_sRa, hX_new, hV_new] at o0 o1 ⊢); omega) (by have o0 := hc1.2; have o1 := hv; (try simp only [hX_sI, hX_sR, hX_sL, hX_sD, hX_sIa, hX_sRa, hV_sI, hV_sR, hV_sL, hV_sD, hV_sIa, hV_sRa, hX_new, hV_new] at o0 o1 ⊢); omega) hf 
noncomputable def fJ5_append_c97b9 (v0 : Nat) (v1 : Int32) (h : PH) : Option (Option Nat × PH) :=
  fJ5_append_c97b9_b0 v0 v1 h
set_option maxRecDepth 100000 in
theorem mJ5_append_c97b9 {v0 : Nat} {v1 : Int32} {h : PH} {r : (Option Nat × PH)} (hf : fJ5_append_c97b9 v0 v1 h = some r) : lez h (hX r.2) (hV r.2) := by
  unfold fJ5_append_c97b9 at hf
  have hle := lez_rf h
  exact lez_rt (mJ5_append_c97b9_b0 hf) hle
set_option maxRecDepth 100000 in
theorem wJ5_append_c97b9 {E : PE} {l : Launch} (hG : Gs E l) {v0 : Nat} {v1 : Int32} {h : PH} {r : (Option Nat × PH)} (hf : fJ5_append_c97b9 v0 v1 h = some r) : Ct E l 4 ((hX r.2) - hX h) ((hV r.2) - hV h) yJ5_append_c97b9 cJ5_append_c97b9 4 (some (.object "java/lang/AbstractStringBuilder")) [.ref v0, .int v1] h (fun v u => v = some (va_rf r.1) ∧ u = r.2) := by
  have hmm := mJ5_append_c97b9 hf
  refine ct_of hG (by decide) (Nat.le_of_ble_eq_true rfl) ?_
  intro p e s m args below meth c X hnm
  show PW E p l e _ s m args below meth c _ 0 0 _ h 0 [(0, some (.ref v0)), (1, some (.int v1))] []
  unfold fJ5_append_c97b9 at hf
  have hM := Nat.sub_add_cancel hmm.1
  have hN := Nat.sub_add_cancel hmm.2
  refine p_pick [0, 1] ?_
  exact wJ5_append_c97b9_b0 X hG hnm hM hN (Nat.zero_add _) (Nat.zero_add _) hf
theorem dc_J4_append_bf812 : decs cJ4_append_bf812 [(0, .aload_n 0, 1), (1, .iload_n 1, 1), (2, .invokespecial 53, 3), (5, .pop, 1), (6, .aload_n 0, 1), (7, .areturn, 1)] = true := by decide +kernel
noncomputable def fJ4_append_bf812_b5 (v0 : Nat) (t0 : Option Nat) (h : PH) : Option (Option Nat × PH) :=
  some (((some v0), h))
set_option maxRecDepth 100000 in
theorem mJ4_append_bf812_b5 {v0 : Nat} {t0 : Option Nat} {h : PH} {r : (Option Nat × PH)} (hf : fJ4_append_bf812_b5 v0 t0 h = some r) : lez h (hX r.2) (hV r.2) := by
  unfold fJ4_append_bf812_b5 at hf
  have hle := lez_rf h
  have ee := Option.some.inj hf; subst ee; exact hle
set_option maxRecDepth 100000 in
theorem wJ4_append_bf812_b5 {E : PE} {p : Program} {l : Launch} {e : Env} {s : State} {m : MethodId} {args : Array Value} {below : List Frame} {meth : Method} {c : Code} {X0 V0 MC MS uc us : Nat} (X : Cx E p l e (rmv 5 MC MS) s m args below meth c RJ4 cJ4_append_bf812 2 (some (.object "java/lang/StringBuilder"))) (hG : Gs E l) (hnm : meth.name = yJ4_append_bf812.name) {v0 : Nat} {t0 : Option Nat} {h : PH} {r : (Option Nat × PH)} (hM : MC + X0 = (hX r.2)) (hN : MS + V0 = (hV r.2)) (hu : uc + X0 = hX h) (hv : us + V0 = hV h) (hf : fJ4_append_bf812_b5 v0 t0 h = some r)  : PW E p l e (rmv 5 MC MS) s m args below meth c 2 uc us (MQ below (QG E (fun v u => v = some (va_rf r.1) ∧ u = r.2)) args s MC MS (pA E)) h 5 [(0, some (.ref v0))] [va_rf t0] := by
  have hm1 : lez h (hX r.2) (hV r.2) := mJ4_append_bf812_b5 hf
  have hcm : uc ≤ MC := (by have o0 := hm1.1; have o1 := hM; have o2 := hu; (try simp only [hX_sI, hX_sR, hX_sL, hX_sD, hX_sIa, hX_sRa, hV_sI, hV_sR, hV_sL, hV_sD, hV_sIa, hV_sRa, hX_new, hV_new] at o0 o1 o2 ⊢); omega)
  have hsm : us ≤ MS := (by have o0 := hm1.2; have o1 := hN; have o2 := hv; (try simp only [hX_sI, hX_sR, hX_sL, hX_sD, hX_sIa, hX_sRa, hV_sI, hV_sR, hV_sL, hV_sD, hV_sIa, hV_sRa, hX_new, hV_new] at o0 o1 o2 ⊢); omega)
  clear hm1
  unfold fJ4_append_bf812_b5 at hf
  refine p_pop X (dcg dc_J4_append_bf812 3 rfl) (cat_rf _) ?_
  refine p_aload_n X (dcg dc_J4_append_bf812 4 rfl) rfl rfl ?_
  have er := Option.some.inj hf
  subst er
  exact p_aret (r := some _) X rfl (Or.inl ⟨_, rfl⟩) (dcg dc_J4_append_bf812 5 rfl) ⟨rfl, rfl⟩ hcm hsm
noncomputable def fJ4_append_bf812_b0 (v0 : Nat) (v1 : Int32) (h : PH) : Option (Option Nat × PH) :=
  gd (hK h v0 = 13) (bd (fJ5_append_c97b9 v0 v1 h) (fun z2 =>
  fJ4_append_bf812_b5 v0 z2.1 z2.2))
set_option maxRecDepth 100000 in
theorem mJ4_append_bf812_b0 {v0 : Nat} {v1 : Int32} {h : PH} {r : (Option Nat × PH)} (hf : fJ4_append_bf812_b0 v0 v1 h = some r) : lez h (hX r.2) (hV r.2) := by
  unfold fJ4_append_bf812_b0 at hf
  have hle := lez_rf h
  obtain ⟨hk1, hf⟩ := gd_some hf
  obtain ⟨z2, hz2, hf⟩ := bd_some hf
  have hle := lez_rt (mJ5_append_c97b9 hz2) hle
  exact lez_rt (mJ4_append_bf812_b5 hf) hle
set_option maxRecDepth 100000 in
theorem wJ4_append_bf812_b0 {E : PE} {p : Program} {l : Launch} {e : Env} {s : State} {m : MethodId} {args : Array Value} {below : List Frame} {meth : Method} {c : Code} {X0 V0 MC MS uc us : Nat} (X : Cx E p l e (rmv 5 MC MS) s m args below meth c RJ4 cJ4_append_bf812 2 (some (.object "java/lang/StringBuilder"))) (hG : Gs E l) (hnm : meth.name = yJ4_append_bf812.name) {v0 : Nat} {v1 : Int32} {h : PH} {r : (Option Nat × PH)} (hM : MC + X0 = (hX r.2)) (hN : MS + V0 = (hV r.2)) (hu : uc + X0 = hX h) (hv : us + V0 = hV h) (hf : fJ4_append_bf812_b0 v0 v1 h = some r)  : PW E p l e (rmv 5 MC MS) s m args below meth c 2 uc us (MQ below (QG E (fun v u => v = some (va_rf r.1) ∧ u = r.2)) args s MC MS (pA E)) h 0 [(0, some (.ref v0)), (1, some (.int v1))] [] := by
  have hm1 : lez h (hX r.2) (hV r.2) := mJ4_append_bf812_b0 hf
  have hcm : uc ≤ MC := (by have o0 := hm1.1; have o1 := hM; have o2 := hu; (try simp only [hX_sI, hX_sR, hX_sL, hX_sD, hX_sIa, hX_sRa, hV_sI, hV_sR, hV_sL, hV_sD, hV_sIa, hV_sRa, hX_new, hV_new] at o0 o1 o2 ⊢); omega)
  have hsm : us ≤ MS := (by have o0 := hm1.2; have o1 := hN; have o2 := hv; (try simp only [hX_sI, hX_sR, hX_sL, hX_sD, hX_sIa, hX_sRa, hV_sI, hV_sR, hV_sL, hV_sD, hV_sIa, hV_sRa, hX_new, hV_new] at o0 o1 o2 ⊢); omega)
  clear hm1
  unfold fJ4_append_bf812_b0 at hf
  refine p_aload_n X (dcg dc_J4_append_bf812 0 rfl) rfl rfl ?_
  refine p_iload_n X (dcg dc_J4_append_bf812 1 rfl) rfl rfl ?_
  obtain ⟨hk1, hf⟩ := gd_some hf
  obtain ⟨z2, hz2, hf⟩ := bd_some hf
  have hc1 := mJ5_append_c97b9 hz2
  have hm1 : lez _ (hX r.2) (hV r.2) := mJ4_append_bf812_b5 hf
  refine p_callW (As := [_]) X ml_J4_53 (dcg dc_J4_append_bf812 2 rfl) rfl rfl hk1 (wJ5_append_c97b9 hG hz2) (by decide) (room4 (Nat.le_of_ble_eq_true rfl)) (by have o0 := hm1.1; have o1 := hc1.1; have o2 := hM; have o3 := hu; (try simp only [hX_sI, hX_sR, hX_sL, hX_sD, hX_sIa, hX_sRa, hV_sI, hV_sR, hV_sL, hV_sD, hV_sIa, hV_sRa, hX_new, hV_new] at o0 o1 o2 o3 ⊢); omega) (by have o0 := hm1.2; have o1 := hc1.2; have o2 := hN; have o3 := hv; (try simp only [hX_sI, hX_sR, hX_sL, hX_sD, hX_sIa, hX_sRa, hV_sI, hV_sR, hV_sL, hV_sD, hV_sIa, hV_sRa, hX_new, hV_new] at o0 o1 o2 o3 ⊢); omega) ?_
  rintro _ u9 ⟨rfl, e9⟩; have e9 := e9.symm; subst e9
  refine p_pick [0] ?_
  exact wJ4_append_bf812_b5 X hG hnm hM hN (by have o0 := hc1.1; have o1 := hu; (try simp only [hX_sI, hX_sR, hX_sL, hX_sD, hX_sIa, hX_sRa, hV_sI, hV_sR, hV_sL, hV_sD, hV_sIa, hV_sRa, hX_new, hV_new] at o0 o1 ⊢); omega) (by have o0 := hc1.2; have o1 := hv; (try simp only [hX_sI, hX_sR, hX_sL, hX_sD, hX_sIa, hX_sRa, hV_sI, hV_sR, hV_sL, hV_sD, hV_sIa, hV_sRa, hX_new, hV_new] at o0 o1 ⊢); omega) hf 
noncomputable def fJ4_append_bf812 (v0 : Nat) (v1 : Int32) (h : PH) : Option (Option Nat × PH) :=
  fJ4_append_bf812_b0 v0 v1 h
set_option maxRecDepth 100000 in
theorem mJ4_append_bf812 {v0 : Nat} {v1 : Int32} {h : PH} {r : (Option Nat × PH)} (hf : fJ4_append_bf812 v0 v1 h = some r) : lez h (hX r.2) (hV r.2) := by
  unfold fJ4_append_bf812 at hf
  have hle := lez_rf h
  exact lez_rt (mJ4_append_bf812_b0 hf) hle
set_option maxRecDepth 100000 in
theorem wJ4_append_bf812 {E : PE} {l : Launch} (hG : Gs E l) {v0 : Nat} {v1 : Int32} {h : PH} {r : (Option Nat × PH)} (hf : fJ4_append_bf812 v0 v1 h = some r) : Ct E l 5 ((hX r.2) - hX h) ((hV r.2) - hV h) yJ4_append_bf812 cJ4_append_bf812 2 (some (.object "java/lang/StringBuilder")) [.ref v0, .int v1] h (fun v u => v = some (va_rf r.1) ∧ u = r.2) := by
  have hmm := mJ4_append_bf812 hf
  refine ct_of hG (by decide) (Nat.le_of_ble_eq_true rfl) ?_
  intro p e s m args below meth c X hnm
  show PW E p l e _ s m args below meth c _ 0 0 _ h 0 [(0, some (.ref v0)), (1, some (.int v1))] []
  unfold fJ4_append_bf812 at hf
  have hM := Nat.sub_add_cancel hmm.1
  have hN := Nat.sub_add_cancel hmm.2
  refine p_pick [0, 1] ?_
  exact wJ4_append_bf812_b0 X hG hnm hM hN (Nat.zero_add _) (Nat.zero_add _) hf
theorem dc_X10_letterOf : decs cX10_letterOf [(0, .iload_n 0, 1), (1, .invokestatic 27, 3), (4, .iconst 1, 1), (5, .isub, 1), (6, .iload_n 1, 1), (7, .isub, 1), (8, .istore_n 2, 1), (9, .iload_n 2, 1), (10, .ifCond .lt 9, 3), (13, .iload_n 2, 1), (14, .bipush 6, 2), (16, .if_icmp .lt 6, 3), (19, .bipush 32, 2), (21, .ireturn, 1), (22, .bipush 96, 2), (24, .iload_n 0, 1), (25, .getstatic 23, 3), (28, .iload_n 2, 1), (29, .iaload, 1), (30, .idiv, 1), (31, .bipush 27, 2), (33, .irem, 1), (34, .iadd, 1), (35, .i2c, 1), (36, .ireturn, 1)] = true := by decide +kernel
noncomputable def fX10_letterOf_b19  : Option Int32 :=
  gd ((((Int32.toUInt32 (32 : Int32)).toUInt16).toUInt32).toInt32 = (32 : Int32)) (some ((32 : Int32)))
set_option maxRecDepth 100000 in
theorem wX10_letterOf_b19 {E : PE} {p : Program} {l : Launch} {e : Env} {s : State} {m : MethodId} {args : Array Value} {below : List Frame} {meth : Method} {c : Code} (X : Cx E p l e (rmv 1 0 0) s m args below meth c RX10 cX10_letterOf 3 (some .char)) (hG : Gs E l) (hnm : meth.name = yX10_letterOf.name)  {h : PH} {r : Int32} (hf : fX10_letterOf_b19  = some r)  : PW E p l e (rmv 1 0 0) s m args below meth c 3 0 0 (MQ below (QG E (fun v u => v = some (.int r) ∧ u = h)) args s 0 0 (pA E)) h 19 [] [] := by
  unfold fX10_letterOf_b19 at hf
  refine p_bipush (v := 32) X (dcg dc_X10_letterOf 12 rfl) (by decide) ?_
  obtain ⟨hg2, hf⟩ := gd_some hf
  have er := Option.some.inj hf
  subst er
  exact p_zret X rfl (congrArg Value.int hg2) (dcg dc_X10_letterOf 13 rfl) ⟨rfl, rfl⟩ (Nat.le_refl _) (Nat.le_refl _)
noncomputable def fX10_letterOf (v0 : Int32) (v1 : Int32) : Option Int32 :=
  bd (fX10_lettersOf v0) (fun z1 =>
  if (((z1 - (1 : Int32)) - v1) < 0) then (fX10_letterOf_b19 ) else
  if (((z1 - (1 : Int32)) - v1) < (6 : Int32)) then (gd (inb ((z1 - (1 : Int32)) - v1) 7) (gd (¬ (pwv (Int32.toNatClampNeg ((z1 - (1 : Int32)) - v1))) = 0) (gd ((((Int32.toUInt32 (((Int32.toUInt32 ((96 : Int32) + ((v0 / (pwv (Int32.toNatClampNeg ((z1 - (1 : Int32)) - v1)))) - (v0 / (pwv (Int32.toNatClampNeg ((z1 - (1 : Int32)) - v1)))) / (27 : Int32) * (27 : Int32)))) % 65536).toInt32)).toUInt16).toUInt32).toInt32 = (((Int32.toUInt32 ((96 : Int32) + ((v0 / (pwv (Int32.toNatClampNeg ((z1 - (1 : Int32)) - v1)))) - (v0 / (pwv (Int32.toNatClampNeg ((z1 - (1 : Int32)) - v1)))) / (27 : Int32) * (27 : Int32)))) % 65536).toInt32)) (some ((((Int32.toUInt32 ((96 : Int32) + ((v0 / (pwv (Int32.toNatClampNeg ((z1 - (1 : Int32)) - v1)))) - (v0 / (pwv (Int32.toNatClampNeg ((z1 - (1 : Int32)) - v1)))) / (27 : Int32) * (27 : Int32)))) % 65536).toInt32)))))) else
  fX10_letterOf_b19 )
set_option maxRecDepth 100000 in
theorem wX10_letterOf {E : PE} {l : Launch} (hG : Gs E l) {v0 : Int32} {v1 : Int32} {h : PH} {r : Int32} (hf : fX10_letterOf v0 v1 = some r) : Ct E l 1 0 0 yX10_letterOf cX10_letterOf 3 (some .char) [.int v0, .int v1] h (fun v u => v = some (.int r) ∧ u = h) := by
  refine ct_of hG (by decide) (Nat.le_of_ble_eq_true rfl) ?_
  intro p e s m args below meth c X hnm
  show PW E p l e _ s m args below meth c _ 0 0 _ h 0 [(0, some (.int v0)), (1, some (.int v1))] []
  unfold fX10_letterOf at hf
  refine p_iload_n X (dcg dc_X10_letterOf 0 rfl) rfl rfl ?_
  obtain ⟨z1, hz1, hf⟩ := bd_some hf
  refine p_callS (As := [_]) X ml_X10_27 (dcg dc_X10_letterOf 1 rfl) rfl rfl  (wX10_lettersOf hG hz1) (by decide) (room4 (Nat.le_of_ble_eq_true rfl)) (Nat.le_refl _) (Nat.le_refl _) ?_
  rintro _ u9 ⟨rfl, e9⟩; have e9 := e9.symm; subst e9
  refine p_iconst (v := 1) X (dcg dc_X10_letterOf 2 rfl) (by decide) ?_
  refine p_isub X (dcg dc_X10_letterOf 3 rfl) ?_
  refine p_iload_n X (dcg dc_X10_letterOf 4 rfl) rfl rfl ?_
  refine p_isub X (dcg dc_X10_letterOf 5 rfl) ?_
  refine p_istore_n X (dcg dc_X10_letterOf 6 rfl) rfl (by decide) rfl ?_
  refine p_iload_n X (dcg dc_X10_letterOf 7 rfl) rfl rfl ?_
  refine p_if_lt (tgt := 19) X (dcg dc_X10_letterOf 8 rfl) (by decide) (fun q => ?_) (fun q => ?_)
  · have hf := if_t q hf
    refine p_pick [] ?_
    exact wX10_letterOf_b19 X hG hnm hf 
  · have hf := if_f q hf
    refine p_iload_n X (dcg dc_X10_letterOf 9 rfl) rfl rfl ?_
    refine p_bipush (v := 6) X (dcg dc_X10_letterOf 10 rfl) (by decide) ?_
    refine p_icmp_lt (tgt := 22) X (dcg dc_X10_letterOf 11 rfl) (by decide) (fun q => ?_) (fun q => ?_)
    · have hf := if_t q hf
      refine p_bipush (v := 96) X (dcg dc_X10_letterOf 14 rfl) (by decide) ?_
      refine p_iload_n X (dcg dc_X10_letterOf 15 rfl) rfl rfl ?_
      refine p_gets (v := .ref 1) X (gz_pow hG) tw_478 (dcg dc_X10_letterOf 16 rfl) ?_
      refine p_iload_n X (dcg dc_X10_letterOf 17 rfl) rfl rfl ?_
      obtain ⟨hg3, hf⟩ := gd_some hf
      refine p_powers X (dcg dc_X10_letterOf 18 rfl) (vp_of_inb hg3) ?_
      obtain ⟨hg4, hf⟩ := gd_some hf
      refine p_idiv X (dcg dc_X10_letterOf 19 rfl) hg4 ?_
      refine p_bipush (v := 27) X (dcg dc_X10_letterOf 20 rfl) (by decide) ?_
      refine p_irem X (dcg dc_X10_letterOf 21 rfl) (by decide) ?_
      refine p_iadd X (dcg dc_X10_letterOf 22 rfl) ?_
      refine p_i2c X (dcg dc_X10_letterOf 23 rfl) ?_
      obtain ⟨hg5, hf⟩ := gd_some hf
      have er := Option.some.inj hf
      subst er
      exact p_zret X rfl (congrArg Value.int hg5) (dcg dc_X10_letterOf 24 rfl) ⟨rfl, rfl⟩ (Nat.le_refl _) (Nat.le_refl _)
    · have hf := if_f q hf
      refine p_pick [] ?_
      exact wX10_letterOf_b19 X hG hnm hf 
theorem dc_X10_spellNumber : decs cX10_spellNumber [(0, .iload_n 0, 1), (1, .invokestatic 27, 3), (4, .istore_n 2, 1), (5, .iconst 0, 1), (6, .istore_n 3, 1), (7, .iload_n 3, 1), (8, .iload_n 2, 1), (9, .if_icmp .ge 19, 3), (12, .aload_n 1, 1), (13, .iload_n 0, 1), (14, .iload_n 3, 1), (15, .invokestatic 38, 3), (18, .invokevirtual 42, 3), (21, .pop, 1), (22, .iinc 3 1, 3), (25, .goto (-18), 3), (28, .return_, 1)] = true := by decide +kernel
noncomputable def fX10_spellNumber_b21 (v0 : Int32) (v1 : Option Nat) (v2 : Int32) (v3 : Int32) (t0 : Option Nat) (h : PH) : Option ((Int32 × PH) ⊕ PH) :=
  some (.inl ((v3 + 1), h))
set_option maxRecDepth 100000 in
theorem mX10_spellNumber_b21 {v0 : Int32} {v1 : Option Nat} {v2 : Int32} {v3 : Int32} {t0 : Option Nat} {h : PH} {x : ((Int32 × PH) ⊕ PH)} (hf : fX10_spellNumber_b21 v0 v1 v2 v3 t0 h = some x) : (∀ w9 : (Int32 × PH), x = .inl w9 → lez h (hX (w9.2)) (hV (w9.2))) ∧ (∀ w9 : PH, x = .inr w9 → lez h (hX w9) (hV w9)) := by
  unfold fX10_spellNumber_b21 at hf
  have hle := lez_rf h
  have ee := Option.some.inj hf; subst ee
  exact ⟨(fun z e => by have ee := Sum.inl.inj (e); subst ee; exact hle), (fun z e => nomatch e)⟩
set_option maxRecDepth 100000 in
theorem wX10_spellNumber_b21 {E : PE} {p : Program} {l : Launch} {e : Env} {s : State} {m : MethodId} {args : Array Value} {below : List Frame} {meth : Method} {c : Code} {X0 V0 MC MS uc us : Nat} (X : Cx E p l e (rmv 6 MC MS) s m args below meth c RX10 cX10_spellNumber 4 (none)) (hG : Gs E l) (hnm : meth.name = yX10_spellNumber.name) {v0 : Int32} {v1 : Option Nat} {v2 : Int32} {v3 : Int32} {t0 : Option Nat} {h : PH} {r : PH} {x : ((Int32 × PH) ⊕ PH)} (hM : MC + X0 = (hX r)) (hN : MS + V0 = (hV r)) (hu : uc + X0 = hX h) (hv : us + V0 = hV h) (hf : fX10_spellNumber_b21 v0 v1 v2 v3 t0 h = some x) (k0 : ∀ (z : (Int32 × PH)) (uc us : Nat), x = .inl z → uc + X0 = hX (z.2) → us + V0 = hV (z.2) → PW E p l e (rmv 6 MC MS) s m args below meth c 4 uc us (MQ below (QG E (fun v u => v = none ∧ u = r)) args s MC MS (pA E)) (z.2) 7 [(0, some (.int v0)), (1, some (va_rf v1)), (2, some (.int v2)), (3, some (.int (z.1)))] []) (kl0 : ∀ z : (Int32 × PH), x = .inl z → lez (z.2) (hX r) (hV r)) (kf : ∀ z : PH, x = .inr z → z = r) : PW E p l e (rmv 6 MC MS) s m args below meth c 4 uc us (MQ below (QG E (fun v u => v = none ∧ u = r)) args s MC MS (pA E)) h 21 [(0, some (.int v0)), (1, some (va_rf v1)), (2, some (.int v2)), (3, some (.int v3))] [va_rf t0] := by
  have hm1 : lez h (hX r) (hV r) := by
    obtain ⟨c0, cf⟩ := mX10_spellNumber_b21 hf
    rcases hxx : x with zz | zz
    · exact lez_tr (c0 zz hxx) (kl0 zz hxx)
    · have ee := kf zz hxx; subst ee; exact cf zz hxx
  have hcm : uc ≤ MC := (by have o0 := hm1.1; have o1 := hM; have o2 := hu; (try simp only [hX_sI, hX_sR, hX_sL, hX_sD, hX_sIa, hX_sRa, hV_sI, hV_sR, hV_sL, hV_sD, hV_sIa, hV_sRa, hX_new, hV_new] at o0 o1 o2 ⊢); omega)
  have hsm : us ≤ MS := (by have o0 := hm1.2; have o1 := hN; have o2 := hv; (try simp only [hX_sI, hX_sR, hX_sL, hX_sD, hX_sIa, hX_sRa, hV_sI, hV_sR, hV_sL, hV_sD, hV_sIa, hV_sRa, hX_new, hV_new] at o0 o1 o2 ⊢); omega)
  clear hm1
  unfold fX10_spellNumber_b21 at hf
  refine p_pop X (dcg dc_X10_spellNumber 13 rfl) (cat_rf _) ?_
  refine p_iinc (v := 1) X (dcg dc_X10_spellNumber 14 rfl) rfl (by decide) (by decide) rfl ?_
  refine p_goto (tgt := 7) X (dcg dc_X10_spellNumber 15 rfl) (by decide) ?_
  refine p_pick [0, 1, 2, 3] ?_
  exact k0 _ _ _ (Option.some.inj hf).symm hu hv
noncomputable def fX10_spellNumber_c7 (v0 : Int32) (v1 : Option Nat) (v2 : Int32) (v3 : Int32) (h : PH) : Option ((Int32 × PH) ⊕ PH) :=
  if (v2 ≤ v3) then (mr (some (h))) else
  bd (fX10_letterOf v0 v3) (fun z4 =>
  gs v1 (fun a5 =>
  gd (hK h a5 = 13) (bd (fJ4_append_cf468 a5 z4 h) (fun z8 =>
  fX10_spellNumber_b21 v0 (some a5) v2 v3 z8.1 z8.2))))
set_option maxRecDepth 100000 in
theorem mX10_spellNumber_c7 {v0 : Int32} {v1 : Option Nat} {v2 : Int32} {v3 : Int32} {h : PH} {x : ((Int32 × PH) ⊕ PH)} (hf : fX10_spellNumber_c7 v0 v1 v2 v3 h = some x) : (∀ w9 : (Int32 × PH), x = .inl w9 → lez h (hX (w9.2)) (hV (w9.2))) ∧ (∀ w9 : PH, x = .inr w9 → lez h (hX w9) (hV w9)) := by
  unfold fX10_spellNumber_c7 at hf
  have hle := lez_rf h
  rcases ite_or hf with ⟨q, hf⟩ | ⟨q, hf⟩
  · have hf := if_t q hf
    obtain ⟨y2, hfm, rfl⟩ := mr_some hf; have hf := hfm; clear hfm
    have ee := Option.some.inj hf; subst ee
    exact ⟨(fun z e => nomatch e), (fun z e => by have ee := Sum.inr.inj (e); subst ee; exact hle)⟩
  · have hf := if_f q hf
    obtain ⟨z4, hz4, hf⟩ := bd_some hf
    obtain ⟨a5, e6, hf⟩ := gs_some hf
    obtain ⟨hk7, hf⟩ := gd_some hf
    obtain ⟨z8, hz8, hf⟩ := bd_some hf
    have hle := lez_rt (mJ4_append_cf468 hz8) hle
    obtain ⟨c0, cf⟩ := mX10_spellNumber_b21 hf
    exact ⟨fun z e => lez_rt (c0 z (e)) hle, fun z e => lez_rt (cf z (e)) hle⟩
set_option maxRecDepth 100000 in
theorem wX10_spellNumber_c7 {E : PE} {p : Program} {l : Launch} {e : Env} {s : State} {m : MethodId} {args : Array Value} {below : List Frame} {meth : Method} {c : Code} {X0 V0 MC MS uc us : Nat} (X : Cx E p l e (rmv 6 MC MS) s m args below meth c RX10 cX10_spellNumber 4 (none)) (hG : Gs E l) (hnm : meth.name = yX10_spellNumber.name) {v0 : Int32} {v1 : Option Nat} {v2 : Int32} {v3 : Int32} {h : PH} {r : PH} {x : ((Int32 × PH) ⊕ PH)} (hM : MC + X0 = (hX r)) (hN : MS + V0 = (hV r)) (hu : uc + X0 = hX h) (hv : us + V0 = hV h) (hf : fX10_spellNumber_c7 v0 v1 v2 v3 h = some x) (k0 : ∀ (z : (Int32 × PH)) (uc us : Nat), x = .inl z → uc + X0 = hX (z.2) → us + V0 = hV (z.2) → PW E p l e (rmv 6 MC MS) s m args below meth c 4 uc us (MQ below (QG E (fun v u => v = none ∧ u = r)) args s MC MS (pA E)) (z.2) 7 [(0, some (.int v0)), (1, some (va_rf v1)), (2, some (.int v2)), (3, some (.int (z.1)))] []) (kl0 : ∀ z : (Int32 × PH), x = .inl z → lez (z.2) (hX r) (hV r)) (kf : ∀ z : PH, x = .inr z → z = r) : PW E p l e (rmv 6 MC MS) s m args below meth c 4 uc us (MQ below (QG E (fun v u => v = none ∧ u = r)) args s MC MS (pA E)) h 7 [(0, some (.int v0)), (1, some (va_rf v1)), (2, some (.int v2)), (3, some (.int v3))] [] := by
  have hm1 : lez h (hX r) (hV r) := by
    obtain ⟨c0, cf⟩ := mX10_spellNumber_c7 hf
    rcases hxx : x with zz | zz
    · exact lez_tr (c0 zz hxx) (kl0 zz hxx)
    · have ee := kf zz hxx; subst ee; exact cf zz hxx
  have hcm : uc ≤ MC := (by have o0 := hm1.1; have o1 := hM; have o2 := hu; (try simp only [hX_sI, hX_sR, hX_sL, hX_sD, hX_sIa, hX_sRa, hV_sI, hV_sR, hV_sL, hV_sD, hV_sIa, hV_sRa, hX_new, hV_new] at o0 o1 o2 ⊢); omega)
  have hsm : us ≤ MS := (by have o0 := hm1.2; have o1 := hN; have o2 := hv; (try simp only [hX_sI, hX_sR, hX_sL, hX_sD, hX_sIa, hX_sRa, hV_sI, hV_sR, hV_sL, hV_sD, hV_sIa, hV_sRa, hX_new, hV_new] at o0 o1 o2 ⊢); omega)
  clear hm1
  unfold fX10_spellNumber_c7 at hf
  refine p_iload_n X (dcg dc_X10_spellNumber 5 rfl) rfl rfl ?_
  refine p_iload_n X (dcg dc_X10_spellNumber 6 rfl) rfl rfl ?_
  refine p_icmp_ge (tgt := 28) X (dcg dc_X10_spellNumber 7 rfl) (by decide) (fun q => ?_) (fun q => ?_)
  · have hf := if_t q hf
    obtain ⟨y2, hf, hy3⟩ := mr_some hf
    have hy3f := kf y2 hy3
    subst hy3f
    have er := Option.some.inj hf
    subst er
    exact p_vret X rfl (dcg dc_X10_spellNumber 16 rfl) ⟨rfl, rfl⟩ hcm hsm
  · have hf := if_f q hf
    refine p_aloadq_n X (dcg dc_X10_spellNumber 8 rfl) rfl rfl ?_
    refine p_iload_n X (dcg dc_X10_spellNumber 9 rfl) rfl rfl ?_
    refine p_iload_n X (dcg dc_X10_spellNumber 10 rfl) rfl rfl ?_
    obtain ⟨z4, hz4, hf⟩ := bd_some hf
    refine p_callS (As := [_, _]) X ml_X10_38 (dcg dc_X10_spellNumber 11 rfl) rfl rfl  (wX10_letterOf hG hz4) (by decide) (room4 (Nat.le_of_ble_eq_true rfl)) hcm hsm ?_
    rintro _ u9 ⟨rfl, e9⟩; have e9 := e9.symm; subst e9
    obtain ⟨a5, e6, hf⟩ := gs_some hf
    first | subst e6 | (try rw [e6])
    obtain ⟨hk7, hf⟩ := gd_some hf
    obtain ⟨z8, hz8, hf⟩ := bd_some hf
    have hc1 := mJ4_append_cf468 hz8
    obtain ⟨c0, cf⟩ := mX10_spellNumber_b21 hf
    have hm1 := (nst1 (fun zz hxx => lez_tr (c0 zz hxx) (kl0 zz hxx)) (fun zz hxx => by have ee := kf zz hxx; subst ee; exact cf zz hxx))
    refine p_callV (As := [_]) X ml_X10_42 (dcg dc_X10_spellNumber 12 rfl) rfl rfl hk7 (wJ4_append_cf468 hG hz8) (by decide) (room4 (Nat.le_of_ble_eq_true rfl)) (by have o0 := hm1.1; have o1 := hc1.1; have o2 := hM; have o3 := hu; (try simp only [hX_sI, hX_sR, hX_sL, hX_sD, hX_sIa, hX_sRa, hV_sI, hV_sR, hV_sL, hV_sD, hV_sIa, hV_sRa, hX_new, hV_new] at o0 o1 o2 o3 ⊢); omega) (by have o0 := hm1.2; have o1 := hc1.2; have o2 := hN; have o3 := hv; (try simp only [hX_sI, hX_sR, hX_sL, hX_sD, hX_sIa, hX_sRa, hV_sI, hV_sR, hV_sL, hV_sD, hV_sIa, hV_sRa, hX_new, hV_new] at o0 o1 o2 o3 ⊢); omega) ?_
    rintro _ u9 ⟨rfl, e9⟩; have e9 := e9.symm; subst e9
    refine p_pick [0, 1, 2, 3] ?_
    exact wX10_spellNumber_b21 X hG hnm hM hN (by have o0 := hc1.1; have o1 := hu; (try simp only [hX_sI, hX_sR, hX_sL, hX_sD, hX_sIa, hX_sRa, hV_sI, hV_sR, hV_sL, hV_sD, hV_sIa, hV_sRa, hX_new, hV_new] at o0 o1 ⊢); omega) (by have o0 := hc1.2; have o1 := hv; (try simp only [hX_sI, hX_sR, hX_sL, hX_sD, hX_sIa, hX_sRa, hV_sI, hV_sR, hV_sL, hV_sD, hV_sIa, hV_sRa, hX_new, hV_new] at o0 o1 ⊢); omega) hf k0 kl0 kf
noncomputable def fX10_spellNumber_l7 (v0 : Int32) (v1 : Option Nat) (v2 : Int32) (v3 : Int32) (h : PH) : Option PH := wh (fun z : (Int32 × PH) => fX10_spellNumber_c7 v0 v1 v2 (z.1) (z.2)) (v3, h)
set_option maxRecDepth 100000 in
theorem mX10_spellNumber_l7 {v0 : Int32} {v1 : Option Nat} {v2 : Int32} {v3 : Int32} {h : PH} {r : PH} (hf : fX10_spellNumber_l7 v0 v1 v2 v3 h = some r) : lez h (hX r) (hV r) := by
  unfold fX10_spellNumber_l7 at hf
  refine wh_ind (P := fun z => lez (z.2) (hX r) (hV r)) (fun z x0 hs i1 i2 => ?_) _ hf
  obtain ⟨c0, cf⟩ := mX10_spellNumber_c7 (v0 := v0) (v1 := v1) (v2 := v2) (v3 := z.1) (h := z.2) hs
  rcases hxx : x0 with zz | zz
  · exact lez_tr (c0 zz hxx) (i1 zz hxx)
  · have ee := i2 zz hxx; subst ee; exact cf zz hxx
set_option maxRecDepth 100000 in
theorem wX10_spellNumber_l7 {E : PE} {p : Program} {l : Launch} {e : Env} {s : State} {m : MethodId} {args : Array Value} {below : List Frame} {meth : Method} {c : Code} {X0 V0 MC MS uc us : Nat} (X : Cx E p l e (rmv 6 MC MS) s m args below meth c RX10 cX10_spellNumber 4 (none)) (hG : Gs E l) (hnm : meth.name = yX10_spellNumber.name) {v0 : Int32} {v1 : Option Nat} {v2 : Int32} {v3 : Int32} {h : PH} {r : PH} (hM : MC + X0 = (hX r)) (hN : MS + V0 = (hV r)) (hu : uc + X0 = hX h) (hv : us + V0 = hV h) (hf : fX10_spellNumber_l7 v0 v1 v2 v3 h = some r)  : PW E p l e (rmv 6 MC MS) s m args below meth c 4 uc us (MQ below (QG E (fun v u => v = none ∧ u = r)) args s MC MS (pA E)) h 7 [(0, some (.int v0)), (1, some (va_rf v1)), (2, some (.int v2)), (3, some (.int v3))] [] := by
  unfold fX10_spellNumber_l7 at hf
  refine wh_ind2 (P := fun z => ∀ uc us : Nat, uc + X0 = hX (z.2) → us + V0 = hV (z.2) → PW E p l e (rmv 6 MC MS) s m args below meth c 4 uc us (MQ below (QG E (fun v u => v = none ∧ u = r)) args s MC MS (pA E)) (z.2) 7 [(0, some (.int v0)), (1, some (va_rf v1)), (2, some (.int v2)), (3, some (.int (z.1)))] []) (fun z x0 hs i1 i2 uc us hu hv => ?_) _ hf uc us hu hv
  exact wX10_spellNumber_c7 (r := r) (v0 := v0) (v1 := v1) (v2 := v2) (v3 := z.1) (h := z.2) X hG hnm hM hN hu hv hs (fun z1 uc1 us1 e1 e2 e3 => (i1 z1 e1).1 uc1 us1 e2 e3) (fun z1 e1 => mX10_spellNumber_l7 (v0 := v0) (v1 := v1) (v2 := v2) (v3 := z1.1) (h := z1.2) (by unfold fX10_spellNumber_l7; exact (i1 z1 e1).2))  i2
noncomputable def fX10_spellNumber_b0 (v0 : Int32) (v1 : Option Nat) (h : PH) : Option PH :=
  bd (fX10_lettersOf v0) (fun z1 =>
  fX10_spellNumber_l7 v0 v1 z1 (0 : Int32) h)
set_option maxRecDepth 100000 in
theorem mX10_spellNumber_b0 {v0 : Int32} {v1 : Option Nat} {h : PH} {r : PH} (hf : fX10_spellNumber_b0 v0 v1 h = some r) : lez h (hX r) (hV r) := by
  unfold fX10_spellNumber_b0 at hf
  have hle := lez_rf h
  obtain ⟨z1, hz1, hf⟩ := bd_some hf
  exact lez_rt (mX10_spellNumber_l7 hf) hle
set_option maxRecDepth 100000 in
theorem wX10_spellNumber_b0 {E : PE} {p : Program} {l : Launch} {e : Env} {s : State} {m : MethodId} {args : Array Value} {below : List Frame} {meth : Method} {c : Code} {X0 V0 MC MS uc us : Nat} (X : Cx E p l e (rmv 6 MC MS) s m args below meth c RX10 cX10_spellNumber 4 (none)) (hG : Gs E l) (hnm : meth.name = yX10_spellNumber.name) {v0 : Int32} {v1 : Option Nat} {h : PH} {r : PH} (hM : MC + X0 = (hX r)) (hN : MS + V0 = (hV r)) (hu : uc + X0 = hX h) (hv : us + V0 = hV h) (hf : fX10_spellNumber_b0 v0 v1 h = some r)  : PW E p l e (rmv 6 MC MS) s m args below meth c 4 uc us (MQ below (QG E (fun v u => v = none ∧ u = r)) args s MC MS (pA E)) h 0 [(0, some (.int v0)), (1, some (va_rf v1))] [] := by
  have hm1 : lez h (hX r) (hV r) := mX10_spellNumber_b0 hf
  have hcm : uc ≤ MC := (by have o0 := hm1.1; have o1 := hM; have o2 := hu; (try simp only [hX_sI, hX_sR, hX_sL, hX_sD, hX_sIa, hX_sRa, hV_sI, hV_sR, hV_sL, hV_sD, hV_sIa, hV_sRa, hX_new, hV_new] at o0 o1 o2 ⊢); omega)
  have hsm : us ≤ MS := (by have o0 := hm1.2; have o1 := hN; have o2 := hv; (try simp only [hX_sI, hX_sR, hX_sL, hX_sD, hX_sIa, hX_sRa, hV_sI, hV_sR, hV_sL, hV_sD, hV_sIa, hV_sRa, hX_new, hV_new] at o0 o1 o2 ⊢); omega)
  clear hm1
  unfold fX10_spellNumber_b0 at hf
  refine p_iload_n X (dcg dc_X10_spellNumber 0 rfl) rfl rfl ?_
  obtain ⟨z1, hz1, hf⟩ := bd_some hf
  refine p_callS (As := [_]) X ml_X10_27 (dcg dc_X10_spellNumber 1 rfl) rfl rfl  (wX10_lettersOf hG hz1) (by decide) (room4 (Nat.le_of_ble_eq_true rfl)) hcm hsm ?_
  rintro _ u9 ⟨rfl, e9⟩; have e9 := e9.symm; subst e9
  refine p_istore_n X (dcg dc_X10_spellNumber 2 rfl) rfl (by decide) (nwq (k := 1) rfl) ?_
  refine p_iconst (v := 0) X (dcg dc_X10_spellNumber 3 rfl) (by decide) ?_
  refine p_istore_n X (dcg dc_X10_spellNumber 4 rfl) rfl (by decide) rfl ?_
  refine p_pick [0, 1, 2, 3] ?_
  exact wX10_spellNumber_l7 X hG hnm hM hN hu hv hf 
noncomputable def fX10_spellNumber (v0 : Int32) (v1 : Option Nat) (h : PH) : Option PH :=
  fX10_spellNumber_b0 v0 v1 h
set_option maxRecDepth 100000 in
theorem mX10_spellNumber {v0 : Int32} {v1 : Option Nat} {h : PH} {r : PH} (hf : fX10_spellNumber v0 v1 h = some r) : lez h (hX r) (hV r) := by
  unfold fX10_spellNumber at hf
  have hle := lez_rf h
  exact lez_rt (mX10_spellNumber_b0 hf) hle
set_option maxRecDepth 100000 in
theorem wX10_spellNumber {E : PE} {l : Launch} (hG : Gs E l) {v0 : Int32} {v1 : Option Nat} {h : PH} {r : PH} (hf : fX10_spellNumber v0 v1 h = some r) : Ct E l 6 ((hX r) - hX h) ((hV r) - hV h) yX10_spellNumber cX10_spellNumber 4 (none) [.int v0, va_rf v1] h (fun v u => v = none ∧ u = r) := by
  have hmm := mX10_spellNumber hf
  refine ct_of hG (by decide) (by simp [lg_sl, cat_rf, cat_r, cat_i, cat_l, cat_d, cat_f]) ?_
  intro p e s m args below meth c X hnm
  rw [show pargs 0 [.int v0, va_rf v1] = [(0, some (.int v0)), (1, some (va_rf v1))] from by simp [pargs, cat_rf, cat_r, cat_i, cat_l, cat_d, cat_f]]
  unfold fX10_spellNumber at hf
  have hM := Nat.sub_add_cancel hmm.1
  have hN := Nat.sub_add_cancel hmm.2
  refine p_pick [0, 1] ?_
  exact wX10_spellNumber_b0 X hG hnm hM hN (Nat.zero_add _) (Nat.zero_add _) hf
theorem dc_X4_spellSimple : decs cX4_spellSimple [(0, .aload_n 0, 1), (1, .getfield 9, 3), (4, .iconst 3, 1), (5, .if_icmp .ne 10, 3), (8, .aload_n 1, 1), (9, .bipush 91, 2), (11, .invokevirtual 103, 3), (14, .pop, 1), (15, .iconst 0, 1), (16, .istore_n 2, 1), (17, .iload_n 2, 1), (18, .aload_n 0, 1), (19, .getfield 15, 3), (22, .arraylength, 1), (23, .if_icmp .ge 66, 3), (26, .iload_n 2, 1), (27, .ifCond .le 18, 3), (30, .aload_n 0, 1), (31, .getfield 9, 3), (34, .iconst 3, 1), (35, .if_icmp .ne 10, 3), (38, .aload_n 1, 1), (39, .bipush 32, 2), (41, .invokevirtual 103, 3), (44, .pop, 1), (45, .iload_n 2, 1), (46, .ifCond .le 27, 3), (49, .aload_n 0, 1), (50, .getfield 9, 3), (53, .iconst 2, 1), (54, .if_icmp .ne 19, 3), (57, .aload_n 1, 1), (58, .bipush 126, 2), (60, .invokevirtual 103, 3), (63, .pop, 1), (64, .aload_n 1, 1), (65, .aload_n 0, 1), (66, .getfield 19, 3), (69, .invokevirtual 117, 3), (72, .pop, 1), (73, .aload_n 0, 1), (74, .getfield 15, 3), (77, .iload_n 2, 1), (78, .iaload, 1), (79, .aload_n 1, 1), (80, .invokestatic 120, 3), (83, .iinc 2 1, 3), (86, .goto (-69), 3), (89, .aload_n 0, 1), (90, .getfield 9, 3), (93, .iconst 3, 1), (94, .if_icmp .ne 10, 3), (97, .aload_n 1, 1), (98, .bipush 93, 2), (100, .invokevirtual 103, 3), (103, .pop, 1), (104, .aload_n 0, 1), (105, .getfield 9, 3), (108, .iconst 1, 1), (109, .if_icmp .ne 10, 3), (112, .aload_n 1, 1), (113, .bipush 42, 2), (115, .invokevirtual 103, 3), (118, .pop, 1), (119, .return_, 1)] = true := by decide +kernel
noncomputable def fX4_spellSimple_b119  (h : PH) : Option PH :=
  some (h)
set_option maxRecDepth 100000 in
theorem mX4_spellSimple_b119  {h : PH} {r : PH} (hf : fX4_spellSimple_b119  h = some r) : lez h (hX r) (hV r) := by
  unfold fX4_spellSimple_b119 at hf
  have hle := lez_rf h
  have ee := Option.some.inj hf; subst ee; exact hle
set_option maxRecDepth 100000 in
theorem wX4_spellSimple_b119 {E : PE} {p : Program} {l : Launch} {e : Env} {s : State} {m : MethodId} {args : Array Value} {below : List Frame} {meth : Method} {c : Code} {X0 V0 MC MS uc us : Nat} (X : Cx E p l e (rmv 7 MC MS) s m args below meth c RX4 cX4_spellSimple 3 (none)) (hG : Gs E l) (hnm : meth.name = yX4_spellSimple.name)  {h : PH} {r : PH} (hM : MC + X0 = (hX r)) (hN : MS + V0 = (hV r)) (hu : uc + X0 = hX h) (hv : us + V0 = hV h) (hf : fX4_spellSimple_b119  h = some r)  : PW E p l e (rmv 7 MC MS) s m args below meth c 3 uc us (MQ below (QG E (fun v u => v = none ∧ u = r)) args s MC MS (pA E)) h 119 [] [] := by
  have hm1 : lez h (hX r) (hV r) := mX4_spellSimple_b119 hf
  have hcm : uc ≤ MC := (by have o0 := hm1.1; have o1 := hM; have o2 := hu; (try simp only [hX_sI, hX_sR, hX_sL, hX_sD, hX_sIa, hX_sRa, hV_sI, hV_sR, hV_sL, hV_sD, hV_sIa, hV_sRa, hX_new, hV_new] at o0 o1 o2 ⊢); omega)
  have hsm : us ≤ MS := (by have o0 := hm1.2; have o1 := hN; have o2 := hv; (try simp only [hX_sI, hX_sR, hX_sL, hX_sD, hX_sIa, hX_sRa, hV_sI, hV_sR, hV_sL, hV_sD, hV_sIa, hV_sRa, hX_new, hV_new] at o0 o1 o2 ⊢); omega)
  clear hm1
  unfold fX4_spellSimple_b119 at hf
  have er := Option.some.inj hf
  subst er
  exact p_vret X rfl (dcg dc_X4_spellSimple 64 rfl) ⟨rfl, rfl⟩ hcm hsm
noncomputable def fX4_spellSimple_b118 (t0 : Option Nat) (h : PH) : Option PH :=
  fX4_spellSimple_b119  h
set_option maxRecDepth 100000 in
theorem mX4_spellSimple_b118 {t0 : Option Nat} {h : PH} {r : PH} (hf : fX4_spellSimple_b118 t0 h = some r) : lez h (hX r) (hV r) := by
  unfold fX4_spellSimple_b118 at hf
  have hle := lez_rf h
  exact lez_rt (mX4_spellSimple_b119 hf) hle
set_option maxRecDepth 100000 in
theorem wX4_spellSimple_b118 {E : PE} {p : Program} {l : Launch} {e : Env} {s : State} {m : MethodId} {args : Array Value} {below : List Frame} {meth : Method} {c : Code} {X0 V0 MC MS uc us : Nat} (X : Cx E p l e (rmv 7 MC MS) s m args below meth c RX4 cX4_spellSimple 3 (none)) (hG : Gs E l) (hnm : meth.name = yX4_spellSimple.name) {t0 : Option Nat} {h : PH} {r : PH} (hM : MC + X0 = (hX r)) (hN : MS + V0 = (hV r)) (hu : uc + X0 = hX h) (hv : us + V0 = hV h) (hf : fX4_spellSimple_b118 t0 h = some r)  : PW E p l e (rmv 7 MC MS) s m args below meth c 3 uc us (MQ below (QG E (fun v u => v = none ∧ u = r)) args s MC MS (pA E)) h 118 [] [va_rf t0] := by
  have hm1 : lez h (hX r) (hV r) := mX4_spellSimple_b118 hf
  have hcm : uc ≤ MC := (by have o0 := hm1.1; have o1 := hM; have o2 := hu; (try simp only [hX_sI, hX_sR, hX_sL, hX_sD, hX_sIa, hX_sRa, hV_sI, hV_sR, hV_sL, hV_sD, hV_sIa, hV_sRa, hX_new, hV_new] at o0 o1 o2 ⊢); omega)
  have hsm : us ≤ MS := (by have o0 := hm1.2; have o1 := hN; have o2 := hv; (try simp only [hX_sI, hX_sR, hX_sL, hX_sD, hX_sIa, hX_sRa, hV_sI, hV_sR, hV_sL, hV_sD, hV_sIa, hV_sRa, hX_new, hV_new] at o0 o1 o2 ⊢); omega)
  clear hm1
  unfold fX4_spellSimple_b118 at hf
  refine p_pop X (dcg dc_X4_spellSimple 63 rfl) (cat_rf _) ?_
  refine p_pick [] ?_
  exact wX4_spellSimple_b119 X hG hnm hM hN hu hv hf 
noncomputable def fX4_spellSimple_b104 (v0 : Nat) (v1 : Option Nat) (h : PH) : Option PH :=
  gd (hK h v0 = 4) (if (¬ (hI h 4 v0 0) = (1 : Int32)) then (fX4_spellSimple_b119  h) else
  gs v1 (fun a9 =>
  gd (hK h a9 = 13) (bd (fJ4_append_cf468 a9 (42 : Int32) h) (fun z12 =>
  fX4_spellSimple_b118 z12.1 z12.2))))
set_option maxRecDepth 100000 in
theorem mX4_spellSimple_b104 {v0 : Nat} {v1 : Option Nat} {h : PH} {r : PH} (hf : fX4_spellSimple_b104 v0 v1 h = some r) : lez h (hX r) (hV r) := by
  unfold fX4_spellSimple_b104 at hf
  have hle := lez_rf h
  obtain ⟨hk8, hf⟩ := gd_some hf
  rcases ite_or hf with ⟨q, hf⟩ | ⟨q, hf⟩
  · have hf := if_t q hf
    exact lez_rt (mX4_spellSimple_b119 hf) hle
  · have hf := if_f q hf
    obtain ⟨a9, e10, hf⟩ := gs_some hf
    obtain ⟨hk11, hf⟩ := gd_some hf
    obtain ⟨z12, hz12, hf⟩ := bd_some hf
    have hle := lez_rt (mJ4_append_cf468 hz12) hle
    exact lez_rt (mX4_spellSimple_b118 hf) hle
set_option maxRecDepth 100000 in
theorem wX4_spellSimple_b104 {E : PE} {p : Program} {l : Launch} {e : Env} {s : State} {m : MethodId} {args : Array Value} {below : List Frame} {meth : Method} {c : Code} {X0 V0 MC MS uc us : Nat} (X : Cx E p l e (rmv 7 MC MS) s m args below meth c RX4 cX4_spellSimple 3 (none)) (hG : Gs E l) (hnm : meth.name = yX4_spellSimple.name) {v0 : Nat} {v1 : Option Nat} {h : PH} {r : PH} (hM : MC + X0 = (hX r)) (hN : MS + V0 = (hV r)) (hu : uc + X0 = hX h) (hv : us + V0 = hV h) (hf : fX4_spellSimple_b104 v0 v1 h = some r)  : PW E p l e (rmv 7 MC MS) s m args below meth c 3 uc us (MQ below (QG E (fun v u => v = none ∧ u = r)) args s MC MS (pA E)) h 104 [(0, some (.ref v0)), (1, some (va_rf v1))] [] := by
  have hm1 : lez h (hX r) (hV r) := mX4_spellSimple_b104 hf
  have hcm : uc ≤ MC := (by have o0 := hm1.1; have o1 := hM; have o2 := hu; (try simp only [hX_sI, hX_sR, hX_sL, hX_sD, hX_sIa, hX_sRa, hV_sI, hV_sR, hV_sL, hV_sD, hV_sIa, hV_sRa, hX_new, hV_new] at o0 o1 o2 ⊢); omega)
  have hsm : us ≤ MS := (by have o0 := hm1.2; have o1 := hN; have o2 := hv; (try simp only [hX_sI, hX_sR, hX_sL, hX_sD, hX_sIa, hX_sRa, hV_sI, hV_sR, hV_sL, hV_sD, hV_sIa, hV_sRa, hX_new, hV_new] at o0 o1 o2 ⊢); omega)
  clear hm1
  unfold fX4_spellSimple_b104 at hf
  refine p_aload_n X (dcg dc_X4_spellSimple 56 rfl) rfl rfl ?_
  obtain ⟨hk8, hf⟩ := gd_some hf
  refine p_getI X fl_X4_9 rfl (by decide) (dcg dc_X4_spellSimple 57 rfl) hk8 ?_
  refine p_iconst (v := 1) X (dcg dc_X4_spellSimple 58 rfl) (by decide) ?_
  refine p_icmp_ne (tgt := 119) X (dcg dc_X4_spellSimple 59 rfl) (by decide) (fun q => ?_) (fun q => ?_)
  · have hf := if_t q hf
    refine p_pick [] ?_
    exact wX4_spellSimple_b119 X hG hnm hM hN hu hv hf 
  · have hf := if_f q hf
    refine p_aloadq_n X (dcg dc_X4_spellSimple 60 rfl) rfl rfl ?_
    refine p_bipush (v := 42) X (dcg dc_X4_spellSimple 61 rfl) (by decide) ?_
    obtain ⟨a9, e10, hf⟩ := gs_some hf
    first | subst e10 | (try rw [e10])
    obtain ⟨hk11, hf⟩ := gd_some hf
    obtain ⟨z12, hz12, hf⟩ := bd_some hf
    have hc1 := mJ4_append_cf468 hz12
    have hm1 : lez _ (hX r) (hV r) := mX4_spellSimple_b118 hf
    refine p_callV (As := [_]) X ml_X4_103 (dcg dc_X4_spellSimple 62 rfl) rfl rfl hk11 (wJ4_append_cf468 hG hz12) (by decide) (room4 (Nat.le_of_ble_eq_true rfl)) (by have o0 := hm1.1; have o1 := hc1.1; have o2 := hM; have o3 := hu; (try simp only [hX_sI, hX_sR, hX_sL, hX_sD, hX_sIa, hX_sRa, hV_sI, hV_sR, hV_sL, hV_sD, hV_sIa, hV_sRa, hX_new, hV_new] at o0 o1 o2 o3 ⊢); omega) (by have o0 := hm1.2; have o1 := hc1.2; have o2 := hN; have o3 := hv; (try simp only [hX_sI, hX_sR, hX_sL, hX_sD, hX_sIa, hX_sRa, hV_sI, hV_sR, hV_sL, hV_sD, hV_sIa, hV_sRa, hX_new, hV_new] at o0 o1 o2 o3 ⊢); omega) ?_
    rintro _ u9 ⟨rfl, e9⟩; have e9 := e9.symm; subst e9
    refine p_pick [] ?_
    exact wX4_spellSimple_b118 X hG hnm hM hN (by have o0 := hc1.1; have o1 := hu; (try simp only [hX_sI, hX_sR, hX_sL, hX_sD, hX_sIa, hX_sRa, hV_sI, hV_sR, hV_sL, hV_sD, hV_sIa, hV_sRa, hX_new, hV_new] at o0 o1 ⊢); omega) (by have o0 := hc1.2; have o1 := hv; (try simp only [hX_sI, hX_sR, hX_sL, hX_sD, hX_sIa, hX_sRa, hV_sI, hV_sR, hV_sL, hV_sD, hV_sIa, hV_sRa, hX_new, hV_new] at o0 o1 ⊢); omega) hf 
noncomputable def fX4_spellSimple_b103 (v0 : Nat) (v1 : Option Nat) (t0 : Option Nat) (h : PH) : Option PH :=
  fX4_spellSimple_b104 v0 v1 h
set_option maxRecDepth 100000 in
theorem mX4_spellSimple_b103 {v0 : Nat} {v1 : Option Nat} {t0 : Option Nat} {h : PH} {r : PH} (hf : fX4_spellSimple_b103 v0 v1 t0 h = some r) : lez h (hX r) (hV r) := by
  unfold fX4_spellSimple_b103 at hf
  have hle := lez_rf h
  exact lez_rt (mX4_spellSimple_b104 hf) hle
set_option maxRecDepth 100000 in
theorem wX4_spellSimple_b103 {E : PE} {p : Program} {l : Launch} {e : Env} {s : State} {m : MethodId} {args : Array Value} {below : List Frame} {meth : Method} {c : Code} {X0 V0 MC MS uc us : Nat} (X : Cx E p l e (rmv 7 MC MS) s m args below meth c RX4 cX4_spellSimple 3 (none)) (hG : Gs E l) (hnm : meth.name = yX4_spellSimple.name) {v0 : Nat} {v1 : Option Nat} {t0 : Option Nat} {h : PH} {r : PH} (hM : MC + X0 = (hX r)) (hN : MS + V0 = (hV r)) (hu : uc + X0 = hX h) (hv : us + V0 = hV h) (hf : fX4_spellSimple_b103 v0 v1 t0 h = some r)  : PW E p l e (rmv 7 MC MS) s m args below meth c 3 uc us (MQ below (QG E (fun v u => v = none ∧ u = r)) args s MC MS (pA E)) h 103 [(0, some (.ref v0)), (1, some (va_rf v1))] [va_rf t0] := by
  have hm1 : lez h (hX r) (hV r) := mX4_spellSimple_b103 hf
  have hcm : uc ≤ MC := (by have o0 := hm1.1; have o1 := hM; have o2 := hu; (try simp only [hX_sI, hX_sR, hX_sL, hX_sD, hX_sIa, hX_sRa, hV_sI, hV_sR, hV_sL, hV_sD, hV_sIa, hV_sRa, hX_new, hV_new] at o0 o1 o2 ⊢); omega)
  have hsm : us ≤ MS := (by have o0 := hm1.2; have o1 := hN; have o2 := hv; (try simp only [hX_sI, hX_sR, hX_sL, hX_sD, hX_sIa, hX_sRa, hV_sI, hV_sR, hV_sL, hV_sD, hV_sIa, hV_sRa, hX_new, hV_new] at o0 o1 o2 ⊢); omega)
  clear hm1
  unfold fX4_spellSimple_b103 at hf
  refine p_pop X (dcg dc_X4_spellSimple 55 rfl) (cat_rf _) ?_
  refine p_pick [0, 1] ?_
  exact wX4_spellSimple_b104 X hG hnm hM hN hu hv hf 
noncomputable def fX4_spellSimple_b83 (v0 : Nat) (v1 : Option Nat) (v2 : Int32) (h : PH) : Option ((Int32 × PH) ⊕ PH) :=
  some (.inl ((v2 + 1), h))
set_option maxRecDepth 100000 in
theorem mX4_spellSimple_b83 {v0 : Nat} {v1 : Option Nat} {v2 : Int32} {h : PH} {x : ((Int32 × PH) ⊕ PH)} (hf : fX4_spellSimple_b83 v0 v1 v2 h = some x) : (∀ w9 : (Int32 × PH), x = .inl w9 → lez h (hX (w9.2)) (hV (w9.2))) ∧ (∀ w9 : PH, x = .inr w9 → lez h (hX w9) (hV w9)) := by
  unfold fX4_spellSimple_b83 at hf
  have hle := lez_rf h
  have ee := Option.some.inj hf; subst ee
  exact ⟨(fun z e => by have ee := Sum.inl.inj (e); subst ee; exact hle), (fun z e => nomatch e)⟩
set_option maxRecDepth 100000 in
theorem wX4_spellSimple_b83 {E : PE} {p : Program} {l : Launch} {e : Env} {s : State} {m : MethodId} {args : Array Value} {below : List Frame} {meth : Method} {c : Code} {X0 V0 MC MS uc us : Nat} (X : Cx E p l e (rmv 7 MC MS) s m args below meth c RX4 cX4_spellSimple 3 (none)) (hG : Gs E l) (hnm : meth.name = yX4_spellSimple.name) {v0 : Nat} {v1 : Option Nat} {v2 : Int32} {h : PH} {r : PH} {x : ((Int32 × PH) ⊕ PH)} (hM : MC + X0 = (hX r)) (hN : MS + V0 = (hV r)) (hu : uc + X0 = hX h) (hv : us + V0 = hV h) (hf : fX4_spellSimple_b83 v0 v1 v2 h = some x) (k0 : ∀ (z : (Int32 × PH)) (uc us : Nat), x = .inl z → uc + X0 = hX (z.2) → us + V0 = hV (z.2) → PW E p l e (rmv 7 MC MS) s m args below meth c 3 uc us (MQ below (QG E (fun v u => v = none ∧ u = r)) args s MC MS (pA E)) (z.2) 17 [(0, some (.ref v0)), (1, some (va_rf v1)), (2, some (.int (z.1)))] []) (kl0 : ∀ z : (Int32 × PH), x = .inl z → lez (z.2) (hX r) (hV r)) (kf : ∀ z : PH, x = .inr z → z = r) : PW E p l e (rmv 7 MC MS) s m args below meth c 3 uc us (MQ below (QG E (fun v u => v = none ∧ u = r)) args s MC MS (pA E)) h 83 [(0, some (.ref v0)), (1, some (va_rf v1)), (2, some (.int v2))] [] := by
  have hm1 : lez h (hX r) (hV r) := by
    obtain ⟨c0, cf⟩ := mX4_spellSimple_b83 hf
    rcases hxx : x with zz | zz
    · exact lez_tr (c0 zz hxx) (kl0 zz hxx)
    · have ee := kf zz hxx; subst ee; exact cf zz hxx
  have hcm : uc ≤ MC := (by have o0 := hm1.1; have o1 := hM; have o2 := hu; (try simp only [hX_sI, hX_sR, hX_sL, hX_sD, hX_sIa, hX_sRa, hV_sI, hV_sR, hV_sL, hV_sD, hV_sIa, hV_sRa, hX_new, hV_new] at o0 o1 o2 ⊢); omega)
  have hsm : us ≤ MS := (by have o0 := hm1.2; have o1 := hN; have o2 := hv; (try simp only [hX_sI, hX_sR, hX_sL, hX_sD, hX_sIa, hX_sRa, hV_sI, hV_sR, hV_sL, hV_sD, hV_sIa, hV_sRa, hX_new, hV_new] at o0 o1 o2 ⊢); omega)
  clear hm1
  unfold fX4_spellSimple_b83 at hf
  refine p_iinc (v := 1) X (dcg dc_X4_spellSimple 46 rfl) rfl (by decide) (by decide) (nwq (k := 1) rfl) ?_
  refine p_goto (tgt := 17) X (dcg dc_X4_spellSimple 47 rfl) (by decide) ?_
  refine p_pick [0, 1, 2] ?_
  exact k0 _ _ _ (Option.some.inj hf).symm hu hv
noncomputable def fX4_spellSimple_b73 (v0 : Nat) (v1 : Option Nat) (v2 : Int32) (h : PH) : Option ((Int32 × PH) ⊕ PH) :=
  gd (hK h v0 = 4) (gs (hR h 4 v0 1) (fun a18 =>
  gd (hK h a18 = 20 ∧ inb v2 (hN h a18)) (bd (fX10_spellNumber (hI h 20 a18 (Int32.toNatClampNeg v2)) v1 h) (fun z22 =>
  fX4_spellSimple_b83 v0 v1 v2 z22))))
set_option maxRecDepth 100000 in
theorem mX4_spellSimple_b73 {v0 : Nat} {v1 : Option Nat} {v2 : Int32} {h : PH} {x : ((Int32 × PH) ⊕ PH)} (hf : fX4_spellSimple_b73 v0 v1 v2 h = some x) : (∀ w9 : (Int32 × PH), x = .inl w9 → lez h (hX (w9.2)) (hV (w9.2))) ∧ (∀ w9 : PH, x = .inr w9 → lez h (hX w9) (hV w9)) := by
  unfold fX4_spellSimple_b73 at hf
  have hle := lez_rf h
  obtain ⟨hk17, hf⟩ := gd_some hf
  obtain ⟨a18, e19, hf⟩ := gs_some hf
  obtain ⟨⟨hk21, hb20⟩, hf⟩ := gd_some hf
  obtain ⟨z22, hz22, hf⟩ := bd_some hf
  have hle := lez_rt (mX10_spellNumber hz22) hle
  obtain ⟨c0, cf⟩ := mX4_spellSimple_b83 hf
  exact ⟨fun z e => lez_rt (c0 z (e)) hle, fun z e => lez_rt (cf z (e)) hle⟩
set_option maxRecDepth 100000 in
theorem wX4_spellSimple_b73 {E : PE} {p : Program} {l : Launch} {e : Env} {s : State} {m : MethodId} {args : Array Value} {below : List Frame} {meth : Method} {c : Code} {X0 V0 MC MS uc us : Nat} (X : Cx E p l e (rmv 7 MC MS) s m args below meth c RX4 cX4_spellSimple 3 (none)) (hG : Gs E l) (hnm : meth.name = yX4_spellSimple.name) {v0 : Nat} {v1 : Option Nat} {v2 : Int32} {h : PH} {r : PH} {x : ((Int32 × PH) ⊕ PH)} (hM : MC + X0 = (hX r)) (hN : MS + V0 = (hV r)) (hu : uc + X0 = hX h) (hv : us + V0 = hV h) (hf : fX4_spellSimple_b73 v0 v1 v2 h = some x) (k0 : ∀ (z : (Int32 × PH)) (uc us : Nat), x = .inl z → uc + X0 = hX (z.2) → us + V0 = hV (z.2) → PW E p l e (rmv 7 MC MS) s m args below meth c 3 uc us (MQ below (QG E (fun v u => v = none ∧ u = r)) args s MC MS (pA E)) (z.2) 17 [(0, some (.ref v0)), (1, some (va_rf v1)), (2, some (.int (z.1)))] []) (kl0 : ∀ z : (Int32 × PH), x = .inl z → lez (z.2) (hX r) (hV r)) (kf : ∀ z : PH, x = .inr z → z = r) : PW E p l e (rmv 7 MC MS) s m args below meth c 3 uc us (MQ below (QG E (fun v u => v = none ∧ u = r)) args s MC MS (pA E)) h 73 [(0, some (.ref v0)), (1, some (va_rf v1)), (2, some (.int v2))] [] := by
  have hm1 : lez h (hX r) (hV r) := by
    obtain ⟨c0, cf⟩ := mX4_spellSimple_b73 hf
    rcases hxx : x with zz | zz
    · exact lez_tr (c0 zz hxx) (kl0 zz hxx)
    · have ee := kf zz hxx; subst ee; exact cf zz hxx
  have hcm : uc ≤ MC := (by have o0 := hm1.1; have o1 := hM; have o2 := hu; (try simp only [hX_sI, hX_sR, hX_sL, hX_sD, hX_sIa, hX_sRa, hV_sI, hV_sR, hV_sL, hV_sD, hV_sIa, hV_sRa, hX_new, hV_new] at o0 o1 o2 ⊢); omega)
  have hsm : us ≤ MS := (by have o0 := hm1.2; have o1 := hN; have o2 := hv; (try simp only [hX_sI, hX_sR, hX_sL, hX_sD, hX_sIa, hX_sRa, hV_sI, hV_sR, hV_sL, hV_sD, hV_sIa, hV_sRa, hX_new, hV_new] at o0 o1 o2 ⊢); omega)
  clear hm1
  unfold fX4_spellSimple_b73 at hf
  refine p_aload_n X (dcg dc_X4_spellSimple 40 rfl) rfl rfl ?_
  obtain ⟨hk17, hf⟩ := gd_some hf
  refine p_getR X fl_X4_15 rfl (by decide) (dcg dc_X4_spellSimple 41 rfl) hk17 ?_
  refine p_iload_n X (dcg dc_X4_spellSimple 42 rfl) rfl rfl ?_
  obtain ⟨a18, e19, hf⟩ := gs_some hf
  first | subst e19 | (try rw [e19])
  obtain ⟨⟨hk21, hb20⟩, hf⟩ := gd_some hf
  refine p_iald X (dcg dc_X4_spellSimple 43 rfl) hk21 (vp_of_inb hb20) ?_
  refine p_aloadq_n X (dcg dc_X4_spellSimple 44 rfl) rfl rfl ?_
  obtain ⟨z22, hz22, hf⟩ := bd_some hf
  have hc1 := mX10_spellNumber hz22
  obtain ⟨c0, cf⟩ := mX4_spellSimple_b83 hf
  have hm1 := (nst1 (fun zz hxx => lez_tr (c0 zz hxx) (kl0 zz hxx)) (fun zz hxx => by have ee := kf zz hxx; subst ee; exact cf zz hxx))
  refine p_callS (As := [_, va_rf _]) X ml_X4_120 (dcg dc_X4_spellSimple 45 rfl) rfl rfl  (wX10_spellNumber hG hz22) (by decide) (room4 (Nat.le_of_ble_eq_true rfl)) (by have o0 := hm1.1; have o1 := hc1.1; have o2 := hM; have o3 := hu; (try simp only [hX_sI, hX_sR, hX_sL, hX_sD, hX_sIa, hX_sRa, hV_sI, hV_sR, hV_sL, hV_sD, hV_sIa, hV_sRa, hX_new, hV_new] at o0 o1 o2 o3 ⊢); omega) (by have o0 := hm1.2; have o1 := hc1.2; have o2 := hN; have o3 := hv; (try simp only [hX_sI, hX_sR, hX_sL, hX_sD, hX_sIa, hX_sRa, hV_sI, hV_sR, hV_sL, hV_sD, hV_sIa, hV_sRa, hX_new, hV_new] at o0 o1 o2 o3 ⊢); omega) ?_
  rintro _ u9 ⟨rfl, e9⟩; have e9 := e9.symm; subst e9
  refine p_pick [0, 1, 2] ?_
  exact wX4_spellSimple_b83 X hG hnm hM hN (by have o0 := hc1.1; have o1 := hu; (try simp only [hX_sI, hX_sR, hX_sL, hX_sD, hX_sIa, hX_sRa, hV_sI, hV_sR, hV_sL, hV_sD, hV_sIa, hV_sRa, hX_new, hV_new] at o0 o1 ⊢); omega) (by have o0 := hc1.2; have o1 := hv; (try simp only [hX_sI, hX_sR, hX_sL, hX_sD, hX_sIa, hX_sRa, hV_sI, hV_sR, hV_sL, hV_sD, hV_sIa, hV_sRa, hX_new, hV_new] at o0 o1 ⊢); omega) hf k0 kl0 kf
noncomputable def fX4_spellSimple_b72 (v0 : Nat) (v1 : Option Nat) (v2 : Int32) (t0 : Option Nat) (h : PH) : Option ((Int32 × PH) ⊕ PH) :=
  fX4_spellSimple_b73 v0 v1 v2 h
set_option maxRecDepth 100000 in
theorem mX4_spellSimple_b72 {v0 : Nat} {v1 : Option Nat} {v2 : Int32} {t0 : Option Nat} {h : PH} {x : ((Int32 × PH) ⊕ PH)} (hf : fX4_spellSimple_b72 v0 v1 v2 t0 h = some x) : (∀ w9 : (Int32 × PH), x = .inl w9 → lez h (hX (w9.2)) (hV (w9.2))) ∧ (∀ w9 : PH, x = .inr w9 → lez h (hX w9) (hV w9)) := by
  unfold fX4_spellSimple_b72 at hf
  have hle := lez_rf h
  obtain ⟨c0, cf⟩ := mX4_spellSimple_b73 hf
  exact ⟨fun z e => lez_rt (c0 z (e)) hle, fun z e => lez_rt (cf z (e)) hle⟩
set_option maxRecDepth 100000 in
theorem wX4_spellSimple_b72 {E : PE} {p : Program} {l : Launch} {e : Env} {s : State} {m : MethodId} {args : Array Value} {below : List Frame} {meth : Method} {c : Code} {X0 V0 MC MS uc us : Nat} (X : Cx E p l e (rmv 7 MC MS) s m args below meth c RX4 cX4_spellSimple 3 (none)) (hG : Gs E l) (hnm : meth.name = yX4_spellSimple.name) {v0 : Nat} {v1 : Option Nat} {v2 : Int32} {t0 : Option Nat} {h : PH} {r : PH} {x : ((Int32 × PH) ⊕ PH)} (hM : MC + X0 = (hX r)) (hN : MS + V0 = (hV r)) (hu : uc + X0 = hX h) (hv : us + V0 = hV h) (hf : fX4_spellSimple_b72 v0 v1 v2 t0 h = some x) (k0 : ∀ (z : (Int32 × PH)) (uc us : Nat), x = .inl z → uc + X0 = hX (z.2) → us + V0 = hV (z.2) → PW E p l e (rmv 7 MC MS) s m args below meth c 3 uc us (MQ below (QG E (fun v u => v = none ∧ u = r)) args s MC MS (pA E)) (z.2) 17 [(0, some (.ref v0)), (1, some (va_rf v1)), (2, some (.int (z.1)))] []) (kl0 : ∀ z : (Int32 × PH), x = .inl z → lez (z.2) (hX r) (hV r)) (kf : ∀ z : PH, x = .inr z → z = r) : PW E p l e (rmv 7 MC MS) s m args below meth c 3 uc us (MQ below (QG E (fun v u => v = none ∧ u = r)) args s MC MS (pA E)) h 72 [(0, some (.ref v0)), (1, some (va_rf v1)), (2, some (.int v2))] [va_rf t0] := by
  have hm1 : lez h (hX r) (hV r) := by
    obtain ⟨c0, cf⟩ := mX4_spellSimple_b72 hf
    rcases hxx : x with zz | zz
    · exact lez_tr (c0 zz hxx) (kl0 zz hxx)
    · have ee := kf zz hxx; subst ee; exact cf zz hxx
  have hcm : uc ≤ MC := (by have o0 := hm1.1; have o1 := hM; have o2 := hu; (try simp only [hX_sI, hX_sR, hX_sL, hX_sD, hX_sIa, hX_sRa, hV_sI, hV_sR, hV_sL, hV_sD, hV_sIa, hV_sRa, hX_new, hV_new] at o0 o1 o2 ⊢); omega)
  have hsm : us ≤ MS := (by have o0 := hm1.2; have o1 := hN; have o2 := hv; (try simp only [hX_sI, hX_sR, hX_sL, hX_sD, hX_sIa, hX_sRa, hV_sI, hV_sR, hV_sL, hV_sD, hV_sIa, hV_sRa, hX_new, hV_new] at o0 o1 o2 ⊢); omega)
  clear hm1
  unfold fX4_spellSimple_b72 at hf
  refine p_pop X (dcg dc_X4_spellSimple 39 rfl) (cat_rf _) ?_
  refine p_pick [0, 1, 2] ?_
  exact wX4_spellSimple_b73 X hG hnm hM hN hu hv hf k0 kl0 kf
noncomputable def fX4_spellSimple_b63 (v0 : Nat) (v1 : Option Nat) (v2 : Int32) (t0 : Option Nat) (h : PH) : Option ((Int32 × PH) ⊕ PH) :=
  gd (hK h v0 = 4) (gs v1 (fun a29 =>
  gd (hK h a29 = 13) (bd (fJ4_append_bf812 a29 (hI h 4 v0 2) h) (fun z32 =>
  fX4_spellSimple_b72 v0 (some a29) v2 z32.1 z32.2))))
set_option maxRecDepth 100000 in
theorem mX4_spellSimple_b63 {v0 : Nat} {v1 : Option Nat} {v2 : Int32} {t0 : Option Nat} {h : PH} {x : ((Int32 × PH) ⊕ PH)} (hf : fX4_spellSimple_b63 v0 v1 v2 t0 h = some x) : (∀ w9 : (Int32 × PH), x = .inl w9 → lez h (hX (w9.2)) (hV (w9.2))) ∧ (∀ w9 : PH, x = .inr w9 → lez h (hX w9) (hV w9)) := by
  unfold fX4_spellSimple_b63 at hf
  have hle := lez_rf h
  obtain ⟨hk28, hf⟩ := gd_some hf
  obtain ⟨a29, e30, hf⟩ := gs_some hf
  obtain ⟨hk31, hf⟩ := gd_some hf
  obtain ⟨z32, hz32, hf⟩ := bd_some hf
  have hle := lez_rt (mJ4_append_bf812 hz32) hle
  obtain ⟨c0, cf⟩ := mX4_spellSimple_b72 hf
  exact ⟨fun z e => lez_rt (c0 z (e)) hle, fun z e => lez_rt (cf z (e)) hle⟩
set_option maxRecDepth 100000 in
theorem wX4_spellSimple_b63 {E : PE} {p : Program} {l : Launch} {e : Env} {s : State} {m : MethodId} {args : Array Value} {below : List Frame} {meth : Method} {c : Code} {X0 V0 MC MS uc us : Nat} (X : Cx E p l e (rmv 7 MC MS) s m args below meth c RX4 cX4_spellSimple 3 (none)) (hG : Gs E l) (hnm : meth.name = yX4_spellSimple.name) {v0 : Nat} {v1 : Option Nat} {v2 : Int32} {t0 : Option Nat} {h : PH} {r : PH} {x : ((Int32 × PH) ⊕ PH)} (hM : MC + X0 = (hX r)) (hN : MS + V0 = (hV r)) (hu : uc + X0 = hX h) (hv : us + V0 = hV h) (hf : fX4_spellSimple_b63 v0 v1 v2 t0 h = some x) (k0 : ∀ (z : (Int32 × PH)) (uc us : Nat), x = .inl z → uc + X0 = hX (z.2) → us + V0 = hV (z.2) → PW E p l e (rmv 7 MC MS) s m args below meth c 3 uc us (MQ below (QG E (fun v u => v = none ∧ u = r)) args s MC MS (pA E)) (z.2) 17 [(0, some (.ref v0)), (1, some (va_rf v1)), (2, some (.int (z.1)))] []) (kl0 : ∀ z : (Int32 × PH), x = .inl z → lez (z.2) (hX r) (hV r)) (kf : ∀ z : PH, x = .inr z → z = r) : PW E p l e (rmv 7 MC MS) s m args below meth c 3 uc us (MQ below (QG E (fun v u => v = none ∧ u = r)) args s MC MS (pA E)) h 63 [(0, some (.ref v0)), (1, some (va_rf v1)), (2, some (.int v2))] [va_rf t0] := by
  have hm1 : lez h (hX r) (hV r) := by
    obtain ⟨c0, cf⟩ := mX4_spellSimple_b63 hf
    rcases hxx : x with zz | zz
    · exact lez_tr (c0 zz hxx) (kl0 zz hxx)
    · have ee := kf zz hxx; subst ee; exact cf zz hxx
  have hcm : uc ≤ MC := (by have o0 := hm1.1; have o1 := hM; have o2 := hu; (try simp only [hX_sI, hX_sR, hX_sL, hX_sD, hX_sIa, hX_sRa, hV_sI, hV_sR, hV_sL, hV_sD, hV_sIa, hV_sRa, hX_new, hV_new] at o0 o1 o2 ⊢); omega)
  have hsm : us ≤ MS := (by have o0 := hm1.2; have o1 := hN; have o2 := hv; (try simp only [hX_sI, hX_sR, hX_sL, hX_sD, hX_sIa, hX_sRa, hV_sI, hV_sR, hV_sL, hV_sD, hV_sIa, hV_sRa, hX_new, hV_new] at o0 o1 o2 ⊢); omega)
  clear hm1
  unfold fX4_spellSimple_b63 at hf
  refine p_pop X (dcg dc_X4_spellSimple 34 rfl) (cat_rf _) ?_
  refine p_aloadq_n X (dcg dc_X4_spellSimple 35 rfl) rfl rfl ?_
  refine p_aload_n X (dcg dc_X4_spellSimple 36 rfl) rfl rfl ?_
  obtain ⟨hk28, hf⟩ := gd_some hf
  refine p_getI X fl_X4_19 rfl (by decide) (dcg dc_X4_spellSimple 37 rfl) hk28 ?_
  obtain ⟨a29, e30, hf⟩ := gs_some hf
  first | subst e30 | (try rw [e30])
  obtain ⟨hk31, hf⟩ := gd_some hf
  obtain ⟨z32, hz32, hf⟩ := bd_some hf
  have hc1 := mJ4_append_bf812 hz32
  obtain ⟨c0, cf⟩ := mX4_spellSimple_b72 hf
  have hm1 := (nst1 (fun zz hxx => lez_tr (c0 zz hxx) (kl0 zz hxx)) (fun zz hxx => by have ee := kf zz hxx; subst ee; exact cf zz hxx))
  refine p_callV (As := [_]) X ml_X4_117 (dcg dc_X4_spellSimple 38 rfl) rfl rfl hk31 (wJ4_append_bf812 hG hz32) (by decide) (room4 (Nat.le_of_ble_eq_true rfl)) (by have o0 := hm1.1; have o1 := hc1.1; have o2 := hM; have o3 := hu; (try simp only [hX_sI, hX_sR, hX_sL, hX_sD, hX_sIa, hX_sRa, hV_sI, hV_sR, hV_sL, hV_sD, hV_sIa, hV_sRa, hX_new, hV_new] at o0 o1 o2 o3 ⊢); omega) (by have o0 := hm1.2; have o1 := hc1.2; have o2 := hN; have o3 := hv; (try simp only [hX_sI, hX_sR, hX_sL, hX_sD, hX_sIa, hX_sRa, hV_sI, hV_sR, hV_sL, hV_sD, hV_sIa, hV_sRa, hX_new, hV_new] at o0 o1 o2 o3 ⊢); omega) ?_
  rintro _ u9 ⟨rfl, e9⟩; have e9 := e9.symm; subst e9
  refine p_pick [0, 1, 2] ?_
  exact wX4_spellSimple_b72 X hG hnm hM hN (by have o0 := hc1.1; have o1 := hu; (try simp only [hX_sI, hX_sR, hX_sL, hX_sD, hX_sIa, hX_sRa, hV_sI, hV_sR, hV_sL, hV_sD, hV_sIa, hV_sRa, hX_new, hV_new] at o0 o1 ⊢); omega) (by have o0 := hc1.2; have o1 := hv; (try simp only [hX_sI, hX_sR, hX_sL, hX_sD, hX_sIa, hX_sRa, hV_sI, hV_sR, hV_sL, hV_sD, hV_sIa, hV_sRa, hX_new, hV_new] at o0 o1 ⊢); omega) hf k0 kl0 kf
noncomputable def fX4_spellSimple_b45 (v0 : Nat) (v1 : Option Nat) (v2 : Int32) (h : PH) : Option ((Int32 × PH) ⊕ PH) :=
  if (v2 ≤ 0) then (fX4_spellSimple_b73 v0 v1 v2 h) else
  gd (hK h v0 = 4) (if (¬ (hI h 4 v0 0) = (2 : Int32)) then (fX4_spellSimple_b73 v0 v1 v2 h) else
  gs v1 (fun a24 =>
  gd (hK h a24 = 13) (bd (fJ4_append_cf468 a24 (126 : Int32) h) (fun z27 =>
  fX4_spellSimple_b63 v0 (some a24) v2 z27.1 z27.2))))
set_option maxRecDepth 100000 in
theorem mX4_spellSimple_b45 {v0 : Nat} {v1 : Option Nat} {v2 : Int32} {h : PH} {x : ((Int32 × PH) ⊕ PH)} (hf : fX4_spellSimple_b45 v0 v1 v2 h = some x) : (∀ w9 : (Int32 × PH), x = .inl w9 → lez h (hX (w9.2)) (hV (w9.2))) ∧ (∀ w9 : PH, x = .inr w9 → lez h (hX w9) (hV w9)) := by
  unfold fX4_spellSimple_b45 at hf
  have hle := lez_rf h
  rcases ite_or hf with ⟨q, hf⟩ | ⟨q, hf⟩
  · have hf := if_t q hf
    obtain ⟨c0, cf⟩ := mX4_spellSimple_b73 hf
    exact ⟨fun z e => lez_rt (c0 z (e)) hle, fun z e => lez_rt (cf z (e)) hle⟩
  · have hf := if_f q hf
    obtain ⟨hk23, hf⟩ := gd_some hf
    rcases ite_or hf with ⟨q, hf⟩ | ⟨q, hf⟩
    · have hf := if_t q hf
      obtain ⟨c0, cf⟩ := mX4_spellSimple_b73 hf
      exact ⟨fun z e => lez_rt (c0 z (e)) hle, fun z e => lez_rt (cf z (e)) hle⟩
    · have hf := if_f q hf
      obtain ⟨a24, e25, hf⟩ := gs_some hf
      obtain ⟨hk26, hf⟩ := gd_some hf
      obtain ⟨z27, hz27, hf⟩ := bd_some hf
      have hle := lez_rt (mJ4_append_cf468 hz27) hle
      obtain ⟨c0, cf⟩ := mX4_spellSimple_b63 hf
      exact ⟨fun z e => lez_rt (c0 z (e)) hle, fun z e => lez_rt (cf z (e)) hle⟩
set_option maxRecDepth 100000 in
theorem wX4_spellSimple_b45 {E : PE} {p : Program} {l : Launch} {e : Env} {s : State} {m : MethodId} {args : Array Value} {below : List Frame} {meth : Method} {c : Code} {X0 V0 MC MS uc us : Nat} (X : Cx E p l e (rmv 7 MC MS) s m args below meth c RX4 cX4_spellSimple 3 (none)) (hG : Gs E l) (hnm : meth.name = yX4_spellSimple.name) {v0 : Nat} {v1 : Option Nat} {v2 : Int32} {h : PH} {r : PH} {x : ((Int32 × PH) ⊕ PH)} (hM : MC + X0 = (hX r)) (hN : MS + V0 = (hV r)) (hu : uc + X0 = hX h) (hv : us + V0 = hV h) (hf : fX4_spellSimple_b45 v0 v1 v2 h = some x) (k0 : ∀ (z : (Int32 × PH)) (uc us : Nat), x = .inl z → uc + X0 = hX (z.2) → us + V0 = hV (z.2) → PW E p l e (rmv 7 MC MS) s m args below meth c 3 uc us (MQ below (QG E (fun v u => v = none ∧ u = r)) args s MC MS (pA E)) (z.2) 17 [(0, some (.ref v0)), (1, some (va_rf v1)), (2, some (.int (z.1)))] []) (kl0 : ∀ z : (Int32 × PH), x = .inl z → lez (z.2) (hX r) (hV r)) (kf : ∀ z : PH, x = .inr z → z = r) : PW E p l e (rmv 7 MC MS) s m args below meth c 3 uc us (MQ below (QG E (fun v u => v = none ∧ u = r)) args s MC MS (pA E)) h 45 [(0, some (.ref v0)), (1, some (va_rf v1)), (2, some (.int v2))] [] := by
  have hm1 : lez h (hX r) (hV r) := by
    obtain ⟨c0, cf⟩ := mX4_spellSimple_b45 hf
    rcases hxx : x with zz | zz
    · exact lez_tr (c0 zz hxx) (kl0 zz hxx)
    · have ee := kf zz hxx; subst ee; exact cf zz hxx
  have hcm : uc ≤ MC := (by have o0 := hm1.1; have o1 := hM; have o2 := hu; (try simp only [hX_sI, hX_sR, hX_sL, hX_sD, hX_sIa, hX_sRa, hV_sI, hV_sR, hV_sL, hV_sD, hV_sIa, hV_sRa, hX_new, hV_new] at o0 o1 o2 ⊢); omega)
  have hsm : us ≤ MS := (by have o0 := hm1.2; have o1 := hN; have o2 := hv; (try simp only [hX_sI, hX_sR, hX_sL, hX_sD, hX_sIa, hX_sRa, hV_sI, hV_sR, hV_sL, hV_sD, hV_sIa, hV_sRa, hX_new, hV_new] at o0 o1 o2 ⊢); omega)
  clear hm1
  unfold fX4_spellSimple_b45 at hf
  refine p_iload_n X (dcg dc_X4_spellSimple 25 rfl) rfl rfl ?_
  refine p_if_le (tgt := 73) X (dcg dc_X4_spellSimple 26 rfl) (by decide) (fun q => ?_) (fun q => ?_)
  · have hf := if_t q hf
    refine p_pick [0, 1, 2] ?_
    exact wX4_spellSimple_b73 X hG hnm hM hN hu hv hf k0 kl0 kf
  · have hf := if_f q hf
    refine p_aload_n X (dcg dc_X4_spellSimple 27 rfl) rfl rfl ?_
    obtain ⟨hk23, hf⟩ := gd_some hf
    refine p_getI X fl_X4_9 rfl (by decide) (dcg dc_X4_spellSimple 28 rfl) hk23 ?_
    refine p_iconst (v := 2) X (dcg dc_X4_spellSimple 29 rfl) (by decide) ?_
    refine p_icmp_ne (tgt := 73) X (dcg dc_X4_spellSimple 30 rfl) (by decide) (fun q => ?_) (fun q => ?_)
    · have hf := if_t q hf
      refine p_pick [0, 1, 2] ?_
      exact wX4_spellSimple_b73 X hG hnm hM hN hu hv hf k0 kl0 kf
    · have hf := if_f q hf
      refine p_aloadq_n X (dcg dc_X4_spellSimple 31 rfl) rfl rfl ?_
      refine p_bipush (v := 126) X (dcg dc_X4_spellSimple 32 rfl) (by decide) ?_
      obtain ⟨a24, e25, hf⟩ := gs_some hf
      first | subst e25 | (try rw [e25])
      obtain ⟨hk26, hf⟩ := gd_some hf
      obtain ⟨z27, hz27, hf⟩ := bd_some hf
      have hc1 := mJ4_append_cf468 hz27
      obtain ⟨c0, cf⟩ := mX4_spellSimple_b63 hf
      have hm1 := (nst1 (fun zz hxx => lez_tr (c0 zz hxx) (kl0 zz hxx)) (fun zz hxx => by have ee := kf zz hxx; subst ee; exact cf zz hxx))
      refine p_callV (As := [_]) X ml_X4_103 (dcg dc_X4_spellSimple 33 rfl) rfl rfl hk26 (wJ4_append_cf468 hG hz27) (by decide) (room4 (Nat.le_of_ble_eq_true rfl)) (by have o0 := hm1.1; have o1 := hc1.1; have o2 := hM; have o3 := hu; (try simp only [hX_sI, hX_sR, hX_sL, hX_sD, hX_sIa, hX_sRa, hV_sI, hV_sR, hV_sL, hV_sD, hV_sIa, hV_sRa, hX_new, hV_new] at o0 o1 o2 o3 ⊢); omega) (by have o0 := hm1.2; have o1 := hc1.2; have o2 := hN; have o3 := hv; (try simp only [hX_sI, hX_sR, hX_sL, hX_sD, hX_sIa, hX_sRa, hV_sI, hV_sR, hV_sL, hV_sD, hV_sIa, hV_sRa, hX_new, hV_new] at o0 o1 o2 o3 ⊢); omega) ?_
      rintro _ u9 ⟨rfl, e9⟩; have e9 := e9.symm; subst e9
      refine p_pick [0, 1, 2] ?_
      exact wX4_spellSimple_b63 X hG hnm hM hN (by have o0 := hc1.1; have o1 := hu; (try simp only [hX_sI, hX_sR, hX_sL, hX_sD, hX_sIa, hX_sRa, hV_sI, hV_sR, hV_sL, hV_sD, hV_sIa, hV_sRa, hX_new, hV_new] at o0 o1 ⊢); omega) (by have o0 := hc1.2; have o1 := hv; (try simp only [hX_sI, hX_sR, hX_sL, hX_sD, hX_sIa, hX_sRa, hV_sI, hV_sR, hV_sL, hV_sD, hV_sIa, hV_sRa, hX_new, hV_new] at o0 o1 ⊢); omega) hf k0 kl0 kf
noncomputable def fX4_spellSimple_b44 (v0 : Nat) (v1 : Option Nat) (v2 : Int32) (t0 : Option Nat) (h : PH) : Option ((Int32 × PH) ⊕ PH) :=
  fX4_spellSimple_b45 v0 v1 v2 h
set_option maxRecDepth 100000 in
theorem mX4_spellSimple_b44 {v0 : Nat} {v1 : Option Nat} {v2 : Int32} {t0 : Option Nat} {h : PH} {x : ((Int32 × PH) ⊕ PH)} (hf : fX4_spellSimple_b44 v0 v1 v2 t0 h = some x) : (∀ w9 : (Int32 × PH), x = .inl w9 → lez h (hX (w9.2)) (hV (w9.2))) ∧ (∀ w9 : PH, x = .inr w9 → lez h (hX w9) (hV w9)) := by
  unfold fX4_spellSimple_b44 at hf
  have hle := lez_rf h
  obtain ⟨c0, cf⟩ := mX4_spellSimple_b45 hf
  exact ⟨fun z e => lez_rt (c0 z (e)) hle, fun z e => lez_rt (cf z (e)) hle⟩
set_option maxRecDepth 100000 in
theorem wX4_spellSimple_b44 {E : PE} {p : Program} {l : Launch} {e : Env} {s : State} {m : MethodId} {args : Array Value} {below : List Frame} {meth : Method} {c : Code} {X0 V0 MC MS uc us : Nat} (X : Cx E p l e (rmv 7 MC MS) s m args below meth c RX4 cX4_spellSimple 3 (none)) (hG : Gs E l) (hnm : meth.name = yX4_spellSimple.name) {v0 : Nat} {v1 : Option Nat} {v2 : Int32} {t0 : Option Nat} {h : PH} {r : PH} {x : ((Int32 × PH) ⊕ PH)} (hM : MC + X0 = (hX r)) (hN : MS + V0 = (hV r)) (hu : uc + X0 = hX h) (hv : us + V0 = hV h) (hf : fX4_spellSimple_b44 v0 v1 v2 t0 h = some x) (k0 : ∀ (z : (Int32 × PH)) (uc us : Nat), x = .inl z → uc + X0 = hX (z.2) → us + V0 = hV (z.2) → PW E p l e (rmv 7 MC MS) s m args below meth c 3 uc us (MQ below (QG E (fun v u => v = none ∧ u = r)) args s MC MS (pA E)) (z.2) 17 [(0, some (.ref v0)), (1, some (va_rf v1)), (2, some (.int (z.1)))] []) (kl0 : ∀ z : (Int32 × PH), x = .inl z → lez (z.2) (hX r) (hV r)) (kf : ∀ z : PH, x = .inr z → z = r) : PW E p l e (rmv 7 MC MS) s m args below meth c 3 uc us (MQ below (QG E (fun v u => v = none ∧ u = r)) args s MC MS (pA E)) h 44 [(0, some (.ref v0)), (1, some (va_rf v1)), (2, some (.int v2))] [va_rf t0] := by
  have hm1 : lez h (hX r) (hV r) := by
    obtain ⟨c0, cf⟩ := mX4_spellSimple_b44 hf
    rcases hxx : x with zz | zz
    · exact lez_tr (c0 zz hxx) (kl0 zz hxx)
    · have ee := kf zz hxx; subst ee; exact cf zz hxx
  have hcm : uc ≤ MC := (by have o0 := hm1.1; have o1 := hM; have o2 := hu; (try simp only [hX_sI, hX_sR, hX_sL, hX_sD, hX_sIa, hX_sRa, hV_sI, hV_sR, hV_sL, hV_sD, hV_sIa, hV_sRa, hX_new, hV_new] at o0 o1 o2 ⊢); omega)
  have hsm : us ≤ MS := (by have o0 := hm1.2; have o1 := hN; have o2 := hv; (try simp only [hX_sI, hX_sR, hX_sL, hX_sD, hX_sIa, hX_sRa, hV_sI, hV_sR, hV_sL, hV_sD, hV_sIa, hV_sRa, hX_new, hV_new] at o0 o1 o2 ⊢); omega)
  clear hm1
  unfold fX4_spellSimple_b44 at hf
  refine p_pop X (dcg dc_X4_spellSimple 24 rfl) (cat_rf _) ?_
  refine p_pick [0, 1, 2] ?_
  exact wX4_spellSimple_b45 X hG hnm hM hN hu hv hf k0 kl0 kf
noncomputable def fX4_spellSimple_c17 (v0 : Nat) (v1 : Option Nat) (v2 : Int32) (h : PH) : Option ((Int32 × PH) ⊕ PH) :=
  gd (hK h v0 = 4) (gs (hR h 4 v0 1) (fun a3 =>
  gd (hK h a3 = 20) (if ((nI (hN h a3)) ≤ v2) then (mr (if (¬ (hI h 4 v0 0) = (3 : Int32)) then (fX4_spellSimple_b104 v0 v1 h) else
  gs v1 (fun a13 =>
  gd (hK h a13 = 13) (bd (fJ4_append_cf468 a13 (93 : Int32) h) (fun z16 =>
  fX4_spellSimple_b103 v0 (some a13) z16.1 z16.2))))) else
  if (v2 ≤ 0) then (fX4_spellSimple_b45 v0 v1 v2 h) else
  if (¬ (hI h 4 v0 0) = (3 : Int32)) then (fX4_spellSimple_b45 v0 v1 v2 h) else
  gs v1 (fun a33 =>
  gd (hK h a33 = 13) (bd (fJ4_append_cf468 a33 (32 : Int32) h) (fun z36 =>
  fX4_spellSimple_b44 v0 (some a33) v2 z36.1 z36.2))))))
set_option maxRecDepth 100000 in
theorem mX4_spellSimple_c17 {v0 : Nat} {v1 : Option Nat} {v2 : Int32} {h : PH} {x : ((Int32 × PH) ⊕ PH)} (hf : fX4_spellSimple_c17 v0 v1 v2 h = some x) : (∀ w9 : (Int32 × PH), x = .inl w9 → lez h (hX (w9.2)) (hV (w9.2))) ∧ (∀ w9 : PH, x = .inr w9 → lez h (hX w9) (hV w9)) := by
  unfold fX4_spellSimple_c17 at hf
  have hle := lez_rf h
  obtain ⟨hk2, hf⟩ := gd_some hf
  obtain ⟨a3, e4, hf⟩ := gs_some hf
  obtain ⟨hk5, hf⟩ := gd_some hf
  rcases ite_or hf with ⟨q, hf⟩ | ⟨q, hf⟩
  · have hf := if_t q hf
    obtain ⟨y6, hfm, rfl⟩ := mr_some hf; have hf := hfm; clear hfm
    rcases ite_or hf with ⟨q, hf⟩ | ⟨q, hf⟩
    · have hf := if_t q hf
      have cf := mX4_spellSimple_b104 hf
      exact ⟨(fun z e => nomatch e), (fun z e => by cases e <;> exact lez_rt cf hle)⟩
    · have hf := if_f q hf
      obtain ⟨a13, e14, hf⟩ := gs_some hf
      obtain ⟨hk15, hf⟩ := gd_some hf
      obtain ⟨z16, hz16, hf⟩ := bd_some hf
      have hle := lez_rt (mJ4_append_cf468 hz16) hle
      have cf := mX4_spellSimple_b103 hf
      exact ⟨(fun z e => nomatch e), (fun z e => by cases e <;> exact lez_rt cf hle)⟩
  · have hf := if_f q hf
    rcases ite_or hf with ⟨q, hf⟩ | ⟨q, hf⟩
    · have hf := if_t q hf
      obtain ⟨c0, cf⟩ := mX4_spellSimple_b45 hf
      exact ⟨fun z e => lez_rt (c0 z (e)) hle, fun z e => lez_rt (cf z (e)) hle⟩
    · have hf := if_f q hf
      rcases ite_or hf with ⟨q, hf⟩ | ⟨q, hf⟩
      · have hf := if_t q hf
        obtain ⟨c0, cf⟩ := mX4_spellSimple_b45 hf
        exact ⟨fun z e => lez_rt (c0 z (e)) hle, fun z e => lez_rt (cf z (e)) hle⟩
      · have hf := if_f q hf
        obtain ⟨a33, e34, hf⟩ := gs_some hf
        obtain ⟨hk35, hf⟩ := gd_some hf
        obtain ⟨z36, hz36, hf⟩ := bd_some hf
        have hle := lez_rt (mJ4_append_cf468 hz36) hle
        obtain ⟨c0, cf⟩ := mX4_spellSimple_b44 hf
        exact ⟨fun z e => lez_rt (c0 z (e)) hle, fun z e => lez_rt (cf z (e)) hle⟩
set_option maxRecDepth 100000 in
theorem wX4_spellSimple_c17 {E : PE} {p : Program} {l : Launch} {e : Env} {s : State} {m : MethodId} {args : Array Value} {below : List Frame} {meth : Method} {c : Code} {X0 V0 MC MS uc us : Nat} (X : Cx E p l e (rmv 7 MC MS) s m args below meth c RX4 cX4_spellSimple 3 (none)) (hG : Gs E l) (hnm : meth.name = yX4_spellSimple.name) {v0 : Nat} {v1 : Option Nat} {v2 : Int32} {h : PH} {r : PH} {x : ((Int32 × PH) ⊕ PH)} (hM : MC + X0 = (hX r)) (hN : MS + V0 = (hV r)) (hu : uc + X0 = hX h) (hv : us + V0 = hV h) (hf : fX4_spellSimple_c17 v0 v1 v2 h = some x) (k0 : ∀ (z : (Int32 × PH)) (uc us : Nat), x = .inl z → uc + X0 = hX (z.2) → us + V0 = hV (z.2) → PW E p l e (rmv 7 MC MS) s m args below meth c 3 uc us (MQ below (QG E (fun v u => v = none ∧ u = r)) args s MC MS (pA E)) (z.2) 17 [(0, some (.ref v0)), (1, some (va_rf v1)), (2, some (.int (z.1)))] []) (kl0 : ∀ z : (Int32 × PH), x = .inl z → lez (z.2) (hX r) (hV r)) (kf : ∀ z : PH, x = .inr z → z = r) : PW E p l e (rmv 7 MC MS) s m args below meth c 3 uc us (MQ below (QG E (fun v u => v = none ∧ u = r)) args s MC MS (pA E)) h 17 [(0, some (.ref v0)), (1, some (va_rf v1)), (2, some (.int v2))] [] := by
  have hm1 : lez h (hX r) (hV r) := by
    obtain ⟨c0, cf⟩ := mX4_spellSimple_c17 hf
    rcases hxx : x with zz | zz
    · exact lez_tr (c0 zz hxx) (kl0 zz hxx)
    · have ee := kf zz hxx; subst ee; exact cf zz hxx
  have hcm : uc ≤ MC := (by have o0 := hm1.1; have o1 := hM; have o2 := hu; (try simp only [hX_sI, hX_sR, hX_sL, hX_sD, hX_sIa, hX_sRa, hV_sI, hV_sR, hV_sL, hV_sD, hV_sIa, hV_sRa, hX_new, hV_new] at o0 o1 o2 ⊢); omega)
  have hsm : us ≤ MS := (by have o0 := hm1.2; have o1 := hN; have o2 := hv; (try simp only [hX_sI, hX_sR, hX_sL, hX_sD, hX_sIa, hX_sRa, hV_sI, hV_sR, hV_sL, hV_sD, hV_sIa, hV_sRa, hX_new, hV_new] at o0 o1 o2 ⊢); omega)
  clear hm1
  unfold fX4_spellSimple_c17 at hf
  refine p_iload_n X (dcg dc_X4_spellSimple 10 rfl) rfl rfl ?_
  refine p_aload_n X (dcg dc_X4_spellSimple 11 rfl) rfl rfl ?_
  obtain ⟨hk2, hf⟩ := gd_some hf
  refine p_getR X fl_X4_15 rfl (by decide) (dcg dc_X4_spellSimple 12 rfl) hk2 ?_
  obtain ⟨a3, e4, hf⟩ := gs_some hf
  first | subst e4 | (try rw [e4])
  obtain ⟨hk5, hf⟩ := gd_some hf
  refine p_alen20 X (dcg dc_X4_spellSimple 13 rfl) hk5 ?_
  refine p_icmp_ge (tgt := 89) X (dcg dc_X4_spellSimple 14 rfl) (by decide) (fun q => ?_) (fun q => ?_)
  · have hf := if_t q hf
    obtain ⟨y6, hf, hy7⟩ := mr_some hf
    have hy7f := kf y6 hy7
    subst hy7f
    refine p_aload_n X (dcg dc_X4_spellSimple 48 rfl) rfl rfl ?_
    refine p_getI X fl_X4_9 rfl (by decide) (dcg dc_X4_spellSimple 49 rfl) hk2 ?_
    refine p_iconst (v := 3) X (dcg dc_X4_spellSimple 50 rfl) (by decide) ?_
    refine p_icmp_ne (tgt := 104) X (dcg dc_X4_spellSimple 51 rfl) (by decide) (fun q => ?_) (fun q => ?_)
    · have hf := if_t q hf
      refine p_pick [0, 1] ?_
      exact wX4_spellSimple_b104 X hG hnm hM hN hu hv hf 
    · have hf := if_f q hf
      refine p_aloadq_n X (dcg dc_X4_spellSimple 52 rfl) rfl rfl ?_
      refine p_bipush (v := 93) X (dcg dc_X4_spellSimple 53 rfl) (by decide) ?_
      obtain ⟨a13, e14, hf⟩ := gs_some hf
      first | subst e14 | (try rw [e14])
      obtain ⟨hk15, hf⟩ := gd_some hf
      obtain ⟨z16, hz16, hf⟩ := bd_some hf
      have hc1 := mJ4_append_cf468 hz16
      have hm1 := mX4_spellSimple_b103 hf
      refine p_callV (As := [_]) X ml_X4_103 (dcg dc_X4_spellSimple 54 rfl) rfl rfl hk15 (wJ4_append_cf468 hG hz16) (by decide) (room4 (Nat.le_of_ble_eq_true rfl)) (by have o0 := hm1.1; have o1 := hc1.1; have o2 := hM; have o3 := hu; (try simp only [hX_sI, hX_sR, hX_sL, hX_sD, hX_sIa, hX_sRa, hV_sI, hV_sR, hV_sL, hV_sD, hV_sIa, hV_sRa, hX_new, hV_new] at o0 o1 o2 o3 ⊢); omega) (by have o0 := hm1.2; have o1 := hc1.2; have o2 := hN; have o3 := hv; (try simp only [hX_sI, hX_sR, hX_sL, hX_sD, hX_sIa, hX_sRa, hV_sI, hV_sR, hV_sL, hV_sD, hV_sIa, hV_sRa, hX_new, hV_new] at o0 o1 o2 o3 ⊢); omega) ?_
      rintro _ u9 ⟨rfl, e9⟩; have e9 := e9.symm; subst e9
      refine p_pick [0, 1] ?_
      exact wX4_spellSimple_b103 X hG hnm hM hN (by have o0 := hc1.1; have o1 := hu; (try simp only [hX_sI, hX_sR, hX_sL, hX_sD, hX_sIa, hX_sRa, hV_sI, hV_sR, hV_sL, hV_sD, hV_sIa, hV_sRa, hX_new, hV_new] at o0 o1 ⊢); omega) (by have o0 := hc1.2; have o1 := hv; (try simp only [hX_sI, hX_sR, hX_sL, hX_sD, hX_sIa, hX_sRa, hV_sI, hV_sR, hV_sL, hV_sD, hV_sIa, hV_sRa, hX_new, hV_new] at o0 o1 ⊢); omega) hf 
  · have hf := if_f q hf
    refine p_iload_n X (dcg dc_X4_spellSimple 15 rfl) rfl rfl ?_
    refine p_if_le (tgt := 45) X (dcg dc_X4_spellSimple 16 rfl) (by decide) (fun q => ?_) (fun q => ?_)
    · have hf := if_t q hf
      refine p_pick [0, 1, 2] ?_
      exact wX4_spellSimple_b45 X hG hnm hM hN hu hv hf k0 kl0 kf
    · have hf := if_f q hf
      refine p_aload_n X (dcg dc_X4_spellSimple 17 rfl) rfl rfl ?_
      refine p_getI X fl_X4_9 rfl (by decide) (dcg dc_X4_spellSimple 18 rfl) hk2 ?_
      refine p_iconst (v := 3) X (dcg dc_X4_spellSimple 19 rfl) (by decide) ?_
      refine p_icmp_ne (tgt := 45) X (dcg dc_X4_spellSimple 20 rfl) (by decide) (fun q => ?_) (fun q => ?_)
      · have hf := if_t q hf
        refine p_pick [0, 1, 2] ?_
        exact wX4_spellSimple_b45 X hG hnm hM hN hu hv hf k0 kl0 kf
      · have hf := if_f q hf
        refine p_aloadq_n X (dcg dc_X4_spellSimple 21 rfl) rfl rfl ?_
        refine p_bipush (v := 32) X (dcg dc_X4_spellSimple 22 rfl) (by decide) ?_
        obtain ⟨a33, e34, hf⟩ := gs_some hf
        first | subst e34 | (try rw [e34])
        obtain ⟨hk35, hf⟩ := gd_some hf
        obtain ⟨z36, hz36, hf⟩ := bd_some hf
        have hc1 := mJ4_append_cf468 hz36
        obtain ⟨c0, cf⟩ := mX4_spellSimple_b44 hf
        have hm1 := (nst1 (fun zz hxx => lez_tr (c0 zz hxx) (kl0 zz hxx)) (fun zz hxx => by have ee := kf zz hxx; subst ee; exact cf zz hxx))
        refine p_callV (As := [_]) X ml_X4_103 (dcg dc_X4_spellSimple 23 rfl) rfl rfl hk35 (wJ4_append_cf468 hG hz36) (by decide) (room4 (Nat.le_of_ble_eq_true rfl)) (by have o0 := hm1.1; have o1 := hc1.1; have o2 := hM; have o3 := hu; (try simp only [hX_sI, hX_sR, hX_sL, hX_sD, hX_sIa, hX_sRa, hV_sI, hV_sR, hV_sL, hV_sD, hV_sIa, hV_sRa, hX_new, hV_new] at o0 o1 o2 o3 ⊢); omega) (by have o0 := hm1.2; have o1 := hc1.2; have o2 := hN; have o3 := hv; (try simp only [hX_sI, hX_sR, hX_sL, hX_sD, hX_sIa, hX_sRa, hV_sI, hV_sR, hV_sL, hV_sD, hV_sIa, hV_sRa, hX_new, hV_new] at o0 o1 o2 o3 ⊢); omega) ?_
        rintro _ u9 ⟨rfl, e9⟩; have e9 := e9.symm; subst e9
        refine p_pick [0, 1, 2] ?_
        exact wX4_spellSimple_b44 X hG hnm hM hN (by have o0 := hc1.1; have o1 := hu; (try simp only [hX_sI, hX_sR, hX_sL, hX_sD, hX_sIa, hX_sRa, hV_sI, hV_sR, hV_sL, hV_sD, hV_sIa, hV_sRa, hX_new, hV_new] at o0 o1 ⊢); omega) (by have o0 := hc1.2; have o1 := hv; (try simp only [hX_sI, hX_sR, hX_sL, hX_sD, hX_sIa, hX_sRa, hV_sI, hV_sR, hV_sL, hV_sD, hV_sIa, hV_sRa, hX_new, hV_new] at o0 o1 ⊢); omega) hf k0 kl0 kf
noncomputable def fX4_spellSimple_l17 (v0 : Nat) (v1 : Option Nat) (v2 : Int32) (h : PH) : Option PH := wh (fun z : (Int32 × PH) => fX4_spellSimple_c17 v0 v1 (z.1) (z.2)) (v2, h)
set_option maxRecDepth 100000 in
theorem mX4_spellSimple_l17 {v0 : Nat} {v1 : Option Nat} {v2 : Int32} {h : PH} {r : PH} (hf : fX4_spellSimple_l17 v0 v1 v2 h = some r) : lez h (hX r) (hV r) := by
  unfold fX4_spellSimple_l17 at hf
  refine wh_ind (P := fun z => lez (z.2) (hX r) (hV r)) (fun z x0 hs i1 i2 => ?_) _ hf
  obtain ⟨c0, cf⟩ := mX4_spellSimple_c17 (v0 := v0) (v1 := v1) (v2 := z.1) (h := z.2) hs
  rcases hxx : x0 with zz | zz
  · exact lez_tr (c0 zz hxx) (i1 zz hxx)
  · have ee := i2 zz hxx; subst ee; exact cf zz hxx
set_option maxRecDepth 100000 in
theorem wX4_spellSimple_l17 {E : PE} {p : Program} {l : Launch} {e : Env} {s : State} {m : MethodId} {args : Array Value} {below : List Frame} {meth : Method} {c : Code} {X0 V0 MC MS uc us : Nat} (X : Cx E p l e (rmv 7 MC MS) s m args below meth c RX4 cX4_spellSimple 3 (none)) (hG : Gs E l) (hnm : meth.name = yX4_spellSimple.name) {v0 : Nat} {v1 : Option Nat} {v2 : Int32} {h : PH} {r : PH} (hM : MC + X0 = (hX r)) (hN : MS + V0 = (hV r)) (hu : uc + X0 = hX h) (hv : us + V0 = hV h) (hf : fX4_spellSimple_l17 v0 v1 v2 h = some r)  : PW E p l e (rmv 7 MC MS) s m args below meth c 3 uc us (MQ below (QG E (fun v u => v = none ∧ u = r)) args s MC MS (pA E)) h 17 [(0, some (.ref v0)), (1, some (va_rf v1)), (2, some (.int v2))] [] := by
  unfold fX4_spellSimple_l17 at hf
  refine wh_ind2 (P := fun z => ∀ uc us : Nat, uc + X0 = hX (z.2) → us + V0 = hV (z.2) → PW E p l e (rmv 7 MC MS) s m args below meth c 3 uc us (MQ below (QG E (fun v u => v = none ∧ u = r)) args s MC MS (pA E)) (z.2) 17 [(0, some (.ref v0)), (1, some (va_rf v1)), (2, some (.int (z.1)))] []) (fun z x0 hs i1 i2 uc us hu hv => ?_) _ hf uc us hu hv
  exact wX4_spellSimple_c17 (r := r) (v0 := v0) (v1 := v1) (v2 := z.1) (h := z.2) X hG hnm hM hN hu hv hs (fun z1 uc1 us1 e1 e2 e3 => (i1 z1 e1).1 uc1 us1 e2 e3) (fun z1 e1 => mX4_spellSimple_l17 (v0 := v0) (v1 := v1) (v2 := z1.1) (h := z1.2) (by unfold fX4_spellSimple_l17; exact (i1 z1 e1).2))  i2
noncomputable def fX4_spellSimple_b15 (v0 : Nat) (v1 : Option Nat) (h : PH) : Option PH :=
  fX4_spellSimple_l17 v0 v1 (0 : Int32) h
set_option maxRecDepth 100000 in
theorem mX4_spellSimple_b15 {v0 : Nat} {v1 : Option Nat} {h : PH} {r : PH} (hf : fX4_spellSimple_b15 v0 v1 h = some r) : lez h (hX r) (hV r) := by
  unfold fX4_spellSimple_b15 at hf
  have hle := lez_rf h
  exact lez_rt (mX4_spellSimple_l17 hf) hle
set_option maxRecDepth 100000 in
theorem wX4_spellSimple_b15 {E : PE} {p : Program} {l : Launch} {e : Env} {s : State} {m : MethodId} {args : Array Value} {below : List Frame} {meth : Method} {c : Code} {X0 V0 MC MS uc us : Nat} (X : Cx E p l e (rmv 7 MC MS) s m args below meth c RX4 cX4_spellSimple 3 (none)) (hG : Gs E l) (hnm : meth.name = yX4_spellSimple.name) {v0 : Nat} {v1 : Option Nat} {h : PH} {r : PH} (hM : MC + X0 = (hX r)) (hN : MS + V0 = (hV r)) (hu : uc + X0 = hX h) (hv : us + V0 = hV h) (hf : fX4_spellSimple_b15 v0 v1 h = some r)  : PW E p l e (rmv 7 MC MS) s m args below meth c 3 uc us (MQ below (QG E (fun v u => v = none ∧ u = r)) args s MC MS (pA E)) h 15 [(0, some (.ref v0)), (1, some (va_rf v1))] [] := by
  have hm1 : lez h (hX r) (hV r) := mX4_spellSimple_b15 hf
  have hcm : uc ≤ MC := (by have o0 := hm1.1; have o1 := hM; have o2 := hu; (try simp only [hX_sI, hX_sR, hX_sL, hX_sD, hX_sIa, hX_sRa, hV_sI, hV_sR, hV_sL, hV_sD, hV_sIa, hV_sRa, hX_new, hV_new] at o0 o1 o2 ⊢); omega)
  have hsm : us ≤ MS := (by have o0 := hm1.2; have o1 := hN; have o2 := hv; (try simp only [hX_sI, hX_sR, hX_sL, hX_sD, hX_sIa, hX_sRa, hV_sI, hV_sR, hV_sL, hV_sD, hV_sIa, hV_sRa, hX_new, hV_new] at o0 o1 o2 ⊢); omega)
  clear hm1
  unfold fX4_spellSimple_b15 at hf
  refine p_iconst (v := 0) X (dcg dc_X4_spellSimple 8 rfl) (by decide) ?_
  refine p_istore_n X (dcg dc_X4_spellSimple 9 rfl) rfl (by decide) (nwq (k := 1) rfl) ?_
  refine p_pick [0, 1, 2] ?_
  exact wX4_spellSimple_l17 X hG hnm hM hN hu hv hf 
noncomputable def fX4_spellSimple_b14 (v0 : Nat) (v1 : Option Nat) (t0 : Option Nat) (h : PH) : Option PH :=
  fX4_spellSimple_b15 v0 v1 h
set_option maxRecDepth 100000 in
theorem mX4_spellSimple_b14 {v0 : Nat} {v1 : Option Nat} {t0 : Option Nat} {h : PH} {r : PH} (hf : fX4_spellSimple_b14 v0 v1 t0 h = some r) : lez h (hX r) (hV r) := by
  unfold fX4_spellSimple_b14 at hf
  have hle := lez_rf h
  exact lez_rt (mX4_spellSimple_b15 hf) hle
set_option maxRecDepth 100000 in
theorem wX4_spellSimple_b14 {E : PE} {p : Program} {l : Launch} {e : Env} {s : State} {m : MethodId} {args : Array Value} {below : List Frame} {meth : Method} {c : Code} {X0 V0 MC MS uc us : Nat} (X : Cx E p l e (rmv 7 MC MS) s m args below meth c RX4 cX4_spellSimple 3 (none)) (hG : Gs E l) (hnm : meth.name = yX4_spellSimple.name) {v0 : Nat} {v1 : Option Nat} {t0 : Option Nat} {h : PH} {r : PH} (hM : MC + X0 = (hX r)) (hN : MS + V0 = (hV r)) (hu : uc + X0 = hX h) (hv : us + V0 = hV h) (hf : fX4_spellSimple_b14 v0 v1 t0 h = some r)  : PW E p l e (rmv 7 MC MS) s m args below meth c 3 uc us (MQ below (QG E (fun v u => v = none ∧ u = r)) args s MC MS (pA E)) h 14 [(0, some (.ref v0)), (1, some (va_rf v1))] [va_rf t0] := by
  have hm1 : lez h (hX r) (hV r) := mX4_spellSimple_b14 hf
  have hcm : uc ≤ MC := (by have o0 := hm1.1; have o1 := hM; have o2 := hu; (try simp only [hX_sI, hX_sR, hX_sL, hX_sD, hX_sIa, hX_sRa, hV_sI, hV_sR, hV_sL, hV_sD, hV_sIa, hV_sRa, hX_new, hV_new] at o0 o1 o2 ⊢); omega)
  have hsm : us ≤ MS := (by have o0 := hm1.2; have o1 := hN; have o2 := hv; (try simp only [hX_sI, hX_sR, hX_sL, hX_sD, hX_sIa, hX_sRa, hV_sI, hV_sR, hV_sL, hV_sD, hV_sIa, hV_sRa, hX_new, hV_new] at o0 o1 o2 ⊢); omega)
  clear hm1
  unfold fX4_spellSimple_b14 at hf
  refine p_pop X (dcg dc_X4_spellSimple 7 rfl) (cat_rf _) ?_
  refine p_pick [0, 1] ?_
  exact wX4_spellSimple_b15 X hG hnm hM hN hu hv hf 
noncomputable def fX4_spellSimple_b0 (v0 : Nat) (v1 : Option Nat) (h : PH) : Option PH :=
  gd (hK h v0 = 4) (if (¬ (hI h 4 v0 0) = (3 : Int32)) then (fX4_spellSimple_b15 v0 v1 h) else
  gs v1 (fun a37 =>
  gd (hK h a37 = 13) (bd (fJ4_append_cf468 a37 (91 : Int32) h) (fun z40 =>
  fX4_spellSimple_b14 v0 (some a37) z40.1 z40.2))))
set_option maxRecDepth 100000 in
theorem mX4_spellSimple_b0 {v0 : Nat} {v1 : Option Nat} {h : PH} {r : PH} (hf : fX4_spellSimple_b0 v0 v1 h = some r) : lez h (hX r) (hV r) := by
  unfold fX4_spellSimple_b0 at hf
  have hle := lez_rf h
  obtain ⟨hk1, hf⟩ := gd_some hf
  rcases ite_or hf with ⟨q, hf⟩ | ⟨q, hf⟩
  · have hf := if_t q hf
    exact lez_rt (mX4_spellSimple_b15 hf) hle
  · have hf := if_f q hf
    obtain ⟨a37, e38, hf⟩ := gs_some hf
    obtain ⟨hk39, hf⟩ := gd_some hf
    obtain ⟨z40, hz40, hf⟩ := bd_some hf
    have hle := lez_rt (mJ4_append_cf468 hz40) hle
    exact lez_rt (mX4_spellSimple_b14 hf) hle
set_option maxRecDepth 100000 in
theorem wX4_spellSimple_b0 {E : PE} {p : Program} {l : Launch} {e : Env} {s : State} {m : MethodId} {args : Array Value} {below : List Frame} {meth : Method} {c : Code} {X0 V0 MC MS uc us : Nat} (X : Cx E p l e (rmv 7 MC MS) s m args below meth c RX4 cX4_spellSimple 3 (none)) (hG : Gs E l) (hnm : meth.name = yX4_spellSimple.name) {v0 : Nat} {v1 : Option Nat} {h : PH} {r : PH} (hM : MC + X0 = (hX r)) (hN : MS + V0 = (hV r)) (hu : uc + X0 = hX h) (hv : us + V0 = hV h) (hf : fX4_spellSimple_b0 v0 v1 h = some r)  : PW E p l e (rmv 7 MC MS) s m args below meth c 3 uc us (MQ below (QG E (fun v u => v = none ∧ u = r)) args s MC MS (pA E)) h 0 [(0, some (.ref v0)), (1, some (va_rf v1))] [] := by
  have hm1 : lez h (hX r) (hV r) := mX4_spellSimple_b0 hf
  have hcm : uc ≤ MC := (by have o0 := hm1.1; have o1 := hM; have o2 := hu; (try simp only [hX_sI, hX_sR, hX_sL, hX_sD, hX_sIa, hX_sRa, hV_sI, hV_sR, hV_sL, hV_sD, hV_sIa, hV_sRa, hX_new, hV_new] at o0 o1 o2 ⊢); omega)
  have hsm : us ≤ MS := (by have o0 := hm1.2; have o1 := hN; have o2 := hv; (try simp only [hX_sI, hX_sR, hX_sL, hX_sD, hX_sIa, hX_sRa, hV_sI, hV_sR, hV_sL, hV_sD, hV_sIa, hV_sRa, hX_new, hV_new] at o0 o1 o2 ⊢); omega)
  clear hm1
  unfold fX4_spellSimple_b0 at hf
  refine p_aload_n X (dcg dc_X4_spellSimple 0 rfl) rfl rfl ?_
  obtain ⟨hk1, hf⟩ := gd_some hf
  refine p_getI X fl_X4_9 rfl (by decide) (dcg dc_X4_spellSimple 1 rfl) hk1 ?_
  refine p_iconst (v := 3) X (dcg dc_X4_spellSimple 2 rfl) (by decide) ?_
  refine p_icmp_ne (tgt := 15) X (dcg dc_X4_spellSimple 3 rfl) (by decide) (fun q => ?_) (fun q => ?_)
  · have hf := if_t q hf
    refine p_pick [0, 1] ?_
    exact wX4_spellSimple_b15 X hG hnm hM hN hu hv hf 
  · have hf := if_f q hf
    refine p_aloadq_n X (dcg dc_X4_spellSimple 4 rfl) rfl rfl ?_
    refine p_bipush (v := 91) X (dcg dc_X4_spellSimple 5 rfl) (by decide) ?_
    obtain ⟨a37, e38, hf⟩ := gs_some hf
    first | subst e38 | (try rw [e38])
    obtain ⟨hk39, hf⟩ := gd_some hf
    obtain ⟨z40, hz40, hf⟩ := bd_some hf
    have hc1 := mJ4_append_cf468 hz40
    have hm1 : lez _ (hX r) (hV r) := mX4_spellSimple_b14 hf
    refine p_callV (As := [_]) X ml_X4_103 (dcg dc_X4_spellSimple 6 rfl) rfl rfl hk39 (wJ4_append_cf468 hG hz40) (by decide) (room4 (Nat.le_of_ble_eq_true rfl)) (by have o0 := hm1.1; have o1 := hc1.1; have o2 := hM; have o3 := hu; (try simp only [hX_sI, hX_sR, hX_sL, hX_sD, hX_sIa, hX_sRa, hV_sI, hV_sR, hV_sL, hV_sD, hV_sIa, hV_sRa, hX_new, hV_new] at o0 o1 o2 o3 ⊢); omega) (by have o0 := hm1.2; have o1 := hc1.2; have o2 := hN; have o3 := hv; (try simp only [hX_sI, hX_sR, hX_sL, hX_sD, hX_sIa, hX_sRa, hV_sI, hV_sR, hV_sL, hV_sD, hV_sIa, hV_sRa, hX_new, hV_new] at o0 o1 o2 o3 ⊢); omega) ?_
    rintro _ u9 ⟨rfl, e9⟩; have e9 := e9.symm; subst e9
    refine p_pick [0, 1] ?_
    exact wX4_spellSimple_b14 X hG hnm hM hN (by have o0 := hc1.1; have o1 := hu; (try simp only [hX_sI, hX_sR, hX_sL, hX_sD, hX_sIa, hX_sRa, hV_sI, hV_sR, hV_sL, hV_sD, hV_sIa, hV_sRa, hX_new, hV_new] at o0 o1 ⊢); omega) (by have o0 := hc1.2; have o1 := hv; (try simp only [hX_sI, hX_sR, hX_sL, hX_sD, hX_sIa, hX_sRa, hV_sI, hV_sR, hV_sL, hV_sD, hV_sIa, hV_sRa, hX_new, hV_new] at o0 o1 ⊢); omega) hf 
noncomputable def fX4_spellSimple (v0 : Nat) (v1 : Option Nat) (h : PH) : Option PH :=
  fX4_spellSimple_b0 v0 v1 h
set_option maxRecDepth 100000 in
theorem mX4_spellSimple {v0 : Nat} {v1 : Option Nat} {h : PH} {r : PH} (hf : fX4_spellSimple v0 v1 h = some r) : lez h (hX r) (hV r) := by
  unfold fX4_spellSimple at hf
  have hle := lez_rf h
  exact lez_rt (mX4_spellSimple_b0 hf) hle
set_option maxRecDepth 100000 in
theorem wX4_spellSimple {E : PE} {l : Launch} (hG : Gs E l) {v0 : Nat} {v1 : Option Nat} {h : PH} {r : PH} (hf : fX4_spellSimple v0 v1 h = some r) : Ct E l 7 ((hX r) - hX h) ((hV r) - hV h) yX4_spellSimple cX4_spellSimple 3 (none) [.ref v0, va_rf v1] h (fun v u => v = none ∧ u = r) := by
  have hmm := mX4_spellSimple hf
  refine ct_of hG (by decide) (by simp [lg_sl, cat_rf, cat_r, cat_i, cat_l, cat_d, cat_f]) ?_
  intro p e s m args below meth c X hnm
  rw [show pargs 0 [.ref v0, va_rf v1] = [(0, some (.ref v0)), (1, some (va_rf v1))] from by simp [pargs, cat_rf, cat_r, cat_i, cat_l, cat_d, cat_f]]
  unfold fX4_spellSimple at hf
  have hM := Nat.sub_add_cancel hmm.1
  have hN := Nat.sub_add_cancel hmm.2
  refine p_pick [0, 1] ?_
  exact wX4_spellSimple_b0 X hG hnm hM hN (Nat.zero_add _) (Nat.zero_add _) hf
theorem dc_X4_needsBrackets : decs cX4_needsBrackets [(0, .iload_n 1, 1), (1, .bipush 6, 2), (3, .if_icmp .eq 14, 3), (6, .iload_n 1, 1), (7, .iconst 5, 1), (8, .if_icmp .ne 13, 3), (11, .iload_n 0, 1), (12, .bipush 6, 2), (14, .if_icmp .eq 7, 3), (17, .iconst 1, 1), (18, .goto 4, 3), (21, .iconst 0, 1), (22, .ireturn, 1)] = true := by decide +kernel
noncomputable def fX4_needsBrackets_b22 (t0 : Int32) : Option Int32 :=
  gd (t0 &&& 1 = t0) (some (t0))
set_option maxRecDepth 100000 in
theorem wX4_needsBrackets_b22 {E : PE} {p : Program} {l : Launch} {e : Env} {s : State} {m : MethodId} {args : Array Value} {below : List Frame} {meth : Method} {c : Code} (X : Cx E p l e (rmv 0 0 0) s m args below meth c RX4 cX4_needsBrackets 2 (some .boolean)) (hG : Gs E l) (hnm : meth.name = yX4_needsBrackets.name) {t0 : Int32} {h : PH} {r : Int32} (hf : fX4_needsBrackets_b22 t0 = some r)  : PW E p l e (rmv 0 0 0) s m args below meth c 2 0 0 (MQ below (QG E (fun v u => v = some (.int r) ∧ u = h)) args s 0 0 (pA E)) h 22 [] [.int t0] := by
  unfold fX4_needsBrackets_b22 at hf
  obtain ⟨hg1, hf⟩ := gd_some hf
  have er := Option.some.inj hf
  subst er
  exact p_zret X rfl (congrArg Value.int hg1) (dcg dc_X4_needsBrackets 12 rfl) ⟨rfl, rfl⟩ (Nat.le_refl _) (Nat.le_refl _)
noncomputable def fX4_needsBrackets_b17  : Option Int32 :=
  fX4_needsBrackets_b22 (1 : Int32)
set_option maxRecDepth 100000 in
theorem wX4_needsBrackets_b17 {E : PE} {p : Program} {l : Launch} {e : Env} {s : State} {m : MethodId} {args : Array Value} {below : List Frame} {meth : Method} {c : Code} (X : Cx E p l e (rmv 0 0 0) s m args below meth c RX4 cX4_needsBrackets 2 (some .boolean)) (hG : Gs E l) (hnm : meth.name = yX4_needsBrackets.name)  {h : PH} {r : Int32} (hf : fX4_needsBrackets_b17  = some r)  : PW E p l e (rmv 0 0 0) s m args below meth c 2 0 0 (MQ below (QG E (fun v u => v = some (.int r) ∧ u = h)) args s 0 0 (pA E)) h 17 [] [] := by
  unfold fX4_needsBrackets_b17 at hf
  refine p_iconst (v := 1) X (dcg dc_X4_needsBrackets 9 rfl) (by decide) ?_
  refine p_goto (tgt := 22) X (dcg dc_X4_needsBrackets 10 rfl) (by decide) ?_
  refine p_pick [] ?_
  exact wX4_needsBrackets_b22 X hG hnm hf 
noncomputable def fX4_needsBrackets_b21  : Option Int32 :=
  fX4_needsBrackets_b22 (0 : Int32)
set_option maxRecDepth 100000 in
theorem wX4_needsBrackets_b21 {E : PE} {p : Program} {l : Launch} {e : Env} {s : State} {m : MethodId} {args : Array Value} {below : List Frame} {meth : Method} {c : Code} (X : Cx E p l e (rmv 0 0 0) s m args below meth c RX4 cX4_needsBrackets 2 (some .boolean)) (hG : Gs E l) (hnm : meth.name = yX4_needsBrackets.name)  {h : PH} {r : Int32} (hf : fX4_needsBrackets_b21  = some r)  : PW E p l e (rmv 0 0 0) s m args below meth c 2 0 0 (MQ below (QG E (fun v u => v = some (.int r) ∧ u = h)) args s 0 0 (pA E)) h 21 [] [] := by
  unfold fX4_needsBrackets_b21 at hf
  refine p_iconst (v := 0) X (dcg dc_X4_needsBrackets 11 rfl) (by decide) ?_
  refine p_pick [] ?_
  exact wX4_needsBrackets_b22 X hG hnm hf 
noncomputable def fX4_needsBrackets (v0 : Int32) (v1 : Int32) : Option Int32 :=
  if (v1 = (6 : Int32)) then (fX4_needsBrackets_b17 ) else
  if (¬ v1 = (5 : Int32)) then (fX4_needsBrackets_b21 ) else
  if (v0 = (6 : Int32)) then (fX4_needsBrackets_b21 ) else
  fX4_needsBrackets_b17 
set_option maxRecDepth 100000 in
theorem wX4_needsBrackets {E : PE} {l : Launch} (hG : Gs E l) {v0 : Int32} {v1 : Int32} {h : PH} {r : Int32} (hf : fX4_needsBrackets v0 v1 = some r) : Ct E l 0 0 0 yX4_needsBrackets cX4_needsBrackets 2 (some .boolean) [.int v0, .int v1] h (fun v u => v = some (.int r) ∧ u = h) := by
  refine ct_of hG (by decide) (Nat.le_of_ble_eq_true rfl) ?_
  intro p e s m args below meth c X hnm
  show PW E p l e _ s m args below meth c _ 0 0 _ h 0 [(0, some (.int v0)), (1, some (.int v1))] []
  unfold fX4_needsBrackets at hf
  refine p_iload_n X (dcg dc_X4_needsBrackets 0 rfl) rfl rfl ?_
  refine p_bipush (v := 6) X (dcg dc_X4_needsBrackets 1 rfl) (by decide) ?_
  refine p_icmp_eq (tgt := 17) X (dcg dc_X4_needsBrackets 2 rfl) (by decide) (fun q => ?_) (fun q => ?_)
  · have hf := if_t q hf
    refine p_pick [] ?_
    exact wX4_needsBrackets_b17 X hG hnm hf 
  · have hf := if_f q hf
    refine p_iload_n X (dcg dc_X4_needsBrackets 3 rfl) rfl rfl ?_
    refine p_iconst (v := 5) X (dcg dc_X4_needsBrackets 4 rfl) (by decide) ?_
    refine p_icmp_ne (tgt := 21) X (dcg dc_X4_needsBrackets 5 rfl) (by decide) (fun q => ?_) (fun q => ?_)
    · have hf := if_t q hf
      refine p_pick [] ?_
      exact wX4_needsBrackets_b21 X hG hnm hf 
    · have hf := if_f q hf
      refine p_iload_n X (dcg dc_X4_needsBrackets 6 rfl) rfl rfl ?_
      refine p_bipush (v := 6) X (dcg dc_X4_needsBrackets 7 rfl) (by decide) ?_
      refine p_icmp_eq (tgt := 21) X (dcg dc_X4_needsBrackets 8 rfl) (by decide) (fun q => ?_) (fun q => ?_)
      · have hf := if_t q hf
        refine p_pick [] ?_
        exact wX4_needsBrackets_b21 X hG hnm hf 
      · have hf := if_f q hf
        refine p_pick [] ?_
        exact wX4_needsBrackets_b17 X hG hnm hf 
theorem dc_X4_spell : decs cX4_spell [(0, .iload_n 2, 1), (1, .bipush 40, 2), (3, .if_icmp .le 4, 3), (6, .return_, 1), (7, .aload_n 0, 1), (8, .invokevirtual 63, 3), (11, .ifCond .eq 8, 3), (14, .aload_n 0, 1), (15, .aload_n 1, 1), (16, .invokevirtual 99, 3), (19, .aload_n 0, 1), (20, .getfield 9, 3), (23, .iconst 4, 1), (24, .if_icmp .ne 10, 3), (27, .aload_n 1, 1), (28, .bipush 33, 2), (30, .invokevirtual 103, 3), (33, .pop, 1), (34, .iconst 0, 1), (35, .istore_n 3, 1), (36, .iload_n 3, 1), (37, .aload_n 0, 1), (38, .getfield 25, 3), (41, .invokevirtual 71, 3), (44, .if_icmp .ge 93, 3), (47, .aload_n 0, 1), (48, .getfield 25, 3), (51, .iload_n 3, 1), (52, .invokevirtual 75, 3), (55, .checkcast 10, 3), (58, .astore 4, 2), (60, .aload_n 0, 1), (61, .getfield 9, 3), (64, .aload 4, 2), (66, .getfield 9, 3), (69, .invokestatic 109, 3), (72, .istore 5, 2), (74, .iload_n 3, 1), (75, .ifCond .le 23, 3), (78, .aload_n 1, 1), (79, .aload_n 0, 1), (80, .getfield 9, 3), (83, .iconst 5, 1), (84, .if_icmp .ne 8, 3), (87, .bipush 38, 2), (89, .goto 5, 3), (92, .bipush 124, 2), (94, .invokevirtual 103, 3), (97, .pop, 1), (98, .iload 5, 2), (100, .ifCond .eq 10, 3), (103, .aload_n 1, 1), (104, .bipush 40, 2), (106, .invokevirtual 103, 3), (109, .pop, 1), (110, .aload 4, 2), (112, .aload_n 1, 1), (113, .iload_n 2, 1), (114, .iconst 1, 1), (115, .iadd, 1), (116, .invokestatic 113, 3), (119, .iload 5, 2), (121, .ifCond .eq 10, 3), (124, .aload_n 1, 1), (125, .bipush 41, 2), (127, .invokevirtual 103, 3), (130, .pop, 1), (131, .iinc 3 1, 3), (134, .goto (-98), 3), (137, .return_, 1)] = true := by decide +kernel
noncomputable def fX4_spell_R_b131 (rc0 : (Option Nat → Option Nat → Int32 → PH → Option PH)) (v0 : Option Nat) (v1 : Option Nat) (v2 : Int32) (v3 : Int32) (h : PH) : Option ((Int32 × PH) ⊕ PH) :=
  some (.inl ((v3 + 1), h))
set_option maxRecDepth 100000 in
theorem mX4_spell_R_b131 {rc0 : (Option Nat → Option Nat → Int32 → PH → Option PH)} (hm0 : ∀ {a0 : Option Nat} {a1 : Option Nat} {a2 : Int32} {h : PH} {r : PH}, rc0 a0 a1 a2 h = some r → lez h (hX r) (hV r)) {v0 : Option Nat} {v1 : Option Nat} {v2 : Int32} {v3 : Int32} {h : PH} {x : ((Int32 × PH) ⊕ PH)} (hf : fX4_spell_R_b131 rc0 v0 v1 v2 v3 h = some x) : (∀ w9 : (Int32 × PH), x = .inl w9 → lez h (hX (w9.2)) (hV (w9.2))) ∧ (∀ w9 : PH, x = .inr w9 → lez h (hX w9) (hV w9)) := by
  unfold fX4_spell_R_b131 at hf
  have hle := lez_rf h
  have ee := Option.some.inj hf; subst ee
  exact ⟨(fun z e => by have ee := Sum.inl.inj (e); subst ee; exact hle), (fun z e => nomatch e)⟩
set_option maxRecDepth 100000 in
theorem wX4_spell_R_b131 {E : PE} {p : Program} {l : Launch} {e : Env} {s : State} {m : MethodId} {args : Array Value} {below : List Frame} {meth : Method} {c : Code} {X0 V0 MC MS uc us : Nat} {nn : Nat} (X : Cx E p l e (rmv (8 + nn + 1) MC MS) s m args below meth c RX4 cX4_spell 6 (none)) (hG : Gs E l) (hnm : meth.name = yX4_spell.name) {rc0 : (Option Nat → Option Nat → Int32 → PH → Option PH)} (hw0 : ∀ {a0 : Option Nat} {a1 : Option Nat} {a2 : Int32} {h : PH} {r : PH}, rc0 a0 a1 a2 h = some r → Ct E l (8 + nn) ((hX r) - hX h) ((hV r) - hV h) yX4_spell cX4_spell 6 (none) [va_rf a0, va_rf a1, .int a2] h (fun v u => v = none ∧ u = r)) (hm0 : ∀ {a0 : Option Nat} {a1 : Option Nat} {a2 : Int32} {h : PH} {r : PH}, rc0 a0 a1 a2 h = some r → lez h (hX r) (hV r)) {v0 : Option Nat} {v1 : Option Nat} {v2 : Int32} {v3 : Int32} {h : PH} {r : PH} {x : ((Int32 × PH) ⊕ PH)} (hM : MC + X0 = (hX r)) (hN : MS + V0 = (hV r)) (hu : uc + X0 = hX h) (hv : us + V0 = hV h) (hf : fX4_spell_R_b131 rc0 v0 v1 v2 v3 h = some x) (k0 : ∀ (z : (Int32 × PH)) (uc us : Nat), x = .inl z → uc + X0 = hX (z.2) → us + V0 = hV (z.2) → PW E p l e (rmv (8 + nn + 1) MC MS) s m args below meth c 6 uc us (MQ below (QG E (fun v u => v = none ∧ u = r)) args s MC MS (pA E)) (z.2) 36 [(0, some (va_rf v0)), (1, some (va_rf v1)), (2, some (.int v2)), (3, some (.int (z.1)))] []) (kl0 : ∀ z : (Int32 × PH), x = .inl z → lez (z.2) (hX r) (hV r)) (kf : ∀ z : PH, x = .inr z → z = r) : PW E p l e (rmv (8 + nn + 1) MC MS) s m args below meth c 6 uc us (MQ below (QG E (fun v u => v = none ∧ u = r)) args s MC MS (pA E)) h 131 [(0, some (va_rf v0)), (1, some (va_rf v1)), (2, some (.int v2)), (3, some (.int v3))] [] := by
  have hm1 : lez h (hX r) (hV r) := by
    obtain ⟨c0, cf⟩ := mX4_spell_R_b131 hm0 hf
    rcases hxx : x with zz | zz
    · exact lez_tr (c0 zz hxx) (kl0 zz hxx)
    · have ee := kf zz hxx; subst ee; exact cf zz hxx
  have hcm : uc ≤ MC := (by have o0 := hm1.1; have o1 := hM; have o2 := hu; (try simp only [hX_sI, hX_sR, hX_sL, hX_sD, hX_sIa, hX_sRa, hV_sI, hV_sR, hV_sL, hV_sD, hV_sIa, hV_sRa, hX_new, hV_new] at o0 o1 o2 ⊢); omega)
  have hsm : us ≤ MS := (by have o0 := hm1.2; have o1 := hN; have o2 := hv; (try simp only [hX_sI, hX_sR, hX_sL, hX_sD, hX_sIa, hX_sRa, hV_sI, hV_sR, hV_sL, hV_sD, hV_sIa, hV_sRa, hX_new, hV_new] at o0 o1 o2 ⊢); omega)
  clear hm1
  unfold fX4_spell_R_b131 at hf
  refine p_iinc (v := 1) X (dcg dc_X4_spell 67 rfl) rfl (by decide) (by decide) rfl ?_
  refine p_goto (tgt := 36) X (dcg dc_X4_spell 68 rfl) (by decide) ?_
  refine p_pick [0, 1, 2, 3] ?_
  exact k0 _ _ _ (Option.some.inj hf).symm hu hv
noncomputable def fX4_spell_R_b130 (rc0 : (Option Nat → Option Nat → Int32 → PH → Option PH)) (v0 : Option Nat) (v1 : Option Nat) (v2 : Int32) (v3 : Int32) (t0 : Option Nat) (h : PH) : Option ((Int32 × PH) ⊕ PH) :=
  fX4_spell_R_b131 rc0 v0 v1 v2 v3 h
set_option maxRecDepth 100000 in
theorem mX4_spell_R_b130 {rc0 : (Option Nat → Option Nat → Int32 → PH → Option PH)} (hm0 : ∀ {a0 : Option Nat} {a1 : Option Nat} {a2 : Int32} {h : PH} {r : PH}, rc0 a0 a1 a2 h = some r → lez h (hX r) (hV r)) {v0 : Option Nat} {v1 : Option Nat} {v2 : Int32} {v3 : Int32} {t0 : Option Nat} {h : PH} {x : ((Int32 × PH) ⊕ PH)} (hf : fX4_spell_R_b130 rc0 v0 v1 v2 v3 t0 h = some x) : (∀ w9 : (Int32 × PH), x = .inl w9 → lez h (hX (w9.2)) (hV (w9.2))) ∧ (∀ w9 : PH, x = .inr w9 → lez h (hX w9) (hV w9)) := by
  unfold fX4_spell_R_b130 at hf
  have hle := lez_rf h
  obtain ⟨c0, cf⟩ := mX4_spell_R_b131 hm0 hf
  exact ⟨fun z e => lez_rt (c0 z (e)) hle, fun z e => lez_rt (cf z (e)) hle⟩
set_option maxRecDepth 100000 in
theorem wX4_spell_R_b130 {E : PE} {p : Program} {l : Launch} {e : Env} {s : State} {m : MethodId} {args : Array Value} {below : List Frame} {meth : Method} {c : Code} {X0 V0 MC MS uc us : Nat} {nn : Nat} (X : Cx E p l e (rmv (8 + nn + 1) MC MS) s m args below meth c RX4 cX4_spell 6 (none)) (hG : Gs E l) (hnm : meth.name = yX4_spell.name) {rc0 : (Option Nat → Option Nat → Int32 → PH → Option PH)} (hw0 : ∀ {a0 : Option Nat} {a1 : Option Nat} {a2 : Int32} {h : PH} {r : PH}, rc0 a0 a1 a2 h = some r → Ct E l (8 + nn) ((hX r) - hX h) ((hV r) - hV h) yX4_spell cX4_spell 6 (none) [va_rf a0, va_rf a1, .int a2] h (fun v u => v = none ∧ u = r)) (hm0 : ∀ {a0 : Option Nat} {a1 : Option Nat} {a2 : Int32} {h : PH} {r : PH}, rc0 a0 a1 a2 h = some r → lez h (hX r) (hV r)) {v0 : Option Nat} {v1 : Option Nat} {v2 : Int32} {v3 : Int32} {t0 : Option Nat} {h : PH} {r : PH} {x : ((Int32 × PH) ⊕ PH)} (hM : MC + X0 = (hX r)) (hN : MS + V0 = (hV r)) (hu : uc + X0 = hX h) (hv : us + V0 = hV h) (hf : fX4_spell_R_b130 rc0 v0 v1 v2 v3 t0 h = some x) (k0 : ∀ (z : (Int32 × PH)) (uc us : Nat), x = .inl z → uc + X0 = hX (z.2) → us + V0 = hV (z.2) → PW E p l e (rmv (8 + nn + 1) MC MS) s m args below meth c 6 uc us (MQ below (QG E (fun v u => v = none ∧ u = r)) args s MC MS (pA E)) (z.2) 36 [(0, some (va_rf v0)), (1, some (va_rf v1)), (2, some (.int v2)), (3, some (.int (z.1)))] []) (kl0 : ∀ z : (Int32 × PH), x = .inl z → lez (z.2) (hX r) (hV r)) (kf : ∀ z : PH, x = .inr z → z = r) : PW E p l e (rmv (8 + nn + 1) MC MS) s m args below meth c 6 uc us (MQ below (QG E (fun v u => v = none ∧ u = r)) args s MC MS (pA E)) h 130 [(0, some (va_rf v0)), (1, some (va_rf v1)), (2, some (.int v2)), (3, some (.int v3))] [va_rf t0] := by
  have hm1 : lez h (hX r) (hV r) := by
    obtain ⟨c0, cf⟩ := mX4_spell_R_b130 hm0 hf
    rcases hxx : x with zz | zz
    · exact lez_tr (c0 zz hxx) (kl0 zz hxx)
    · have ee := kf zz hxx; subst ee; exact cf zz hxx
  have hcm : uc ≤ MC := (by have o0 := hm1.1; have o1 := hM; have o2 := hu; (try simp only [hX_sI, hX_sR, hX_sL, hX_sD, hX_sIa, hX_sRa, hV_sI, hV_sR, hV_sL, hV_sD, hV_sIa, hV_sRa, hX_new, hV_new] at o0 o1 o2 ⊢); omega)
  have hsm : us ≤ MS := (by have o0 := hm1.2; have o1 := hN; have o2 := hv; (try simp only [hX_sI, hX_sR, hX_sL, hX_sD, hX_sIa, hX_sRa, hV_sI, hV_sR, hV_sL, hV_sD, hV_sIa, hV_sRa, hX_new, hV_new] at o0 o1 o2 ⊢); omega)
  clear hm1
  unfold fX4_spell_R_b130 at hf
  refine p_pop X (dcg dc_X4_spell 66 rfl) (cat_rf _) ?_
  refine p_pick [0, 1, 2, 3] ?_
  exact wX4_spell_R_b131 X hG hnm hw0 hm0 hM hN hu hv hf k0 kl0 kf
noncomputable def fX4_spell_R_b119 (rc0 : (Option Nat → Option Nat → Int32 → PH → Option PH)) (v0 : Option Nat) (v1 : Option Nat) (v2 : Int32) (v3 : Int32) (v5 : Int32) (h : PH) : Option ((Int32 × PH) ⊕ PH) :=
  if (v5 = 0) then (fX4_spell_R_b131 rc0 v0 v1 v2 v3 h) else
  gs v1 (fun a26 =>
  gd (hK h a26 = 13) (bd (fJ4_append_cf468 a26 (41 : Int32) h) (fun z29 =>
  fX4_spell_R_b130 rc0 v0 (some a26) v2 v3 z29.1 z29.2)))
set_option maxRecDepth 100000 in
theorem mX4_spell_R_b119 {rc0 : (Option Nat → Option Nat → Int32 → PH → Option PH)} (hm0 : ∀ {a0 : Option Nat} {a1 : Option Nat} {a2 : Int32} {h : PH} {r : PH}, rc0 a0 a1 a2 h = some r → lez h (hX r) (hV r)) {v0 : Option Nat} {v1 : Option Nat} {v2 : Int32} {v3 : Int32} {v5 : Int32} {h : PH} {x : ((Int32 × PH) ⊕ PH)} (hf : fX4_spell_R_b119 rc0 v0 v1 v2 v3 v5 h = some x) : (∀ w9 : (Int32 × PH), x = .inl w9 → lez h (hX (w9.2)) (hV (w9.2))) ∧ (∀ w9 : PH, x = .inr w9 → lez h (hX w9) (hV w9)) := by
  unfold fX4_spell_R_b119 at hf
  have hle := lez_rf h
  rcases ite_or hf with ⟨q, hf⟩ | ⟨q, hf⟩
  · have hf := if_t q hf
    obtain ⟨c0, cf⟩ := mX4_spell_R_b131 hm0 hf
    exact ⟨fun z e => lez_rt (c0 z (e)) hle, fun z e => lez_rt (cf z (e)) hle⟩
  · have hf := if_f q hf
    obtain ⟨a26, e27, hf⟩ := gs_some hf
    obtain ⟨hk28, hf⟩ := gd_some hf
    obtain ⟨z29, hz29, hf⟩ := bd_some hf
    have hle := lez_rt (mJ4_append_cf468 hz29) hle
    obtain ⟨c0, cf⟩ := mX4_spell_R_b130 hm0 hf
    exact ⟨fun z e => lez_rt (c0 z (e)) hle, fun z e => lez_rt (cf z (e)) hle⟩
set_option maxRecDepth 100000 in
theorem wX4_spell_R_b119 {E : PE} {p : Program} {l : Launch} {e : Env} {s : State} {m : MethodId} {args : Array Value} {below : List Frame} {meth : Method} {c : Code} {X0 V0 MC MS uc us : Nat} {nn : Nat} (X : Cx E p l e (rmv (8 + nn + 1) MC MS) s m args below meth c RX4 cX4_spell 6 (none)) (hG : Gs E l) (hnm : meth.name = yX4_spell.name) {rc0 : (Option Nat → Option Nat → Int32 → PH → Option PH)} (hw0 : ∀ {a0 : Option Nat} {a1 : Option Nat} {a2 : Int32} {h : PH} {r : PH}, rc0 a0 a1 a2 h = some r → Ct E l (8 + nn) ((hX r) - hX h) ((hV r) - hV h) yX4_spell cX4_spell 6 (none) [va_rf a0, va_rf a1, .int a2] h (fun v u => v = none ∧ u = r)) (hm0 : ∀ {a0 : Option Nat} {a1 : Option Nat} {a2 : Int32} {h : PH} {r : PH}, rc0 a0 a1 a2 h = some r → lez h (hX r) (hV r)) {v0 : Option Nat} {v1 : Option Nat} {v2 : Int32} {v3 : Int32} {v5 : Int32} {h : PH} {r : PH} {x : ((Int32 × PH) ⊕ PH)} (hM : MC + X0 = (hX r)) (hN : MS + V0 = (hV r)) (hu : uc + X0 = hX h) (hv : us + V0 = hV h) (hf : fX4_spell_R_b119 rc0 v0 v1 v2 v3 v5 h = some x) (k0 : ∀ (z : (Int32 × PH)) (uc us : Nat), x = .inl z → uc + X0 = hX (z.2) → us + V0 = hV (z.2) → PW E p l e (rmv (8 + nn + 1) MC MS) s m args below meth c 6 uc us (MQ below (QG E (fun v u => v = none ∧ u = r)) args s MC MS (pA E)) (z.2) 36 [(0, some (va_rf v0)), (1, some (va_rf v1)), (2, some (.int v2)), (3, some (.int (z.1)))] []) (kl0 : ∀ z : (Int32 × PH), x = .inl z → lez (z.2) (hX r) (hV r)) (kf : ∀ z : PH, x = .inr z → z = r) : PW E p l e (rmv (8 + nn + 1) MC MS) s m args below meth c 6 uc us (MQ below (QG E (fun v u => v = none ∧ u = r)) args s MC MS (pA E)) h 119 [(0, some (va_rf v0)), (1, some (va_rf v1)), (2, some (.int v2)), (3, some (.int v3)), (5, some (.int v5))] [] := by
  have hm1 : lez h (hX r) (hV r) := by
    obtain ⟨c0, cf⟩ := mX4_spell_R_b119 hm0 hf
    rcases hxx : x with zz | zz
    · exact lez_tr (c0 zz hxx) (kl0 zz hxx)
    · have ee := kf zz hxx; subst ee; exact cf zz hxx
  have hcm : uc ≤ MC := (by have o0 := hm1.1; have o1 := hM; have o2 := hu; (try simp only [hX_sI, hX_sR, hX_sL, hX_sD, hX_sIa, hX_sRa, hV_sI, hV_sR, hV_sL, hV_sD, hV_sIa, hV_sRa, hX_new, hV_new] at o0 o1 o2 ⊢); omega)
  have hsm : us ≤ MS := (by have o0 := hm1.2; have o1 := hN; have o2 := hv; (try simp only [hX_sI, hX_sR, hX_sL, hX_sD, hX_sIa, hX_sRa, hV_sI, hV_sR, hV_sL, hV_sD, hV_sIa, hV_sRa, hX_new, hV_new] at o0 o1 o2 ⊢); omega)
  clear hm1
  unfold fX4_spell_R_b119 at hf
  refine p_iload X (dcg dc_X4_spell 61 rfl) rfl ?_
  refine p_if_eq (tgt := 131) X (dcg dc_X4_spell 62 rfl) (by decide) (fun q => ?_) (fun q => ?_)
  · have hf := if_t q hf
    refine p_pick [0, 1, 2, 3] ?_
    exact wX4_spell_R_b131 X hG hnm hw0 hm0 hM hN hu hv hf k0 kl0 kf
  · have hf := if_f q hf
    refine p_aloadq_n X (dcg dc_X4_spell 63 rfl) rfl rfl ?_
    refine p_bipush (v := 41) X (dcg dc_X4_spell 64 rfl) (by decide) ?_
    obtain ⟨a26, e27, hf⟩ := gs_some hf
    first | subst e27 | (try rw [e27])
    obtain ⟨hk28, hf⟩ := gd_some hf
    obtain ⟨z29, hz29, hf⟩ := bd_some hf
    have hc1 := mJ4_append_cf468 hz29
    obtain ⟨c0, cf⟩ := mX4_spell_R_b130 hm0 hf
    have hm1 := (nst1 (fun zz hxx => lez_tr (c0 zz hxx) (kl0 zz hxx)) (fun zz hxx => by have ee := kf zz hxx; subst ee; exact cf zz hxx))
    refine p_callV (As := [_]) X ml_X4_103 (dcg dc_X4_spell 65 rfl) rfl rfl hk28 (wJ4_append_cf468 hG hz29) (by omega) (room4 (Nat.le_of_ble_eq_true rfl)) (by have o0 := hm1.1; have o1 := hc1.1; have o2 := hM; have o3 := hu; (try simp only [hX_sI, hX_sR, hX_sL, hX_sD, hX_sIa, hX_sRa, hV_sI, hV_sR, hV_sL, hV_sD, hV_sIa, hV_sRa, hX_new, hV_new] at o0 o1 o2 o3 ⊢); omega) (by have o0 := hm1.2; have o1 := hc1.2; have o2 := hN; have o3 := hv; (try simp only [hX_sI, hX_sR, hX_sL, hX_sD, hX_sIa, hX_sRa, hV_sI, hV_sR, hV_sL, hV_sD, hV_sIa, hV_sRa, hX_new, hV_new] at o0 o1 o2 o3 ⊢); omega) ?_
    rintro _ u9 ⟨rfl, e9⟩; have e9 := e9.symm; subst e9
    refine p_pick [0, 1, 2, 3] ?_
    exact wX4_spell_R_b130 X hG hnm hw0 hm0 hM hN (by have o0 := hc1.1; have o1 := hu; (try simp only [hX_sI, hX_sR, hX_sL, hX_sD, hX_sIa, hX_sRa, hV_sI, hV_sR, hV_sL, hV_sD, hV_sIa, hV_sRa, hX_new, hV_new] at o0 o1 ⊢); omega) (by have o0 := hc1.2; have o1 := hv; (try simp only [hX_sI, hX_sR, hX_sL, hX_sD, hX_sIa, hX_sRa, hV_sI, hV_sR, hV_sL, hV_sD, hV_sIa, hV_sRa, hX_new, hV_new] at o0 o1 ⊢); omega) hf k0 kl0 kf
noncomputable def fX4_spell_R_b110 (rc0 : (Option Nat → Option Nat → Int32 → PH → Option PH)) (v0 : Option Nat) (v1 : Option Nat) (v2 : Int32) (v3 : Int32) (v4 : Option Nat) (v5 : Int32) (h : PH) : Option ((Int32 × PH) ⊕ PH) :=
  bd (rc0 v4 v1 (v2 + (1 : Int32)) h) (fun z25 =>
  fX4_spell_R_b119 rc0 v0 v1 v2 v3 v5 z25)
set_option maxRecDepth 100000 in
theorem mX4_spell_R_b110 {rc0 : (Option Nat → Option Nat → Int32 → PH → Option PH)} (hm0 : ∀ {a0 : Option Nat} {a1 : Option Nat} {a2 : Int32} {h : PH} {r : PH}, rc0 a0 a1 a2 h = some r → lez h (hX r) (hV r)) {v0 : Option Nat} {v1 : Option Nat} {v2 : Int32} {v3 : Int32} {v4 : Option Nat} {v5 : Int32} {h : PH} {x : ((Int32 × PH) ⊕ PH)} (hf : fX4_spell_R_b110 rc0 v0 v1 v2 v3 v4 v5 h = some x) : (∀ w9 : (Int32 × PH), x = .inl w9 → lez h (hX (w9.2)) (hV (w9.2))) ∧ (∀ w9 : PH, x = .inr w9 → lez h (hX w9) (hV w9)) := by
  unfold fX4_spell_R_b110 at hf
  have hle := lez_rf h
  obtain ⟨z25, hz25, hf⟩ := bd_some hf
  have hle := lez_rt (hm0 hz25) hle
  obtain ⟨c0, cf⟩ := mX4_spell_R_b119 hm0 hf
  exact ⟨fun z e => lez_rt (c0 z (e)) hle, fun z e => lez_rt (cf z (e)) hle⟩
set_option maxRecDepth 100000 in
theorem wX4_spell_R_b110 {E : PE} {p : Program} {l : Launch} {e : Env} {s : State} {m : MethodId} {args : Array Value} {below : List Frame} {meth : Method} {c : Code} {X0 V0 MC MS uc us : Nat} {nn : Nat} (X : Cx E p l e (rmv (8 + nn + 1) MC MS) s m args below meth c RX4 cX4_spell 6 (none)) (hG : Gs E l) (hnm : meth.name = yX4_spell.name) {rc0 : (Option Nat → Option Nat → Int32 → PH → Option PH)} (hw0 : ∀ {a0 : Option Nat} {a1 : Option Nat} {a2 : Int32} {h : PH} {r : PH}, rc0 a0 a1 a2 h = some r → Ct E l (8 + nn) ((hX r) - hX h) ((hV r) - hV h) yX4_spell cX4_spell 6 (none) [va_rf a0, va_rf a1, .int a2] h (fun v u => v = none ∧ u = r)) (hm0 : ∀ {a0 : Option Nat} {a1 : Option Nat} {a2 : Int32} {h : PH} {r : PH}, rc0 a0 a1 a2 h = some r → lez h (hX r) (hV r)) {v0 : Option Nat} {v1 : Option Nat} {v2 : Int32} {v3 : Int32} {v4 : Option Nat} {v5 : Int32} {h : PH} {r : PH} {x : ((Int32 × PH) ⊕ PH)} (hM : MC + X0 = (hX r)) (hN : MS + V0 = (hV r)) (hu : uc + X0 = hX h) (hv : us + V0 = hV h) (hf : fX4_spell_R_b110 rc0 v0 v1 v2 v3 v4 v5 h = some x) (k0 : ∀ (z : (Int32 × PH)) (uc us : Nat), x = .inl z → uc + X0 = hX (z.2) → us + V0 = hV (z.2) → PW E p l e (rmv (8 + nn + 1) MC MS) s m args below meth c 6 uc us (MQ below (QG E (fun v u => v = none ∧ u = r)) args s MC MS (pA E)) (z.2) 36 [(0, some (va_rf v0)), (1, some (va_rf v1)), (2, some (.int v2)), (3, some (.int (z.1)))] []) (kl0 : ∀ z : (Int32 × PH), x = .inl z → lez (z.2) (hX r) (hV r)) (kf : ∀ z : PH, x = .inr z → z = r) : PW E p l e (rmv (8 + nn + 1) MC MS) s m args below meth c 6 uc us (MQ below (QG E (fun v u => v = none ∧ u = r)) args s MC MS (pA E)) h 110 [(0, some (va_rf v0)), (1, some (va_rf v1)), (2, some (.int v2)), (3, some (.int v3)), (4, some (va_rf v4)), (5, some (.int v5))] [] := by
  have hm1 : lez h (hX r) (hV r) := by
    obtain ⟨c0, cf⟩ := mX4_spell_R_b110 hm0 hf
    rcases hxx : x with zz | zz
    · exact lez_tr (c0 zz hxx) (kl0 zz hxx)
    · have ee := kf zz hxx; subst ee; exact cf zz hxx
  have hcm : uc ≤ MC := (by have o0 := hm1.1; have o1 := hM; have o2 := hu; (try simp only [hX_sI, hX_sR, hX_sL, hX_sD, hX_sIa, hX_sRa, hV_sI, hV_sR, hV_sL, hV_sD, hV_sIa, hV_sRa, hX_new, hV_new] at o0 o1 o2 ⊢); omega)
  have hsm : us ≤ MS := (by have o0 := hm1.2; have o1 := hN; have o2 := hv; (try simp only [hX_sI, hX_sR, hX_sL, hX_sD, hX_sIa, hX_sRa, hV_sI, hV_sR, hV_sL, hV_sD, hV_sIa, hV_sRa, hX_new, hV_new] at o0 o1 o2 ⊢); omega)
  clear hm1
  unfold fX4_spell_R_b110 at hf
  refine p_aloadq X (dcg dc_X4_spell 55 rfl) rfl ?_
  refine p_aloadq_n X (dcg dc_X4_spell 56 rfl) rfl rfl ?_
  refine p_iload_n X (dcg dc_X4_spell 57 rfl) rfl rfl ?_
  refine p_iconst (v := 1) X (dcg dc_X4_spell 58 rfl) (by decide) ?_
  refine p_iadd X (dcg dc_X4_spell 59 rfl) ?_
  obtain ⟨z25, hz25, hf⟩ := bd_some hf
  have hc1 := hm0 hz25
  obtain ⟨c0, cf⟩ := mX4_spell_R_b119 hm0 hf
  have hm1 := (nst1 (fun zz hxx => lez_tr (c0 zz hxx) (kl0 zz hxx)) (fun zz hxx => by have ee := kf zz hxx; subst ee; exact cf zz hxx))
  refine p_callS (As := [va_rf _, va_rf _, _]) X ml_X4_113 (dcg dc_X4_spell 60 rfl) rfl rfl  (hw0 hz25) (by omega) (room4 (Nat.le_of_ble_eq_true rfl)) (by have o0 := hm1.1; have o1 := hc1.1; have o2 := hM; have o3 := hu; (try simp only [hX_sI, hX_sR, hX_sL, hX_sD, hX_sIa, hX_sRa, hV_sI, hV_sR, hV_sL, hV_sD, hV_sIa, hV_sRa, hX_new, hV_new] at o0 o1 o2 o3 ⊢); omega) (by have o0 := hm1.2; have o1 := hc1.2; have o2 := hN; have o3 := hv; (try simp only [hX_sI, hX_sR, hX_sL, hX_sD, hX_sIa, hX_sRa, hV_sI, hV_sR, hV_sL, hV_sD, hV_sIa, hV_sRa, hX_new, hV_new] at o0 o1 o2 o3 ⊢); omega) ?_
  rintro _ u9 ⟨rfl, e9⟩; have e9 := e9.symm; subst e9
  refine p_pick [0, 1, 2, 3, 5] ?_
  exact wX4_spell_R_b119 X hG hnm hw0 hm0 hM hN (by have o0 := hc1.1; have o1 := hu; (try simp only [hX_sI, hX_sR, hX_sL, hX_sD, hX_sIa, hX_sRa, hV_sI, hV_sR, hV_sL, hV_sD, hV_sIa, hV_sRa, hX_new, hV_new] at o0 o1 ⊢); omega) (by have o0 := hc1.2; have o1 := hv; (try simp only [hX_sI, hX_sR, hX_sL, hX_sD, hX_sIa, hX_sRa, hV_sI, hV_sR, hV_sL, hV_sD, hV_sIa, hV_sRa, hX_new, hV_new] at o0 o1 ⊢); omega) hf k0 kl0 kf
noncomputable def fX4_spell_R_b109 (rc0 : (Option Nat → Option Nat → Int32 → PH → Option PH)) (v0 : Option Nat) (v1 : Option Nat) (v2 : Int32) (v3 : Int32) (v4 : Option Nat) (v5 : Int32) (t0 : Option Nat) (h : PH) : Option ((Int32 × PH) ⊕ PH) :=
  fX4_spell_R_b110 rc0 v0 v1 v2 v3 v4 v5 h
set_option maxRecDepth 100000 in
theorem mX4_spell_R_b109 {rc0 : (Option Nat → Option Nat → Int32 → PH → Option PH)} (hm0 : ∀ {a0 : Option Nat} {a1 : Option Nat} {a2 : Int32} {h : PH} {r : PH}, rc0 a0 a1 a2 h = some r → lez h (hX r) (hV r)) {v0 : Option Nat} {v1 : Option Nat} {v2 : Int32} {v3 : Int32} {v4 : Option Nat} {v5 : Int32} {t0 : Option Nat} {h : PH} {x : ((Int32 × PH) ⊕ PH)} (hf : fX4_spell_R_b109 rc0 v0 v1 v2 v3 v4 v5 t0 h = some x) : (∀ w9 : (Int32 × PH), x = .inl w9 → lez h (hX (w9.2)) (hV (w9.2))) ∧ (∀ w9 : PH, x = .inr w9 → lez h (hX w9) (hV w9)) := by
  unfold fX4_spell_R_b109 at hf
  have hle := lez_rf h
  obtain ⟨c0, cf⟩ := mX4_spell_R_b110 hm0 hf
  exact ⟨fun z e => lez_rt (c0 z (e)) hle, fun z e => lez_rt (cf z (e)) hle⟩
set_option maxRecDepth 100000 in
theorem wX4_spell_R_b109 {E : PE} {p : Program} {l : Launch} {e : Env} {s : State} {m : MethodId} {args : Array Value} {below : List Frame} {meth : Method} {c : Code} {X0 V0 MC MS uc us : Nat} {nn : Nat} (X : Cx E p l e (rmv (8 + nn + 1) MC MS) s m args below meth c RX4 cX4_spell 6 (none)) (hG : Gs E l) (hnm : meth.name = yX4_spell.name) {rc0 : (Option Nat → Option Nat → Int32 → PH → Option PH)} (hw0 : ∀ {a0 : Option Nat} {a1 : Option Nat} {a2 : Int32} {h : PH} {r : PH}, rc0 a0 a1 a2 h = some r → Ct E l (8 + nn) ((hX r) - hX h) ((hV r) - hV h) yX4_spell cX4_spell 6 (none) [va_rf a0, va_rf a1, .int a2] h (fun v u => v = none ∧ u = r)) (hm0 : ∀ {a0 : Option Nat} {a1 : Option Nat} {a2 : Int32} {h : PH} {r : PH}, rc0 a0 a1 a2 h = some r → lez h (hX r) (hV r)) {v0 : Option Nat} {v1 : Option Nat} {v2 : Int32} {v3 : Int32} {v4 : Option Nat} {v5 : Int32} {t0 : Option Nat} {h : PH} {r : PH} {x : ((Int32 × PH) ⊕ PH)} (hM : MC + X0 = (hX r)) (hN : MS + V0 = (hV r)) (hu : uc + X0 = hX h) (hv : us + V0 = hV h) (hf : fX4_spell_R_b109 rc0 v0 v1 v2 v3 v4 v5 t0 h = some x) (k0 : ∀ (z : (Int32 × PH)) (uc us : Nat), x = .inl z → uc + X0 = hX (z.2) → us + V0 = hV (z.2) → PW E p l e (rmv (8 + nn + 1) MC MS) s m args below meth c 6 uc us (MQ below (QG E (fun v u => v = none ∧ u = r)) args s MC MS (pA E)) (z.2) 36 [(0, some (va_rf v0)), (1, some (va_rf v1)), (2, some (.int v2)), (3, some (.int (z.1)))] []) (kl0 : ∀ z : (Int32 × PH), x = .inl z → lez (z.2) (hX r) (hV r)) (kf : ∀ z : PH, x = .inr z → z = r) : PW E p l e (rmv (8 + nn + 1) MC MS) s m args below meth c 6 uc us (MQ below (QG E (fun v u => v = none ∧ u = r)) args s MC MS (pA E)) h 109 [(0, some (va_rf v0)), (1, some (va_rf v1)), (2, some (.int v2)), (3, some (.int v3)), (4, some (va_rf v4)), (5, some (.int v5))] [va_rf t0] := by
  have hm1 : lez h (hX r) (hV r) := by
    obtain ⟨c0, cf⟩ := mX4_spell_R_b109 hm0 hf
    rcases hxx : x with zz | zz
    · exact lez_tr (c0 zz hxx) (kl0 zz hxx)
    · have ee := kf zz hxx; subst ee; exact cf zz hxx
  have hcm : uc ≤ MC := (by have o0 := hm1.1; have o1 := hM; have o2 := hu; (try simp only [hX_sI, hX_sR, hX_sL, hX_sD, hX_sIa, hX_sRa, hV_sI, hV_sR, hV_sL, hV_sD, hV_sIa, hV_sRa, hX_new, hV_new] at o0 o1 o2 ⊢); omega)
  have hsm : us ≤ MS := (by have o0 := hm1.2; have o1 := hN; have o2 := hv; (try simp only [hX_sI, hX_sR, hX_sL, hX_sD, hX_sIa, hX_sRa, hV_sI, hV_sR, hV_sL, hV_sD, hV_sIa, hV_sRa, hX_new, hV_new] at o0 o1 o2 ⊢); omega)
  clear hm1
  unfold fX4_spell_R_b109 at hf
  refine p_pop X (dcg dc_X4_spell 54 rfl) (cat_rf _) ?_
  refine p_pick [0, 1, 2, 3, 4, 5] ?_
  exact wX4_spell_R_b110 X hG hnm hw0 hm0 hM hN hu hv hf k0 kl0 kf
noncomputable def fX4_spell_R_b98 (rc0 : (Option Nat → Option Nat → Int32 → PH → Option PH)) (v0 : Option Nat) (v1 : Option Nat) (v2 : Int32) (v3 : Int32) (v4 : Option Nat) (v5 : Int32) (h : PH) : Option ((Int32 × PH) ⊕ PH) :=
  if (v5 = 0) then (fX4_spell_R_b110 rc0 v0 v1 v2 v3 v4 v5 h) else
  gs v1 (fun a30 =>
  gd (hK h a30 = 13) (bd (fJ4_append_cf468 a30 (40 : Int32) h) (fun z33 =>
  fX4_spell_R_b109 rc0 v0 (some a30) v2 v3 v4 v5 z33.1 z33.2)))
set_option maxRecDepth 100000 in
theorem mX4_spell_R_b98 {rc0 : (Option Nat → Option Nat → Int32 → PH → Option PH)} (hm0 : ∀ {a0 : Option Nat} {a1 : Option Nat} {a2 : Int32} {h : PH} {r : PH}, rc0 a0 a1 a2 h = some r → lez h (hX r) (hV r)) {v0 : Option Nat} {v1 : Option Nat} {v2 : Int32} {v3 : Int32} {v4 : Option Nat} {v5 : Int32} {h : PH} {x : ((Int32 × PH) ⊕ PH)} (hf : fX4_spell_R_b98 rc0 v0 v1 v2 v3 v4 v5 h = some x) : (∀ w9 : (Int32 × PH), x = .inl w9 → lez h (hX (w9.2)) (hV (w9.2))) ∧ (∀ w9 : PH, x = .inr w9 → lez h (hX w9) (hV w9)) := by
  unfold fX4_spell_R_b98 at hf
  have hle := lez_rf h
  rcases ite_or hf with ⟨q, hf⟩ | ⟨q, hf⟩
  · have hf := if_t q hf
    obtain ⟨c0, cf⟩ := mX4_spell_R_b110 hm0 hf
    exact ⟨fun z e => lez_rt (c0 z (e)) hle, fun z e => lez_rt (cf z (e)) hle⟩
  · have hf := if_f q hf
    obtain ⟨a30, e31, hf⟩ := gs_some hf
    obtain ⟨hk32, hf⟩ := gd_some hf
    obtain ⟨z33, hz33, hf⟩ := bd_some hf
    have hle := lez_rt (mJ4_append_cf468 hz33) hle
    obtain ⟨c0, cf⟩ := mX4_spell_R_b109 hm0 hf
    exact ⟨fun z e => lez_rt (c0 z (e)) hle, fun z e => lez_rt (cf z (e)) hle⟩
set_option maxRecDepth 100000 in
theorem wX4_spell_R_b98 {E : PE} {p : Program} {l : Launch} {e : Env} {s : State} {m : MethodId} {args : Array Value} {below : List Frame} {meth : Method} {c : Code} {X0 V0 MC MS uc us : Nat} {nn : Nat} (X : Cx E p l e (rmv (8 + nn + 1) MC MS) s m args below meth c RX4 cX4_spell 6 (none)) (hG : Gs E l) (hnm : meth.name = yX4_spell.name) {rc0 : (Option Nat → Option Nat → Int32 → PH → Option PH)} (hw0 : ∀ {a0 : Option Nat} {a1 : Option Nat} {a2 : Int32} {h : PH} {r : PH}, rc0 a0 a1 a2 h = some r → Ct E l (8 + nn) ((hX r) - hX h) ((hV r) - hV h) yX4_spell cX4_spell 6 (none) [va_rf a0, va_rf a1, .int a2] h (fun v u => v = none ∧ u = r)) (hm0 : ∀ {a0 : Option Nat} {a1 : Option Nat} {a2 : Int32} {h : PH} {r : PH}, rc0 a0 a1 a2 h = some r → lez h (hX r) (hV r)) {v0 : Option Nat} {v1 : Option Nat} {v2 : Int32} {v3 : Int32} {v4 : Option Nat} {v5 : Int32} {h : PH} {r : PH} {x : ((Int32 × PH) ⊕ PH)} (hM : MC + X0 = (hX r)) (hN : MS + V0 = (hV r)) (hu : uc + X0 = hX h) (hv : us + V0 = hV h) (hf : fX4_spell_R_b98 rc0 v0 v1 v2 v3 v4 v5 h = some x) (k0 : ∀ (z : (Int32 × PH)) (uc us : Nat), x = .inl z → uc + X0 = hX (z.2) → us + V0 = hV (z.2) → PW E p l e (rmv (8 + nn + 1) MC MS) s m args below meth c 6 uc us (MQ below (QG E (fun v u => v = none ∧ u = r)) args s MC MS (pA E)) (z.2) 36 [(0, some (va_rf v0)), (1, some (va_rf v1)), (2, some (.int v2)), (3, some (.int (z.1)))] []) (kl0 : ∀ z : (Int32 × PH), x = .inl z → lez (z.2) (hX r) (hV r)) (kf : ∀ z : PH, x = .inr z → z = r) : PW E p l e (rmv (8 + nn + 1) MC MS) s m args below meth c 6 uc us (MQ below (QG E (fun v u => v = none ∧ u = r)) args s MC MS (pA E)) h 98 [(0, some (va_rf v0)), (1, some (va_rf v1)), (2, some (.int v2)), (3, some (.int v3)), (4, some (va_rf v4)), (5, some (.int v5))] [] := by
  have hm1 : lez h (hX r) (hV r) := by
    obtain ⟨c0, cf⟩ := mX4_spell_R_b98 hm0 hf
    rcases hxx : x with zz | zz
    · exact lez_tr (c0 zz hxx) (kl0 zz hxx)
    · have ee := kf zz hxx; subst ee; exact cf zz hxx
  have hcm : uc ≤ MC := (by have o0 := hm1.1; have o1 := hM; have o2 := hu; (try simp only [hX_sI, hX_sR, hX_sL, hX_sD, hX_sIa, hX_sRa, hV_sI, hV_sR, hV_sL, hV_sD, hV_sIa, hV_sRa, hX_new, hV_new] at o0 o1 o2 ⊢); omega)
  have hsm : us ≤ MS := (by have o0 := hm1.2; have o1 := hN; have o2 := hv; (try simp only [hX_sI, hX_sR, hX_sL, hX_sD, hX_sIa, hX_sRa, hV_sI, hV_sR, hV_sL, hV_sD, hV_sIa, hV_sRa, hX_new, hV_new] at o0 o1 o2 ⊢); omega)
  clear hm1
  unfold fX4_spell_R_b98 at hf
  refine p_iload X (dcg dc_X4_spell 49 rfl) rfl ?_
  refine p_if_eq (tgt := 110) X (dcg dc_X4_spell 50 rfl) (by decide) (fun q => ?_) (fun q => ?_)
  · have hf := if_t q hf
    refine p_pick [0, 1, 2, 3, 4, 5] ?_
    exact wX4_spell_R_b110 X hG hnm hw0 hm0 hM hN hu hv hf k0 kl0 kf
  · have hf := if_f q hf
    refine p_aloadq_n X (dcg dc_X4_spell 51 rfl) rfl rfl ?_
    refine p_bipush (v := 40) X (dcg dc_X4_spell 52 rfl) (by decide) ?_
    obtain ⟨a30, e31, hf⟩ := gs_some hf
    first | subst e31 | (try rw [e31])
    obtain ⟨hk32, hf⟩ := gd_some hf
    obtain ⟨z33, hz33, hf⟩ := bd_some hf
    have hc1 := mJ4_append_cf468 hz33
    obtain ⟨c0, cf⟩ := mX4_spell_R_b109 hm0 hf
    have hm1 := (nst1 (fun zz hxx => lez_tr (c0 zz hxx) (kl0 zz hxx)) (fun zz hxx => by have ee := kf zz hxx; subst ee; exact cf zz hxx))
    refine p_callV (As := [_]) X ml_X4_103 (dcg dc_X4_spell 53 rfl) rfl rfl hk32 (wJ4_append_cf468 hG hz33) (by omega) (room4 (Nat.le_of_ble_eq_true rfl)) (by have o0 := hm1.1; have o1 := hc1.1; have o2 := hM; have o3 := hu; (try simp only [hX_sI, hX_sR, hX_sL, hX_sD, hX_sIa, hX_sRa, hV_sI, hV_sR, hV_sL, hV_sD, hV_sIa, hV_sRa, hX_new, hV_new] at o0 o1 o2 o3 ⊢); omega) (by have o0 := hm1.2; have o1 := hc1.2; have o2 := hN; have o3 := hv; (try simp only [hX_sI, hX_sR, hX_sL, hX_sD, hX_sIa, hX_sRa, hV_sI, hV_sR, hV_sL, hV_sD, hV_sIa, hV_sRa, hX_new, hV_new] at o0 o1 o2 o3 ⊢); omega) ?_
    rintro _ u9 ⟨rfl, e9⟩; have e9 := e9.symm; subst e9
    refine p_pick [0, 1, 2, 3, 4, 5] ?_
    exact wX4_spell_R_b109 X hG hnm hw0 hm0 hM hN (by have o0 := hc1.1; have o1 := hu; (try simp only [hX_sI, hX_sR, hX_sL, hX_sD, hX_sIa, hX_sRa, hV_sI, hV_sR, hV_sL, hV_sD, hV_sIa, hV_sRa, hX_new, hV_new] at o0 o1 ⊢); omega) (by have o0 := hc1.2; have o1 := hv; (try simp only [hX_sI, hX_sR, hX_sL, hX_sD, hX_sIa, hX_sRa, hV_sI, hV_sR, hV_sL, hV_sD, hV_sIa, hV_sRa, hX_new, hV_new] at o0 o1 ⊢); omega) hf k0 kl0 kf
noncomputable def fX4_spell_R_b97 (rc0 : (Option Nat → Option Nat → Int32 → PH → Option PH)) (v0 : Option Nat) (v1 : Option Nat) (v2 : Int32) (v3 : Int32) (v4 : Option Nat) (v5 : Int32) (t0 : Option Nat) (h : PH) : Option ((Int32 × PH) ⊕ PH) :=
  fX4_spell_R_b98 rc0 v0 v1 v2 v3 v4 v5 h
set_option maxRecDepth 100000 in
theorem mX4_spell_R_b97 {rc0 : (Option Nat → Option Nat → Int32 → PH → Option PH)} (hm0 : ∀ {a0 : Option Nat} {a1 : Option Nat} {a2 : Int32} {h : PH} {r : PH}, rc0 a0 a1 a2 h = some r → lez h (hX r) (hV r)) {v0 : Option Nat} {v1 : Option Nat} {v2 : Int32} {v3 : Int32} {v4 : Option Nat} {v5 : Int32} {t0 : Option Nat} {h : PH} {x : ((Int32 × PH) ⊕ PH)} (hf : fX4_spell_R_b97 rc0 v0 v1 v2 v3 v4 v5 t0 h = some x) : (∀ w9 : (Int32 × PH), x = .inl w9 → lez h (hX (w9.2)) (hV (w9.2))) ∧ (∀ w9 : PH, x = .inr w9 → lez h (hX w9) (hV w9)) := by
  unfold fX4_spell_R_b97 at hf
  have hle := lez_rf h
  obtain ⟨c0, cf⟩ := mX4_spell_R_b98 hm0 hf
  exact ⟨fun z e => lez_rt (c0 z (e)) hle, fun z e => lez_rt (cf z (e)) hle⟩
set_option maxRecDepth 100000 in
theorem wX4_spell_R_b97 {E : PE} {p : Program} {l : Launch} {e : Env} {s : State} {m : MethodId} {args : Array Value} {below : List Frame} {meth : Method} {c : Code} {X0 V0 MC MS uc us : Nat} {nn : Nat} (X : Cx E p l e (rmv (8 + nn + 1) MC MS) s m args below meth c RX4 cX4_spell 6 (none)) (hG : Gs E l) (hnm : meth.name = yX4_spell.name) {rc0 : (Option Nat → Option Nat → Int32 → PH → Option PH)} (hw0 : ∀ {a0 : Option Nat} {a1 : Option Nat} {a2 : Int32} {h : PH} {r : PH}, rc0 a0 a1 a2 h = some r → Ct E l (8 + nn) ((hX r) - hX h) ((hV r) - hV h) yX4_spell cX4_spell 6 (none) [va_rf a0, va_rf a1, .int a2] h (fun v u => v = none ∧ u = r)) (hm0 : ∀ {a0 : Option Nat} {a1 : Option Nat} {a2 : Int32} {h : PH} {r : PH}, rc0 a0 a1 a2 h = some r → lez h (hX r) (hV r)) {v0 : Option Nat} {v1 : Option Nat} {v2 : Int32} {v3 : Int32} {v4 : Option Nat} {v5 : Int32} {t0 : Option Nat} {h : PH} {r : PH} {x : ((Int32 × PH) ⊕ PH)} (hM : MC + X0 = (hX r)) (hN : MS + V0 = (hV r)) (hu : uc + X0 = hX h) (hv : us + V0 = hV h) (hf : fX4_spell_R_b97 rc0 v0 v1 v2 v3 v4 v5 t0 h = some x) (k0 : ∀ (z : (Int32 × PH)) (uc us : Nat), x = .inl z → uc + X0 = hX (z.2) → us + V0 = hV (z.2) → PW E p l e (rmv (8 + nn + 1) MC MS) s m args below meth c 6 uc us (MQ below (QG E (fun v u => v = none ∧ u = r)) args s MC MS (pA E)) (z.2) 36 [(0, some (va_rf v0)), (1, some (va_rf v1)), (2, some (.int v2)), (3, some (.int (z.1)))] []) (kl0 : ∀ z : (Int32 × PH), x = .inl z → lez (z.2) (hX r) (hV r)) (kf : ∀ z : PH, x = .inr z → z = r) : PW E p l e (rmv (8 + nn + 1) MC MS) s m args below meth c 6 uc us (MQ below (QG E (fun v u => v = none ∧ u = r)) args s MC MS (pA E)) h 97 [(0, some (va_rf v0)), (1, some (va_rf v1)), (2, some (.int v2)), (3, some (.int v3)), (4, some (va_rf v4)), (5, some (.int v5))] [va_rf t0] := by
  have hm1 : lez h (hX r) (hV r) := by
    obtain ⟨c0, cf⟩ := mX4_spell_R_b97 hm0 hf
    rcases hxx : x with zz | zz
    · exact lez_tr (c0 zz hxx) (kl0 zz hxx)
    · have ee := kf zz hxx; subst ee; exact cf zz hxx
  have hcm : uc ≤ MC := (by have o0 := hm1.1; have o1 := hM; have o2 := hu; (try simp only [hX_sI, hX_sR, hX_sL, hX_sD, hX_sIa, hX_sRa, hV_sI, hV_sR, hV_sL, hV_sD, hV_sIa, hV_sRa, hX_new, hV_new] at o0 o1 o2 ⊢); omega)
  have hsm : us ≤ MS := (by have o0 := hm1.2; have o1 := hN; have o2 := hv; (try simp only [hX_sI, hX_sR, hX_sL, hX_sD, hX_sIa, hX_sRa, hV_sI, hV_sR, hV_sL, hV_sD, hV_sIa, hV_sRa, hX_new, hV_new] at o0 o1 o2 ⊢); omega)
  clear hm1
  unfold fX4_spell_R_b97 at hf
  refine p_pop X (dcg dc_X4_spell 48 rfl) (cat_rf _) ?_
  refine p_pick [0, 1, 2, 3, 4, 5] ?_
  exact wX4_spell_R_b98 X hG hnm hw0 hm0 hM hN hu hv hf k0 kl0 kf
noncomputable def fX4_spell_R_b94 (rc0 : (Option Nat → Option Nat → Int32 → PH → Option PH)) (v0 : Option Nat) (v1 : Option Nat) (v2 : Int32) (v3 : Int32) (v4 : Option Nat) (v5 : Int32) (t0 : Option Nat) (t1 : Int32) (h : PH) : Option ((Int32 × PH) ⊕ PH) :=
  gs t0 (fun a34 =>
  gd (hK h a34 = 13) (bd (fJ4_append_cf468 a34 t1 h) (fun z37 =>
  fX4_spell_R_b97 rc0 v0 v1 v2 v3 v4 v5 z37.1 z37.2)))
set_option maxRecDepth 100000 in
theorem mX4_spell_R_b94 {rc0 : (Option Nat → Option Nat → Int32 → PH → Option PH)} (hm0 : ∀ {a0 : Option Nat} {a1 : Option Nat} {a2 : Int32} {h : PH} {r : PH}, rc0 a0 a1 a2 h = some r → lez h (hX r) (hV r)) {v0 : Option Nat} {v1 : Option Nat} {v2 : Int32} {v3 : Int32} {v4 : Option Nat} {v5 : Int32} {t0 : Option Nat} {t1 : Int32} {h : PH} {x : ((Int32 × PH) ⊕ PH)} (hf : fX4_spell_R_b94 rc0 v0 v1 v2 v3 v4 v5 t0 t1 h = some x) : (∀ w9 : (Int32 × PH), x = .inl w9 → lez h (hX (w9.2)) (hV (w9.2))) ∧ (∀ w9 : PH, x = .inr w9 → lez h (hX w9) (hV w9)) := by
  unfold fX4_spell_R_b94 at hf
  have hle := lez_rf h
  obtain ⟨a34, e35, hf⟩ := gs_some hf
  obtain ⟨hk36, hf⟩ := gd_some hf
  obtain ⟨z37, hz37, hf⟩ := bd_some hf
  have hle := lez_rt (mJ4_append_cf468 hz37) hle
  obtain ⟨c0, cf⟩ := mX4_spell_R_b97 hm0 hf
  exact ⟨fun z e => lez_rt (c0 z (e)) hle, fun z e => lez_rt (cf z (e)) hle⟩
set_option maxRecDepth 100000 in
theorem wX4_spell_R_b94 {E : PE} {p : Program} {l : Launch} {e : Env} {s : State} {m : MethodId} {args : Array Value} {below : List Frame} {meth : Method} {c : Code} {X0 V0 MC MS uc us : Nat} {nn : Nat} (X : Cx E p l e (rmv (8 + nn + 1) MC MS) s m args below meth c RX4 cX4_spell 6 (none)) (hG : Gs E l) (hnm : meth.name = yX4_spell.name) {rc0 : (Option Nat → Option Nat → Int32 → PH → Option PH)} (hw0 : ∀ {a0 : Option Nat} {a1 : Option Nat} {a2 : Int32} {h : PH} {r : PH}, rc0 a0 a1 a2 h = some r → Ct E l (8 + nn) ((hX r) - hX h) ((hV r) - hV h) yX4_spell cX4_spell 6 (none) [va_rf a0, va_rf a1, .int a2] h (fun v u => v = none ∧ u = r)) (hm0 : ∀ {a0 : Option Nat} {a1 : Option Nat} {a2 : Int32} {h : PH} {r : PH}, rc0 a0 a1 a2 h = some r → lez h (hX r) (hV r)) {v0 : Option Nat} {v1 : Option Nat} {v2 : Int32} {v3 : Int32} {v4 : Option Nat} {v5 : Int32} {t0 : Option Nat} {t1 : Int32} {h : PH} {r : PH} {x : ((Int32 × PH) ⊕ PH)} (hM : MC + X0 = (hX r)) (hN : MS + V0 = (hV r)) (hu : uc + X0 = hX h) (hv : us + V0 = hV h) (hf : fX4_spell_R_b94 rc0 v0 v1 v2 v3 v4 v5 t0 t1 h = some x) (k0 : ∀ (z : (Int32 × PH)) (uc us : Nat), x = .inl z → uc + X0 = hX (z.2) → us + V0 = hV (z.2) → PW E p l e (rmv (8 + nn + 1) MC MS) s m args below meth c 6 uc us (MQ below (QG E (fun v u => v = none ∧ u = r)) args s MC MS (pA E)) (z.2) 36 [(0, some (va_rf v0)), (1, some (va_rf v1)), (2, some (.int v2)), (3, some (.int (z.1)))] []) (kl0 : ∀ z : (Int32 × PH), x = .inl z → lez (z.2) (hX r) (hV r)) (kf : ∀ z : PH, x = .inr z → z = r) : PW E p l e (rmv (8 + nn + 1) MC MS) s m args below meth c 6 uc us (MQ below (QG E (fun v u => v = none ∧ u = r)) args s MC MS (pA E)) h 94 [(0, some (va_rf v0)), (1, some (va_rf v1)), (2, some (.int v2)), (3, some (.int v3)), (4, some (va_rf v4)), (5, some (.int v5))] [.int t1, va_rf t0] := by
  have hm1 : lez h (hX r) (hV r) := by
    obtain ⟨c0, cf⟩ := mX4_spell_R_b94 hm0 hf
    rcases hxx : x with zz | zz
    · exact lez_tr (c0 zz hxx) (kl0 zz hxx)
    · have ee := kf zz hxx; subst ee; exact cf zz hxx
  have hcm : uc ≤ MC := (by have o0 := hm1.1; have o1 := hM; have o2 := hu; (try simp only [hX_sI, hX_sR, hX_sL, hX_sD, hX_sIa, hX_sRa, hV_sI, hV_sR, hV_sL, hV_sD, hV_sIa, hV_sRa, hX_new, hV_new] at o0 o1 o2 ⊢); omega)
  have hsm : us ≤ MS := (by have o0 := hm1.2; have o1 := hN; have o2 := hv; (try simp only [hX_sI, hX_sR, hX_sL, hX_sD, hX_sIa, hX_sRa, hV_sI, hV_sR, hV_sL, hV_sD, hV_sIa, hV_sRa, hX_new, hV_new] at o0 o1 o2 ⊢); omega)
  clear hm1
  unfold fX4_spell_R_b94 at hf
  obtain ⟨a34, e35, hf⟩ := gs_some hf
  first | subst e35 | (try rw [e35])
  obtain ⟨hk36, hf⟩ := gd_some hf
  obtain ⟨z37, hz37, hf⟩ := bd_some hf
  have hc1 := mJ4_append_cf468 hz37
  obtain ⟨c0, cf⟩ := mX4_spell_R_b97 hm0 hf
  have hm1 := (nst1 (fun zz hxx => lez_tr (c0 zz hxx) (kl0 zz hxx)) (fun zz hxx => by have ee := kf zz hxx; subst ee; exact cf zz hxx))
  refine p_callV (As := [_]) X ml_X4_103 (dcg dc_X4_spell 47 rfl) rfl rfl hk36 (wJ4_append_cf468 hG hz37) (by omega) (room4 (Nat.le_of_ble_eq_true rfl)) (by have o0 := hm1.1; have o1 := hc1.1; have o2 := hM; have o3 := hu; (try simp only [hX_sI, hX_sR, hX_sL, hX_sD, hX_sIa, hX_sRa, hV_sI, hV_sR, hV_sL, hV_sD, hV_sIa, hV_sRa, hX_new, hV_new] at o0 o1 o2 o3 ⊢); omega) (by have o0 := hm1.2; have o1 := hc1.2; have o2 := hN; have o3 := hv; (try simp only [hX_sI, hX_sR, hX_sL, hX_sD, hX_sIa, hX_sRa, hV_sI, hV_sR, hV_sL, hV_sD, hV_sIa, hV_sRa, hX_new, hV_new] at o0 o1 o2 o3 ⊢); omega) ?_
  rintro _ u9 ⟨rfl, e9⟩; have e9 := e9.symm; subst e9
  refine p_pick [0, 1, 2, 3, 4, 5] ?_
  exact wX4_spell_R_b97 X hG hnm hw0 hm0 hM hN (by have o0 := hc1.1; have o1 := hu; (try simp only [hX_sI, hX_sR, hX_sL, hX_sD, hX_sIa, hX_sRa, hV_sI, hV_sR, hV_sL, hV_sD, hV_sIa, hV_sRa, hX_new, hV_new] at o0 o1 ⊢); omega) (by have o0 := hc1.2; have o1 := hv; (try simp only [hX_sI, hX_sR, hX_sL, hX_sD, hX_sIa, hX_sRa, hV_sI, hV_sR, hV_sL, hV_sD, hV_sIa, hV_sRa, hX_new, hV_new] at o0 o1 ⊢); omega) hf k0 kl0 kf
noncomputable def fX4_spell_R_c36 (rc0 : (Option Nat → Option Nat → Int32 → PH → Option PH)) (v0 : Option Nat) (v1 : Option Nat) (v2 : Int32) (v3 : Int32) (h : PH) : Option ((Int32 × PH) ⊕ PH) :=
  gs v0 (fun a8 =>
  gd (hK h a8 = 4) (gs (hR h 4 a8 3) (fun a11 =>
  gd (hK h a11 = 14) (bd (fJx4a65c_size_8abf5 a11 h) (fun z14 =>
  if (z14 ≤ v3) then (mr (some (h))) else
  gs (hR h 4 a8 3) (fun a17 =>
  gd (hK h a17 = 14) (bd (fJx4a65c_get_915e3 a17 v3 h) (fun z20 =>
  gs z20 (fun a21 =>
  gd (hK h a21 = 4) (bd (fX4_needsBrackets (hI h 4 a8 0) (hI h 4 a21 0)) (fun z24 =>
  if (v3 ≤ 0) then (fX4_spell_R_b98 rc0 (some a8) v1 v2 v3 (some a21) z24 h) else
  if (¬ (hI h 4 a8 0) = (5 : Int32)) then (fX4_spell_R_b94 rc0 (some a8) v1 v2 v3 (some a21) z24 v1 (124 : Int32) h) else
  fX4_spell_R_b94 rc0 (some a8) v1 v2 v3 (some a21) z24 v1 (38 : Int32) h)))))))))))
set_option maxRecDepth 100000 in
theorem mX4_spell_R_c36 {rc0 : (Option Nat → Option Nat → Int32 → PH → Option PH)} (hm0 : ∀ {a0 : Option Nat} {a1 : Option Nat} {a2 : Int32} {h : PH} {r : PH}, rc0 a0 a1 a2 h = some r → lez h (hX r) (hV r)) {v0 : Option Nat} {v1 : Option Nat} {v2 : Int32} {v3 : Int32} {h : PH} {x : ((Int32 × PH) ⊕ PH)} (hf : fX4_spell_R_c36 rc0 v0 v1 v2 v3 h = some x) : (∀ w9 : (Int32 × PH), x = .inl w9 → lez h (hX (w9.2)) (hV (w9.2))) ∧ (∀ w9 : PH, x = .inr w9 → lez h (hX w9) (hV w9)) := by
  unfold fX4_spell_R_c36 at hf
  have hle := lez_rf h
  obtain ⟨a8, e9, hf⟩ := gs_some hf
  obtain ⟨hk10, hf⟩ := gd_some hf
  obtain ⟨a11, e12, hf⟩ := gs_some hf
  obtain ⟨hk13, hf⟩ := gd_some hf
  obtain ⟨z14, hz14, hf⟩ := bd_some hf
  rcases ite_or hf with ⟨q, hf⟩ | ⟨q, hf⟩
  · have hf := if_t q hf
    obtain ⟨y15, hfm, rfl⟩ := mr_some hf; have hf := hfm; clear hfm
    have ee := Option.some.inj hf; subst ee
    exact ⟨(fun z e => nomatch e), (fun z e => by have ee := Sum.inr.inj (e); subst ee; exact hle)⟩
  · have hf := if_f q hf
    obtain ⟨a17, e18, hf⟩ := gs_some hf
    obtain ⟨hk19, hf⟩ := gd_some hf
    obtain ⟨z20, hz20, hf⟩ := bd_some hf
    obtain ⟨a21, e22, hf⟩ := gs_some hf
    obtain ⟨hk23, hf⟩ := gd_some hf
    obtain ⟨z24, hz24, hf⟩ := bd_some hf
    rcases ite_or hf with ⟨q, hf⟩ | ⟨q, hf⟩
    · have hf := if_t q hf
      obtain ⟨c0, cf⟩ := mX4_spell_R_b98 hm0 hf
      exact ⟨fun z e => lez_rt (c0 z (e)) hle, fun z e => lez_rt (cf z (e)) hle⟩
    · have hf := if_f q hf
      rcases ite_or hf with ⟨q, hf⟩ | ⟨q, hf⟩
      · have hf := if_t q hf
        obtain ⟨c0, cf⟩ := mX4_spell_R_b94 hm0 hf
        exact ⟨fun z e => lez_rt (c0 z (e)) hle, fun z e => lez_rt (cf z (e)) hle⟩
      · have hf := if_f q hf
        obtain ⟨c0, cf⟩ := mX4_spell_R_b94 hm0 hf
        exact ⟨fun z e => lez_rt (c0 z (e)) hle, fun z e => lez_rt (cf z (e)) hle⟩
set_option maxRecDepth 100000 in
theorem wX4_spell_R_c36 {E : PE} {p : Program} {l : Launch} {e : Env} {s : State} {m : MethodId} {args : Array Value} {below : List Frame} {meth : Method} {c : Code} {X0 V0 MC MS uc us : Nat} {nn : Nat} (X : Cx E p l e (rmv (8 + nn + 1) MC MS) s m args below meth c RX4 cX4_spell 6 (none)) (hG : Gs E l) (hnm : meth.name = yX4_spell.name) {rc0 : (Option Nat → Option Nat → Int32 → PH → Option PH)} (hw0 : ∀ {a0 : Option Nat} {a1 : Option Nat} {a2 : Int32} {h : PH} {r : PH}, rc0 a0 a1 a2 h = some r → Ct E l (8 + nn) ((hX r) - hX h) ((hV r) - hV h) yX4_spell cX4_spell 6 (none) [va_rf a0, va_rf a1, .int a2] h (fun v u => v = none ∧ u = r)) (hm0 : ∀ {a0 : Option Nat} {a1 : Option Nat} {a2 : Int32} {h : PH} {r : PH}, rc0 a0 a1 a2 h = some r → lez h (hX r) (hV r)) {v0 : Option Nat} {v1 : Option Nat} {v2 : Int32} {v3 : Int32} {h : PH} {r : PH} {x : ((Int32 × PH) ⊕ PH)} (hM : MC + X0 = (hX r)) (hN : MS + V0 = (hV r)) (hu : uc + X0 = hX h) (hv : us + V0 = hV h) (hf : fX4_spell_R_c36 rc0 v0 v1 v2 v3 h = some x) (k0 : ∀ (z : (Int32 × PH)) (uc us : Nat), x = .inl z → uc + X0 = hX (z.2) → us + V0 = hV (z.2) → PW E p l e (rmv (8 + nn + 1) MC MS) s m args below meth c 6 uc us (MQ below (QG E (fun v u => v = none ∧ u = r)) args s MC MS (pA E)) (z.2) 36 [(0, some (va_rf v0)), (1, some (va_rf v1)), (2, some (.int v2)), (3, some (.int (z.1)))] []) (kl0 : ∀ z : (Int32 × PH), x = .inl z → lez (z.2) (hX r) (hV r)) (kf : ∀ z : PH, x = .inr z → z = r) : PW E p l e (rmv (8 + nn + 1) MC MS) s m args below meth c 6 uc us (MQ below (QG E (fun v u => v = none ∧ u = r)) args s MC MS (pA E)) h 36 [(0, some (va_rf v0)), (1, some (va_rf v1)), (2, some (.int v2)), (3, some (.int v3))] [] := by
  have hm1 : lez h (hX r) (hV r) := by
    obtain ⟨c0, cf⟩ := mX4_spell_R_c36 hm0 hf
    rcases hxx : x with zz | zz
    · exact lez_tr (c0 zz hxx) (kl0 zz hxx)
    · have ee := kf zz hxx; subst ee; exact cf zz hxx
  have hcm : uc ≤ MC := (by have o0 := hm1.1; have o1 := hM; have o2 := hu; (try simp only [hX_sI, hX_sR, hX_sL, hX_sD, hX_sIa, hX_sRa, hV_sI, hV_sR, hV_sL, hV_sD, hV_sIa, hV_sRa, hX_new, hV_new] at o0 o1 o2 ⊢); omega)
  have hsm : us ≤ MS := (by have o0 := hm1.2; have o1 := hN; have o2 := hv; (try simp only [hX_sI, hX_sR, hX_sL, hX_sD, hX_sIa, hX_sRa, hV_sI, hV_sR, hV_sL, hV_sD, hV_sIa, hV_sRa, hX_new, hV_new] at o0 o1 o2 ⊢); omega)
  clear hm1
  unfold fX4_spell_R_c36 at hf
  refine p_iload_n X (dcg dc_X4_spell 20 rfl) rfl rfl ?_
  refine p_aloadq_n X (dcg dc_X4_spell 21 rfl) rfl rfl ?_
  obtain ⟨a8, e9, hf⟩ := gs_some hf
  first | subst e9 | (try rw [e9])
  obtain ⟨hk10, hf⟩ := gd_some hf
  refine p_getR X fl_X4_25 rfl (by decide) (dcg dc_X4_spell 22 rfl) hk10 ?_
  obtain ⟨a11, e12, hf⟩ := gs_some hf
  first | subst e12 | (try rw [e12])
  obtain ⟨hk13, hf⟩ := gd_some hf
  obtain ⟨z14, hz14, hf⟩ := bd_some hf
  refine p_callV (As := []) X ml_X4_71 (dcg dc_X4_spell 23 rfl) rfl rfl hk13 (wJx4a65c_size_8abf5 hG hz14) (by omega) (room4 (Nat.le_of_ble_eq_true rfl)) hcm hsm ?_
  rintro _ u9 ⟨rfl, e9⟩; have e9 := e9.symm; subst e9
  refine p_icmp_ge (tgt := 137) X (dcg dc_X4_spell 24 rfl) (by decide) (fun q => ?_) (fun q => ?_)
  · have hf := if_t q hf
    obtain ⟨y15, hf, hy16⟩ := mr_some hf
    have hy16f := kf y15 hy16
    subst hy16f
    have er := Option.some.inj hf
    subst er
    exact p_vret X rfl (dcg dc_X4_spell 69 rfl) ⟨rfl, rfl⟩ hcm hsm
  · have hf := if_f q hf
    refine p_aload_n X (dcg dc_X4_spell 25 rfl) rfl rfl ?_
    refine p_getR X fl_X4_25 rfl (by decide) (dcg dc_X4_spell 26 rfl) hk10 ?_
    refine p_iload_n X (dcg dc_X4_spell 27 rfl) rfl rfl ?_
    obtain ⟨a17, e18, hf⟩ := gs_some hf
    first | subst e18 | (try rw [e18])
    obtain ⟨hk19, hf⟩ := gd_some hf
    obtain ⟨z20, hz20, hf⟩ := bd_some hf
    refine p_callV (As := [_]) X ml_X4_75 (dcg dc_X4_spell 28 rfl) rfl rfl hk19 (wJx4a65c_get_915e3 hG hz20) (by omega) (room4 (Nat.le_of_ble_eq_true rfl)) hcm hsm ?_
    rintro _ u9 ⟨rfl, e9⟩; have e9 := e9.symm; subst e9
    obtain ⟨a21, e22, hf⟩ := gs_some hf
    first | subst e22 | (try rw [e22])
    obtain ⟨hk23, hf⟩ := gd_some hf
    refine p_cast (q := (RX4, TX4, 4)) X rfl tw_971 (dcg dc_X4_spell 29 rfl) hk23 ?_
    refine p_astore X (dcg dc_X4_spell 30 rfl) (by decide) rfl ?_
    refine p_aload_n X (dcg dc_X4_spell 31 rfl) rfl rfl ?_
    refine p_getI X fl_X4_9 rfl (by decide) (dcg dc_X4_spell 32 rfl) hk10 ?_
    refine p_aload X (dcg dc_X4_spell 33 rfl) rfl ?_
    refine p_getI X fl_X4_9 rfl (by decide) (dcg dc_X4_spell 34 rfl) hk23 ?_
    obtain ⟨z24, hz24, hf⟩ := bd_some hf
    refine p_callS (As := [_, _]) X ml_X4_109 (dcg dc_X4_spell 35 rfl) rfl rfl  (wX4_needsBrackets hG hz24) (by omega) (room4 (Nat.le_of_ble_eq_true rfl)) hcm hsm ?_
    rintro _ u9 ⟨rfl, e9⟩; have e9 := e9.symm; subst e9
    refine p_istore X (dcg dc_X4_spell 36 rfl) (by decide) rfl ?_
    refine p_iload_n X (dcg dc_X4_spell 37 rfl) rfl rfl ?_
    refine p_if_le (tgt := 98) X (dcg dc_X4_spell 38 rfl) (by decide) (fun q => ?_) (fun q => ?_)
    · have hf := if_t q hf
      refine p_pick [0, 1, 2, 3, 4, 5] ?_
      exact wX4_spell_R_b98 X hG hnm hw0 hm0 hM hN hu hv hf k0 kl0 kf
    · have hf := if_f q hf
      refine p_aloadq_n X (dcg dc_X4_spell 39 rfl) rfl rfl ?_
      refine p_aload_n X (dcg dc_X4_spell 40 rfl) rfl rfl ?_
      refine p_getI X fl_X4_9 rfl (by decide) (dcg dc_X4_spell 41 rfl) hk10 ?_
      refine p_iconst (v := 5) X (dcg dc_X4_spell 42 rfl) (by decide) ?_
      refine p_icmp_ne (tgt := 92) X (dcg dc_X4_spell 43 rfl) (by decide) (fun q => ?_) (fun q => ?_)
      · have hf := if_t q hf
        refine p_bipush (v := 124) X (dcg dc_X4_spell 46 rfl) (by decide) ?_
        refine p_pick [0, 1, 2, 3, 4, 5] ?_
        exact wX4_spell_R_b94 X hG hnm hw0 hm0 hM hN hu hv hf k0 kl0 kf
      · have hf := if_f q hf
        refine p_bipush (v := 38) X (dcg dc_X4_spell 44 rfl) (by decide) ?_
        refine p_goto (tgt := 94) X (dcg dc_X4_spell 45 rfl) (by decide) ?_
        refine p_pick [0, 1, 2, 3, 4, 5] ?_
        exact wX4_spell_R_b94 X hG hnm hw0 hm0 hM hN hu hv hf k0 kl0 kf
noncomputable def fX4_spell_R_l36 (rc0 : (Option Nat → Option Nat → Int32 → PH → Option PH)) (v0 : Option Nat) (v1 : Option Nat) (v2 : Int32) (v3 : Int32) (h : PH) : Option PH := wh (fun z : (Int32 × PH) => fX4_spell_R_c36 rc0 v0 v1 v2 (z.1) (z.2)) (v3, h)
set_option maxRecDepth 100000 in
theorem mX4_spell_R_l36 {rc0 : (Option Nat → Option Nat → Int32 → PH → Option PH)} (hm0 : ∀ {a0 : Option Nat} {a1 : Option Nat} {a2 : Int32} {h : PH} {r : PH}, rc0 a0 a1 a2 h = some r → lez h (hX r) (hV r)) {v0 : Option Nat} {v1 : Option Nat} {v2 : Int32} {v3 : Int32} {h : PH} {r : PH} (hf : fX4_spell_R_l36 rc0 v0 v1 v2 v3 h = some r) : lez h (hX r) (hV r) := by
  unfold fX4_spell_R_l36 at hf
  refine wh_ind (P := fun z => lez (z.2) (hX r) (hV r)) (fun z x0 hs i1 i2 => ?_) _ hf
  obtain ⟨c0, cf⟩ := mX4_spell_R_c36 (v0 := v0) (v1 := v1) (v2 := v2) (v3 := z.1) (h := z.2) hm0 hs
  rcases hxx : x0 with zz | zz
  · exact lez_tr (c0 zz hxx) (i1 zz hxx)
  · have ee := i2 zz hxx; subst ee; exact cf zz hxx
set_option maxRecDepth 100000 in
theorem wX4_spell_R_l36 {E : PE} {p : Program} {l : Launch} {e : Env} {s : State} {m : MethodId} {args : Array Value} {below : List Frame} {meth : Method} {c : Code} {X0 V0 MC MS uc us : Nat} {nn : Nat} (X : Cx E p l e (rmv (8 + nn + 1) MC MS) s m args below meth c RX4 cX4_spell 6 (none)) (hG : Gs E l) (hnm : meth.name = yX4_spell.name) {rc0 : (Option Nat → Option Nat → Int32 → PH → Option PH)} (hw0 : ∀ {a0 : Option Nat} {a1 : Option Nat} {a2 : Int32} {h : PH} {r : PH}, rc0 a0 a1 a2 h = some r → Ct E l (8 + nn) ((hX r) - hX h) ((hV r) - hV h) yX4_spell cX4_spell 6 (none) [va_rf a0, va_rf a1, .int a2] h (fun v u => v = none ∧ u = r)) (hm0 : ∀ {a0 : Option Nat} {a1 : Option Nat} {a2 : Int32} {h : PH} {r : PH}, rc0 a0 a1 a2 h = some r → lez h (hX r) (hV r)) {v0 : Option Nat} {v1 : Option Nat} {v2 : Int32} {v3 : Int32} {h : PH} {r : PH} (hM : MC + X0 = (hX r)) (hN : MS + V0 = (hV r)) (hu : uc + X0 = hX h) (hv : us + V0 = hV h) (hf : fX4_spell_R_l36 rc0 v0 v1 v2 v3 h = some r)  : PW E p l e (rmv (8 + nn + 1) MC MS) s m args below meth c 6 uc us (MQ below (QG E (fun v u => v = none ∧ u = r)) args s MC MS (pA E)) h 36 [(0, some (va_rf v0)), (1, some (va_rf v1)), (2, some (.int v2)), (3, some (.int v3))] [] := by
  unfold fX4_spell_R_l36 at hf
  refine wh_ind2 (P := fun z => ∀ uc us : Nat, uc + X0 = hX (z.2) → us + V0 = hV (z.2) → PW E p l e (rmv (8 + nn + 1) MC MS) s m args below meth c 6 uc us (MQ below (QG E (fun v u => v = none ∧ u = r)) args s MC MS (pA E)) (z.2) 36 [(0, some (va_rf v0)), (1, some (va_rf v1)), (2, some (.int v2)), (3, some (.int (z.1)))] []) (fun z x0 hs i1 i2 uc us hu hv => ?_) _ hf uc us hu hv
  exact wX4_spell_R_c36 (r := r) (v0 := v0) (v1 := v1) (v2 := v2) (v3 := z.1) (h := z.2) X hG hnm hw0 hm0 hM hN hu hv hs (fun z1 uc1 us1 e1 e2 e3 => (i1 z1 e1).1 uc1 us1 e2 e3) (fun z1 e1 => mX4_spell_R_l36 (v0 := v0) (v1 := v1) (v2 := v2) (v3 := z1.1) (h := z1.2) hm0 (by unfold fX4_spell_R_l36; exact (i1 z1 e1).2))  i2
noncomputable def fX4_spell_R_b34 (rc0 : (Option Nat → Option Nat → Int32 → PH → Option PH)) (v0 : Option Nat) (v1 : Option Nat) (v2 : Int32) (h : PH) : Option PH :=
  fX4_spell_R_l36 rc0 v0 v1 v2 (0 : Int32) h
set_option maxRecDepth 100000 in
theorem mX4_spell_R_b34 {rc0 : (Option Nat → Option Nat → Int32 → PH → Option PH)} (hm0 : ∀ {a0 : Option Nat} {a1 : Option Nat} {a2 : Int32} {h : PH} {r : PH}, rc0 a0 a1 a2 h = some r → lez h (hX r) (hV r)) {v0 : Option Nat} {v1 : Option Nat} {v2 : Int32} {h : PH} {r : PH} (hf : fX4_spell_R_b34 rc0 v0 v1 v2 h = some r) : lez h (hX r) (hV r) := by
  unfold fX4_spell_R_b34 at hf
  have hle := lez_rf h
  exact lez_rt (mX4_spell_R_l36 hm0 hf) hle
set_option maxRecDepth 100000 in
theorem wX4_spell_R_b34 {E : PE} {p : Program} {l : Launch} {e : Env} {s : State} {m : MethodId} {args : Array Value} {below : List Frame} {meth : Method} {c : Code} {X0 V0 MC MS uc us : Nat} {nn : Nat} (X : Cx E p l e (rmv (8 + nn + 1) MC MS) s m args below meth c RX4 cX4_spell 6 (none)) (hG : Gs E l) (hnm : meth.name = yX4_spell.name) {rc0 : (Option Nat → Option Nat → Int32 → PH → Option PH)} (hw0 : ∀ {a0 : Option Nat} {a1 : Option Nat} {a2 : Int32} {h : PH} {r : PH}, rc0 a0 a1 a2 h = some r → Ct E l (8 + nn) ((hX r) - hX h) ((hV r) - hV h) yX4_spell cX4_spell 6 (none) [va_rf a0, va_rf a1, .int a2] h (fun v u => v = none ∧ u = r)) (hm0 : ∀ {a0 : Option Nat} {a1 : Option Nat} {a2 : Int32} {h : PH} {r : PH}, rc0 a0 a1 a2 h = some r → lez h (hX r) (hV r)) {v0 : Option Nat} {v1 : Option Nat} {v2 : Int32} {h : PH} {r : PH} (hM : MC + X0 = (hX r)) (hN : MS + V0 = (hV r)) (hu : uc + X0 = hX h) (hv : us + V0 = hV h) (hf : fX4_spell_R_b34 rc0 v0 v1 v2 h = some r)  : PW E p l e (rmv (8 + nn + 1) MC MS) s m args below meth c 6 uc us (MQ below (QG E (fun v u => v = none ∧ u = r)) args s MC MS (pA E)) h 34 [(0, some (va_rf v0)), (1, some (va_rf v1)), (2, some (.int v2))] [] := by
  have hm1 : lez h (hX r) (hV r) := mX4_spell_R_b34 hm0 hf
  have hcm : uc ≤ MC := (by have o0 := hm1.1; have o1 := hM; have o2 := hu; (try simp only [hX_sI, hX_sR, hX_sL, hX_sD, hX_sIa, hX_sRa, hV_sI, hV_sR, hV_sL, hV_sD, hV_sIa, hV_sRa, hX_new, hV_new] at o0 o1 o2 ⊢); omega)
  have hsm : us ≤ MS := (by have o0 := hm1.2; have o1 := hN; have o2 := hv; (try simp only [hX_sI, hX_sR, hX_sL, hX_sD, hX_sIa, hX_sRa, hV_sI, hV_sR, hV_sL, hV_sD, hV_sIa, hV_sRa, hX_new, hV_new] at o0 o1 o2 ⊢); omega)
  clear hm1
  unfold fX4_spell_R_b34 at hf
  refine p_iconst (v := 0) X (dcg dc_X4_spell 18 rfl) (by decide) ?_
  refine p_istore_n X (dcg dc_X4_spell 19 rfl) rfl (by decide) rfl ?_
  refine p_pick [0, 1, 2, 3] ?_
  exact wX4_spell_R_l36 X hG hnm hw0 hm0 hM hN hu hv hf 
noncomputable def fX4_spell_R_b33 (rc0 : (Option Nat → Option Nat → Int32 → PH → Option PH)) (v0 : Option Nat) (v1 : Option Nat) (v2 : Int32) (t0 : Option Nat) (h : PH) : Option PH :=
  fX4_spell_R_b34 rc0 v0 v1 v2 h
set_option maxRecDepth 100000 in
theorem mX4_spell_R_b33 {rc0 : (Option Nat → Option Nat → Int32 → PH → Option PH)} (hm0 : ∀ {a0 : Option Nat} {a1 : Option Nat} {a2 : Int32} {h : PH} {r : PH}, rc0 a0 a1 a2 h = some r → lez h (hX r) (hV r)) {v0 : Option Nat} {v1 : Option Nat} {v2 : Int32} {t0 : Option Nat} {h : PH} {r : PH} (hf : fX4_spell_R_b33 rc0 v0 v1 v2 t0 h = some r) : lez h (hX r) (hV r) := by
  unfold fX4_spell_R_b33 at hf
  have hle := lez_rf h
  exact lez_rt (mX4_spell_R_b34 hm0 hf) hle
set_option maxRecDepth 100000 in
theorem wX4_spell_R_b33 {E : PE} {p : Program} {l : Launch} {e : Env} {s : State} {m : MethodId} {args : Array Value} {below : List Frame} {meth : Method} {c : Code} {X0 V0 MC MS uc us : Nat} {nn : Nat} (X : Cx E p l e (rmv (8 + nn + 1) MC MS) s m args below meth c RX4 cX4_spell 6 (none)) (hG : Gs E l) (hnm : meth.name = yX4_spell.name) {rc0 : (Option Nat → Option Nat → Int32 → PH → Option PH)} (hw0 : ∀ {a0 : Option Nat} {a1 : Option Nat} {a2 : Int32} {h : PH} {r : PH}, rc0 a0 a1 a2 h = some r → Ct E l (8 + nn) ((hX r) - hX h) ((hV r) - hV h) yX4_spell cX4_spell 6 (none) [va_rf a0, va_rf a1, .int a2] h (fun v u => v = none ∧ u = r)) (hm0 : ∀ {a0 : Option Nat} {a1 : Option Nat} {a2 : Int32} {h : PH} {r : PH}, rc0 a0 a1 a2 h = some r → lez h (hX r) (hV r)) {v0 : Option Nat} {v1 : Option Nat} {v2 : Int32} {t0 : Option Nat} {h : PH} {r : PH} (hM : MC + X0 = (hX r)) (hN : MS + V0 = (hV r)) (hu : uc + X0 = hX h) (hv : us + V0 = hV h) (hf : fX4_spell_R_b33 rc0 v0 v1 v2 t0 h = some r)  : PW E p l e (rmv (8 + nn + 1) MC MS) s m args below meth c 6 uc us (MQ below (QG E (fun v u => v = none ∧ u = r)) args s MC MS (pA E)) h 33 [(0, some (va_rf v0)), (1, some (va_rf v1)), (2, some (.int v2))] [va_rf t0] := by
  have hm1 : lez h (hX r) (hV r) := mX4_spell_R_b33 hm0 hf
  have hcm : uc ≤ MC := (by have o0 := hm1.1; have o1 := hM; have o2 := hu; (try simp only [hX_sI, hX_sR, hX_sL, hX_sD, hX_sIa, hX_sRa, hV_sI, hV_sR, hV_sL, hV_sD, hV_sIa, hV_sRa, hX_new, hV_new] at o0 o1 o2 ⊢); omega)
  have hsm : us ≤ MS := (by have o0 := hm1.2; have o1 := hN; have o2 := hv; (try simp only [hX_sI, hX_sR, hX_sL, hX_sD, hX_sIa, hX_sRa, hV_sI, hV_sR, hV_sL, hV_sD, hV_sIa, hV_sRa, hX_new, hV_new] at o0 o1 o2 ⊢); omega)
  clear hm1
  unfold fX4_spell_R_b33 at hf
  refine p_pop X (dcg dc_X4_spell 17 rfl) (cat_rf _) ?_
  refine p_pick [0, 1, 2] ?_
  exact wX4_spell_R_b34 X hG hnm hw0 hm0 hM hN hu hv hf 
noncomputable def fX4_spell_R_b19 (rc0 : (Option Nat → Option Nat → Int32 → PH → Option PH)) (v0 : Option Nat) (v1 : Option Nat) (v2 : Int32) (h : PH) : Option PH :=
  gs v0 (fun a5 =>
  gd (hK h a5 = 4) (if (¬ (hI h 4 a5 0) = (4 : Int32)) then (fX4_spell_R_b34 rc0 (some a5) v1 v2 h) else
  gs v1 (fun a38 =>
  gd (hK h a38 = 13) (bd (fJ4_append_cf468 a38 (33 : Int32) h) (fun z41 =>
  fX4_spell_R_b33 rc0 (some a5) (some a38) v2 z41.1 z41.2)))))
set_option maxRecDepth 100000 in
theorem mX4_spell_R_b19 {rc0 : (Option Nat → Option Nat → Int32 → PH → Option PH)} (hm0 : ∀ {a0 : Option Nat} {a1 : Option Nat} {a2 : Int32} {h : PH} {r : PH}, rc0 a0 a1 a2 h = some r → lez h (hX r) (hV r)) {v0 : Option Nat} {v1 : Option Nat} {v2 : Int32} {h : PH} {r : PH} (hf : fX4_spell_R_b19 rc0 v0 v1 v2 h = some r) : lez h (hX r) (hV r) := by
  unfold fX4_spell_R_b19 at hf
  have hle := lez_rf h
  obtain ⟨a5, e6, hf⟩ := gs_some hf
  obtain ⟨hk7, hf⟩ := gd_some hf
  rcases ite_or hf with ⟨q, hf⟩ | ⟨q, hf⟩
  · have hf := if_t q hf
    exact lez_rt (mX4_spell_R_b34 hm0 hf) hle
  · have hf := if_f q hf
    obtain ⟨a38, e39, hf⟩ := gs_some hf
    obtain ⟨hk40, hf⟩ := gd_some hf
    obtain ⟨z41, hz41, hf⟩ := bd_some hf
    have hle := lez_rt (mJ4_append_cf468 hz41) hle
    exact lez_rt (mX4_spell_R_b33 hm0 hf) hle
set_option maxRecDepth 100000 in
theorem wX4_spell_R_b19 {E : PE} {p : Program} {l : Launch} {e : Env} {s : State} {m : MethodId} {args : Array Value} {below : List Frame} {meth : Method} {c : Code} {X0 V0 MC MS uc us : Nat} {nn : Nat} (X : Cx E p l e (rmv (8 + nn + 1) MC MS) s m args below meth c RX4 cX4_spell 6 (none)) (hG : Gs E l) (hnm : meth.name = yX4_spell.name) {rc0 : (Option Nat → Option Nat → Int32 → PH → Option PH)} (hw0 : ∀ {a0 : Option Nat} {a1 : Option Nat} {a2 : Int32} {h : PH} {r : PH}, rc0 a0 a1 a2 h = some r → Ct E l (8 + nn) ((hX r) - hX h) ((hV r) - hV h) yX4_spell cX4_spell 6 (none) [va_rf a0, va_rf a1, .int a2] h (fun v u => v = none ∧ u = r)) (hm0 : ∀ {a0 : Option Nat} {a1 : Option Nat} {a2 : Int32} {h : PH} {r : PH}, rc0 a0 a1 a2 h = some r → lez h (hX r) (hV r)) {v0 : Option Nat} {v1 : Option Nat} {v2 : Int32} {h : PH} {r : PH} (hM : MC + X0 = (hX r)) (hN : MS + V0 = (hV r)) (hu : uc + X0 = hX h) (hv : us + V0 = hV h) (hf : fX4_spell_R_b19 rc0 v0 v1 v2 h = some r)  : PW E p l e (rmv (8 + nn + 1) MC MS) s m args below meth c 6 uc us (MQ below (QG E (fun v u => v = none ∧ u = r)) args s MC MS (pA E)) h 19 [(0, some (va_rf v0)), (1, some (va_rf v1)), (2, some (.int v2))] [] := by
  have hm1 : lez h (hX r) (hV r) := mX4_spell_R_b19 hm0 hf
  have hcm : uc ≤ MC := (by have o0 := hm1.1; have o1 := hM; have o2 := hu; (try simp only [hX_sI, hX_sR, hX_sL, hX_sD, hX_sIa, hX_sRa, hV_sI, hV_sR, hV_sL, hV_sD, hV_sIa, hV_sRa, hX_new, hV_new] at o0 o1 o2 ⊢); omega)
  have hsm : us ≤ MS := (by have o0 := hm1.2; have o1 := hN; have o2 := hv; (try simp only [hX_sI, hX_sR, hX_sL, hX_sD, hX_sIa, hX_sRa, hV_sI, hV_sR, hV_sL, hV_sD, hV_sIa, hV_sRa, hX_new, hV_new] at o0 o1 o2 ⊢); omega)
  clear hm1
  unfold fX4_spell_R_b19 at hf
  refine p_aloadq_n X (dcg dc_X4_spell 10 rfl) rfl rfl ?_
  obtain ⟨a5, e6, hf⟩ := gs_some hf
  first | subst e6 | (try rw [e6])
  obtain ⟨hk7, hf⟩ := gd_some hf
  refine p_getI X fl_X4_9 rfl (by decide) (dcg dc_X4_spell 11 rfl) hk7 ?_
  refine p_iconst (v := 4) X (dcg dc_X4_spell 12 rfl) (by decide) ?_
  refine p_icmp_ne (tgt := 34) X (dcg dc_X4_spell 13 rfl) (by decide) (fun q => ?_) (fun q => ?_)
  · have hf := if_t q hf
    refine p_pick [0, 1, 2] ?_
    exact wX4_spell_R_b34 X hG hnm hw0 hm0 hM hN hu hv hf 
  · have hf := if_f q hf
    refine p_aloadq_n X (dcg dc_X4_spell 14 rfl) rfl rfl ?_
    refine p_bipush (v := 33) X (dcg dc_X4_spell 15 rfl) (by decide) ?_
    obtain ⟨a38, e39, hf⟩ := gs_some hf
    first | subst e39 | (try rw [e39])
    obtain ⟨hk40, hf⟩ := gd_some hf
    obtain ⟨z41, hz41, hf⟩ := bd_some hf
    have hc1 := mJ4_append_cf468 hz41
    have hm1 : lez _ (hX r) (hV r) := mX4_spell_R_b33 hm0 hf
    refine p_callV (As := [_]) X ml_X4_103 (dcg dc_X4_spell 16 rfl) rfl rfl hk40 (wJ4_append_cf468 hG hz41) (by omega) (room4 (Nat.le_of_ble_eq_true rfl)) (by have o0 := hm1.1; have o1 := hc1.1; have o2 := hM; have o3 := hu; (try simp only [hX_sI, hX_sR, hX_sL, hX_sD, hX_sIa, hX_sRa, hV_sI, hV_sR, hV_sL, hV_sD, hV_sIa, hV_sRa, hX_new, hV_new] at o0 o1 o2 o3 ⊢); omega) (by have o0 := hm1.2; have o1 := hc1.2; have o2 := hN; have o3 := hv; (try simp only [hX_sI, hX_sR, hX_sL, hX_sD, hX_sIa, hX_sRa, hV_sI, hV_sR, hV_sL, hV_sD, hV_sIa, hV_sRa, hX_new, hV_new] at o0 o1 o2 o3 ⊢); omega) ?_
    rintro _ u9 ⟨rfl, e9⟩; have e9 := e9.symm; subst e9
    refine p_pick [0, 1, 2] ?_
    exact wX4_spell_R_b33 X hG hnm hw0 hm0 hM hN (by have o0 := hc1.1; have o1 := hu; (try simp only [hX_sI, hX_sR, hX_sL, hX_sD, hX_sIa, hX_sRa, hV_sI, hV_sR, hV_sL, hV_sD, hV_sIa, hV_sRa, hX_new, hV_new] at o0 o1 ⊢); omega) (by have o0 := hc1.2; have o1 := hv; (try simp only [hX_sI, hX_sR, hX_sL, hX_sD, hX_sIa, hX_sRa, hV_sI, hV_sR, hV_sL, hV_sD, hV_sIa, hV_sRa, hX_new, hV_new] at o0 o1 ⊢); omega) hf 
noncomputable def fX4_spell_R_b0 (rc0 : (Option Nat → Option Nat → Int32 → PH → Option PH)) (v0 : Option Nat) (v1 : Option Nat) (v2 : Int32) (h : PH) : Option PH :=
  if (v2 ≤ (40 : Int32)) then (gs v0 (fun a1 =>
  gd (hK h a1 = 4) (bd (fX4_isSimple a1 h) (fun z4 =>
  if (z4 = 0) then (fX4_spell_R_b19 rc0 (some a1) v1 v2 h) else
  bd (fX4_spellSimple a1 v1 h) (fun z42 =>
  fX4_spell_R_b19 rc0 (some a1) v1 v2 z42))))) else
  some (h)
set_option maxRecDepth 100000 in
theorem mX4_spell_R_b0 {rc0 : (Option Nat → Option Nat → Int32 → PH → Option PH)} (hm0 : ∀ {a0 : Option Nat} {a1 : Option Nat} {a2 : Int32} {h : PH} {r : PH}, rc0 a0 a1 a2 h = some r → lez h (hX r) (hV r)) {v0 : Option Nat} {v1 : Option Nat} {v2 : Int32} {h : PH} {r : PH} (hf : fX4_spell_R_b0 rc0 v0 v1 v2 h = some r) : lez h (hX r) (hV r) := by
  unfold fX4_spell_R_b0 at hf
  have hle := lez_rf h
  rcases ite_or hf with ⟨q, hf⟩ | ⟨q, hf⟩
  · have hf := if_t q hf
    obtain ⟨a1, e2, hf⟩ := gs_some hf
    obtain ⟨hk3, hf⟩ := gd_some hf
    obtain ⟨z4, hz4, hf⟩ := bd_some hf
    rcases ite_or hf with ⟨q, hf⟩ | ⟨q, hf⟩
    · have hf := if_t q hf
      exact lez_rt (mX4_spell_R_b19 hm0 hf) hle
    · have hf := if_f q hf
      obtain ⟨z42, hz42, hf⟩ := bd_some hf
      have hle := lez_rt (mX4_spellSimple hz42) hle
      exact lez_rt (mX4_spell_R_b19 hm0 hf) hle
  · have hf := if_f q hf
    have ee := Option.some.inj hf; subst ee; exact hle
set_option maxRecDepth 100000 in
theorem wX4_spell_R_b0 {E : PE} {p : Program} {l : Launch} {e : Env} {s : State} {m : MethodId} {args : Array Value} {below : List Frame} {meth : Method} {c : Code} {X0 V0 MC MS uc us : Nat} {nn : Nat} (X : Cx E p l e (rmv (8 + nn + 1) MC MS) s m args below meth c RX4 cX4_spell 6 (none)) (hG : Gs E l) (hnm : meth.name = yX4_spell.name) {rc0 : (Option Nat → Option Nat → Int32 → PH → Option PH)} (hw0 : ∀ {a0 : Option Nat} {a1 : Option Nat} {a2 : Int32} {h : PH} {r : PH}, rc0 a0 a1 a2 h = some r → Ct E l (8 + nn) ((hX r) - hX h) ((hV r) - hV h) yX4_spell cX4_spell 6 (none) [va_rf a0, va_rf a1, .int a2] h (fun v u => v = none ∧ u = r)) (hm0 : ∀ {a0 : Option Nat} {a1 : Option Nat} {a2 : Int32} {h : PH} {r : PH}, rc0 a0 a1 a2 h = some r → lez h (hX r) (hV r)) {v0 : Option Nat} {v1 : Option Nat} {v2 : Int32} {h : PH} {r : PH} (hM : MC + X0 = (hX r)) (hN : MS + V0 = (hV r)) (hu : uc + X0 = hX h) (hv : us + V0 = hV h) (hf : fX4_spell_R_b0 rc0 v0 v1 v2 h = some r)  : PW E p l e (rmv (8 + nn + 1) MC MS) s m args below meth c 6 uc us (MQ below (QG E (fun v u => v = none ∧ u = r)) args s MC MS (pA E)) h 0 [(0, some (va_rf v0)), (1, some (va_rf v1)), (2, some (.int v2))] [] := by
  have hm1 : lez h (hX r) (hV r) := mX4_spell_R_b0 hm0 hf
  have hcm : uc ≤ MC := (by have o0 := hm1.1; have o1 := hM; have o2 := hu; (try simp only [hX_sI, hX_sR, hX_sL, hX_sD, hX_sIa, hX_sRa, hV_sI, hV_sR, hV_sL, hV_sD, hV_sIa, hV_sRa, hX_new, hV_new] at o0 o1 o2 ⊢); omega)
  have hsm : us ≤ MS := (by have o0 := hm1.2; have o1 := hN; have o2 := hv; (try simp only [hX_sI, hX_sR, hX_sL, hX_sD, hX_sIa, hX_sRa, hV_sI, hV_sR, hV_sL, hV_sD, hV_sIa, hV_sRa, hX_new, hV_new] at o0 o1 o2 ⊢); omega)
  clear hm1
  unfold fX4_spell_R_b0 at hf
  refine p_iload_n X (dcg dc_X4_spell 0 rfl) rfl rfl ?_
  refine p_bipush (v := 40) X (dcg dc_X4_spell 1 rfl) (by decide) ?_
  refine p_icmp_le (tgt := 7) X (dcg dc_X4_spell 2 rfl) (by decide) (fun q => ?_) (fun q => ?_)
  · have hf := if_t q hf
    refine p_aloadq_n X (dcg dc_X4_spell 4 rfl) rfl rfl ?_
    obtain ⟨a1, e2, hf⟩ := gs_some hf
    first | subst e2 | (try rw [e2])
    obtain ⟨hk3, hf⟩ := gd_some hf
    obtain ⟨z4, hz4, hf⟩ := bd_some hf
    refine p_callV (As := []) X ml_X4_63 (dcg dc_X4_spell 5 rfl) rfl rfl hk3 (wX4_isSimple hG hz4) (by omega) (room4 (Nat.le_of_ble_eq_true rfl)) hcm hsm ?_
    rintro _ u9 ⟨rfl, e9⟩; have e9 := e9.symm; subst e9
    refine p_if_eq (tgt := 19) X (dcg dc_X4_spell 6 rfl) (by decide) (fun q => ?_) (fun q => ?_)
    · have hf := if_t q hf
      refine p_pick [0, 1, 2] ?_
      exact wX4_spell_R_b19 X hG hnm hw0 hm0 hM hN hu hv hf 
    · have hf := if_f q hf
      refine p_aload_n X (dcg dc_X4_spell 7 rfl) rfl rfl ?_
      refine p_aloadq_n X (dcg dc_X4_spell 8 rfl) rfl rfl ?_
      obtain ⟨z42, hz42, hf⟩ := bd_some hf
      have hc1 := mX4_spellSimple hz42
      have hm1 : lez _ (hX r) (hV r) := mX4_spell_R_b19 hm0 hf
      refine p_callV (As := [va_rf _]) X ml_X4_99 (dcg dc_X4_spell 9 rfl) rfl rfl hk3 (wX4_spellSimple hG hz42) (by omega) (room4 (Nat.le_of_ble_eq_true rfl)) (by have o0 := hm1.1; have o1 := hc1.1; have o2 := hM; have o3 := hu; (try simp only [hX_sI, hX_sR, hX_sL, hX_sD, hX_sIa, hX_sRa, hV_sI, hV_sR, hV_sL, hV_sD, hV_sIa, hV_sRa, hX_new, hV_new] at o0 o1 o2 o3 ⊢); omega) (by have o0 := hm1.2; have o1 := hc1.2; have o2 := hN; have o3 := hv; (try simp only [hX_sI, hX_sR, hX_sL, hX_sD, hX_sIa, hX_sRa, hV_sI, hV_sR, hV_sL, hV_sD, hV_sIa, hV_sRa, hX_new, hV_new] at o0 o1 o2 o3 ⊢); omega) ?_
      rintro _ u9 ⟨rfl, e9⟩; have e9 := e9.symm; subst e9
      refine p_pick [0, 1, 2] ?_
      exact wX4_spell_R_b19 X hG hnm hw0 hm0 hM hN (by have o0 := hc1.1; have o1 := hu; (try simp only [hX_sI, hX_sR, hX_sL, hX_sD, hX_sIa, hX_sRa, hV_sI, hV_sR, hV_sL, hV_sD, hV_sIa, hV_sRa, hX_new, hV_new] at o0 o1 ⊢); omega) (by have o0 := hc1.2; have o1 := hv; (try simp only [hX_sI, hX_sR, hX_sL, hX_sD, hX_sIa, hX_sRa, hV_sI, hV_sR, hV_sL, hV_sD, hV_sIa, hV_sRa, hX_new, hV_new] at o0 o1 ⊢); omega) hf 
  · have hf := if_f q hf
    have er := Option.some.inj hf
    subst er
    exact p_vret X rfl (dcg dc_X4_spell 3 rfl) ⟨rfl, rfl⟩ hcm hsm
noncomputable def fX4_spell_R (rc0 : (Option Nat → Option Nat → Int32 → PH → Option PH)) (v0 : Option Nat) (v1 : Option Nat) (v2 : Int32) (h : PH) : Option PH :=
  fX4_spell_R_b0 rc0 v0 v1 v2 h
set_option maxRecDepth 100000 in
theorem mX4_spell_R {rc0 : (Option Nat → Option Nat → Int32 → PH → Option PH)} (hm0 : ∀ {a0 : Option Nat} {a1 : Option Nat} {a2 : Int32} {h : PH} {r : PH}, rc0 a0 a1 a2 h = some r → lez h (hX r) (hV r)) {v0 : Option Nat} {v1 : Option Nat} {v2 : Int32} {h : PH} {r : PH} (hf : fX4_spell_R rc0 v0 v1 v2 h = some r) : lez h (hX r) (hV r) := by
  unfold fX4_spell_R at hf
  have hle := lez_rf h
  exact lez_rt (mX4_spell_R_b0 hm0 hf) hle
set_option maxRecDepth 100000 in
theorem wX4_spell_R {E : PE} {l : Launch} (hG : Gs E l) {nn : Nat} {rc0 : (Option Nat → Option Nat → Int32 → PH → Option PH)} (hw0 : ∀ {a0 : Option Nat} {a1 : Option Nat} {a2 : Int32} {h : PH} {r : PH}, rc0 a0 a1 a2 h = some r → Ct E l (8 + nn) ((hX r) - hX h) ((hV r) - hV h) yX4_spell cX4_spell 6 (none) [va_rf a0, va_rf a1, .int a2] h (fun v u => v = none ∧ u = r)) (hm0 : ∀ {a0 : Option Nat} {a1 : Option Nat} {a2 : Int32} {h : PH} {r : PH}, rc0 a0 a1 a2 h = some r → lez h (hX r) (hV r)) {v0 : Option Nat} {v1 : Option Nat} {v2 : Int32} {h : PH} {r : PH} (hf : fX4_spell_R rc0 v0 v1 v2 h = some r) : Ct E l (8 + nn + 1) ((hX r) - hX h) ((hV r) - hV h) yX4_spell cX4_spell 6 (none) [va_rf v0, va_rf v1, .int v2] h (fun v u => v = none ∧ u = r) := by
  have hmm := mX4_spell_R hm0 hf
  refine ct_of hG (by decide) (by simp [lg_sl, cat_rf, cat_r, cat_i, cat_l, cat_d, cat_f]) ?_
  intro p e s m args below meth c X hnm
  rw [show pargs 0 [va_rf v0, va_rf v1, .int v2] = [(0, some (va_rf v0)), (1, some (va_rf v1)), (2, some (.int v2))] from by simp [pargs, cat_rf, cat_r, cat_i, cat_l, cat_d, cat_f]]
  unfold fX4_spell_R at hf
  have hM := Nat.sub_add_cancel hmm.1
  have hN := Nat.sub_add_cancel hmm.2
  refine p_pick [0, 1, 2] ?_
  exact wX4_spell_R_b0 X hG hnm hw0 hm0 hM hN (Nat.zero_add _) (Nat.zero_add _) hf
noncomputable def g_X4_spell : Nat → (Option Nat → Option Nat → Int32 → PH → Option PH)
  | 0 => (fun a0 a1 a2 h => none)
  | n + 1 => (fun a0 a1 a2 h => fX4_spell_R (g_X4_spell n) a0 a1 a2 h)
theorem gm_X4_spell : ∀ n : Nat, ∀ {a0 : Option Nat} {a1 : Option Nat} {a2 : Int32} {h : PH} {r : PH}, (g_X4_spell n) a0 a1 a2 h = some r → lez h (hX r) (hV r) := by
  intro n
  induction n with
  | zero => exact (fun hf => nomatch (show (none : Option PH) = some _ from hf))
  | succ n ih => exact (fun {a0 a1 a2 h r} hf => mX4_spell_R (ih) (show fX4_spell_R (g_X4_spell n) a0 a1 a2 h = some r from hf))
theorem gw_X4_spell {E : PE} {l : Launch} (hG : Gs E l) : ∀ n : Nat, ∀ {a0 : Option Nat} {a1 : Option Nat} {a2 : Int32} {h : PH} {r : PH}, (g_X4_spell n) a0 a1 a2 h = some r → Ct E l (8 + n) ((hX r) - hX h) ((hV r) - hV h) yX4_spell cX4_spell 6 (none) [va_rf a0, va_rf a1, .int a2] h (fun v u => v = none ∧ u = r) := by
  intro n
  induction n with
  | zero => exact (fun hf => nomatch (show (none : Option PH) = some _ from hf))
  | succ n ih => exact (fun {a0 a1 a2 h r} hf => wX4_spell_R (nn := n) hG (ih) (gm_X4_spell n) (show fX4_spell_R (g_X4_spell n) a0 a1 a2 h = some r from hf))
noncomputable def fX4_spell (a0 : Option Nat) (a1 : Option Nat) (a2 : Int32) (h : PH) : Option PH := (g_X4_spell 44) a0 a1 a2 h
theorem mX4_spell {a0 : Option Nat} {a1 : Option Nat} {a2 : Int32} {h : PH} {r : PH} (hf : fX4_spell a0 a1 a2 h = some r) : lez h (hX r) (hV r) := (gm_X4_spell 44) hf
theorem wX4_spell {E : PE} {l : Launch} (hG : Gs E l) {a0 : Option Nat} {a1 : Option Nat} {a2 : Int32} {h : PH} {r : PH} (hf : fX4_spell a0 a1 a2 h = some r) : Ct E l 52 ((hX r) - hX h) ((hV r) - hV h) yX4_spell cX4_spell 6 (none) [va_rf a0, va_rf a1, .int a2] h (fun v u => v = none ∧ u = r) := (gw_X4_spell hG 44) hf
theorem dc_X5_init : decs cX5_init [(0, .aload_n 0, 1), (1, .invokespecial 1, 3), (4, .aload_n 0, 1), (5, .bipush 20, 2), (7, .newarray .int, 2), (9, .putfield 9, 3), (12, .aload_n 0, 1), (13, .bipush 20, 2), (15, .anewarray 13, 3), (18, .putfield 15, 3), (21, .return_, 1)] = true := by decide +kernel
noncomputable def fX5_init_b18 (t0 : Nat) (t1 : Nat) (h : PH) : Option PH :=
  gd (hK h t0 = 5) (lt (sR h 5 t0 1 (some t1)) (fun h6 =>
  some (h6)))
set_option maxRecDepth 100000 in
theorem mX5_init_b18 {t0 : Nat} {t1 : Nat} {h : PH} {r : PH} (hf : fX5_init_b18 t0 t1 h = some r) : lez h (hX r) (hV r) := by
  unfold fX5_init_b18 at hf
  have hle := lez_rf h
  obtain ⟨hk5, hf⟩ := gd_some hf
  obtain ⟨h6, rfl, hf⟩ := lt_some hf
  have ee := Option.some.inj hf; subst ee; exact hle
set_option maxRecDepth 100000 in
theorem wX5_init_b18 {E : PE} {p : Program} {l : Launch} {e : Env} {s : State} {m : MethodId} {args : Array Value} {below : List Frame} {meth : Method} {c : Code} {X0 V0 MC MS uc us : Nat} (X : Cx E p l e (rmv 1 MC MS) s m args below meth c RX5 cX5_init 1 (none)) (hG : Gs E l) (hnm : meth.name = yX5_init.name) {t0 : Nat} {t1 : Nat} {h : PH} {r : PH} (hM : MC + X0 = (hX r)) (hN : MS + V0 = (hV r)) (hu : uc + X0 = hX h) (hv : us + V0 = hV h) (hf : fX5_init_b18 t0 t1 h = some r)  : PW E p l e (rmv 1 MC MS) s m args below meth c 1 uc us (MQ below (QG E (fun v u => v = none ∧ u = r)) args s MC MS (pA E)) h 18 [] [.ref t1, .ref t0] := by
  have hm1 : lez h (hX r) (hV r) := mX5_init_b18 hf
  have hcm : uc ≤ MC := (by have o0 := hm1.1; have o1 := hM; have o2 := hu; (try simp only [hX_sI, hX_sR, hX_sL, hX_sD, hX_sIa, hX_sRa, hV_sI, hV_sR, hV_sL, hV_sD, hV_sIa, hV_sRa, hX_new, hV_new] at o0 o1 o2 ⊢); omega)
  have hsm : us ≤ MS := (by have o0 := hm1.2; have o1 := hN; have o2 := hv; (try simp only [hX_sI, hX_sR, hX_sL, hX_sD, hX_sIa, hX_sRa, hV_sI, hV_sR, hV_sL, hV_sD, hV_sIa, hV_sRa, hX_new, hV_new] at o0 o1 o2 ⊢); omega)
  clear hm1
  unfold fX5_init_b18 at hf
  obtain ⟨hk5, hf⟩ := gd_some hf
  refine p_putRf (v := some _) X fl_X5_15 rfl (by decide) (fun q hq => by cases hq; exact ⟨rfl, rfl⟩) hnm (nar_rf _ (by decide)) (fit_rf _ (by decide)) (dcg dc_X5_init 9 rfl) hk5 ?_
  obtain ⟨h6, rfl, hf⟩ := lt_some hf
  have er := Option.some.inj hf
  subst er
  exact p_vret X rfl (dcg dc_X5_init 10 rfl) ⟨rfl, rfl⟩ hcm hsm
noncomputable def fX5_init_b9 (v0 : Nat) (t0 : Nat) (t1 : Nat) (h : PH) : Option PH :=
  gd (hK h t0 = 5) (lt (sR h 5 t0 0 (some t1)) (fun h3 =>
  gd (¬ (20 : Int32) < 0 ∧ (Int32.toNatClampNeg (20 : Int32)) ≤ 1000000) (fX5_init_b18 v0 (hX h3) (hnew h3 26 (Int32.toNatClampNeg (20 : Int32))))))
set_option maxRecDepth 100000 in
theorem mX5_init_b9 {v0 : Nat} {t0 : Nat} {t1 : Nat} {h : PH} {r : PH} (hf : fX5_init_b9 v0 t0 t1 h = some r) : lez h (hX r) (hV r) := by
  unfold fX5_init_b9 at hf
  have hle := lez_rf h
  obtain ⟨hk2, hf⟩ := gd_some hf
  obtain ⟨h3, rfl, hf⟩ := lt_some hf
  obtain ⟨hg4, hf⟩ := gd_some hf
  have hle := lez_nw (c := 26) (n := (Int32.toNatClampNeg (20 : Int32))) hle
  exact lez_rt (mX5_init_b18 hf) hle
set_option maxRecDepth 100000 in
theorem wX5_init_b9 {E : PE} {p : Program} {l : Launch} {e : Env} {s : State} {m : MethodId} {args : Array Value} {below : List Frame} {meth : Method} {c : Code} {X0 V0 MC MS uc us : Nat} (X : Cx E p l e (rmv 1 MC MS) s m args below meth c RX5 cX5_init 1 (none)) (hG : Gs E l) (hnm : meth.name = yX5_init.name) {v0 : Nat} {t0 : Nat} {t1 : Nat} {h : PH} {r : PH} (hM : MC + X0 = (hX r)) (hN : MS + V0 = (hV r)) (hu : uc + X0 = hX h) (hv : us + V0 = hV h) (hf : fX5_init_b9 v0 t0 t1 h = some r)  : PW E p l e (rmv 1 MC MS) s m args below meth c 1 uc us (MQ below (QG E (fun v u => v = none ∧ u = r)) args s MC MS (pA E)) h 9 [(0, some (.ref v0))] [.ref t1, .ref t0] := by
  have hm1 : lez h (hX r) (hV r) := mX5_init_b9 hf
  have hcm : uc ≤ MC := (by have o0 := hm1.1; have o1 := hM; have o2 := hu; (try simp only [hX_sI, hX_sR, hX_sL, hX_sD, hX_sIa, hX_sRa, hV_sI, hV_sR, hV_sL, hV_sD, hV_sIa, hV_sRa, hX_new, hV_new] at o0 o1 o2 ⊢); omega)
  have hsm : us ≤ MS := (by have o0 := hm1.2; have o1 := hN; have o2 := hv; (try simp only [hX_sI, hX_sR, hX_sL, hX_sD, hX_sIa, hX_sRa, hV_sI, hV_sR, hV_sL, hV_sD, hV_sIa, hV_sRa, hX_new, hV_new] at o0 o1 o2 ⊢); omega)
  clear hm1
  unfold fX5_init_b9 at hf
  obtain ⟨hk2, hf⟩ := gd_some hf
  refine p_putRf (v := some _) X fl_X5_9 rfl (by decide) (fun q hq => by cases hq; exact ⟨rfl, rfl⟩) hnm (nar_rf _ (by decide)) (fit_rf _ (by decide)) (dcg dc_X5_init 5 rfl) hk2 ?_
  obtain ⟨h3, rfl, hf⟩ := lt_some hf
  refine p_aload_n X (dcg dc_X5_init 6 rfl) rfl rfl ?_
  refine p_bipush (v := 20) X (dcg dc_X5_init 7 rfl) (by decide) ?_
  obtain ⟨hg4, hf⟩ := gd_some hf
  have hm1 : lez _ (hX r) (hV r) := mX5_init_b18 hf
  have hm2 := lez_new hm1
  refine p_newq26 X tw_247 tl_201 (dcg dc_X5_init 8 rfl) hg4.1 hg4.2 (show uc + 1 ≤ MC from (by have o0 := hm2.1; have o1 := hM; have o2 := hu; (try simp only [hX_sI, hX_sR, hX_sL, hX_sD, hX_sIa, hX_sRa, hV_sI, hV_sR, hV_sL, hV_sD, hV_sIa, hV_sRa, hX_new, hV_new] at o0 o1 o2 ⊢); omega)) (show us + (Int32.toNatClampNeg (20 : Int32)) ≤ MS from (by have o0 := hm2.2; have o1 := hN; have o2 := hv; (try simp only [hX_sI, hX_sR, hX_sL, hX_sD, hX_sIa, hX_sRa, hV_sI, hV_sR, hV_sL, hV_sD, hV_sIa, hV_sRa, hX_new, hV_new] at o0 o1 o2 ⊢); omega)) ?_
  refine p_pick [] ?_
  exact wX5_init_b18 X hG hnm hM hN (by have o0 := hu; (try simp only [hX_sI, hX_sR, hX_sL, hX_sD, hX_sIa, hX_sRa, hV_sI, hV_sR, hV_sL, hV_sD, hV_sIa, hV_sRa, hX_new, hV_new] at o0 ⊢); omega) (by have o0 := hv; (try simp only [hX_sI, hX_sR, hX_sL, hX_sD, hX_sIa, hX_sRa, hV_sI, hV_sR, hV_sL, hV_sD, hV_sIa, hV_sRa, hX_new, hV_new] at o0 ⊢); omega) hf 
noncomputable def fX5_init_b0 (v0 : Nat) (h : PH) : Option PH :=
  gd (¬ (20 : Int32) < 0 ∧ (Int32.toNatClampNeg (20 : Int32)) ≤ 1000000) (fX5_init_b9 v0 v0 (hX h) (hnew h 20 (Int32.toNatClampNeg (20 : Int32))))
set_option maxRecDepth 100000 in
theorem mX5_init_b0 {v0 : Nat} {h : PH} {r : PH} (hf : fX5_init_b0 v0 h = some r) : lez h (hX r) (hV r) := by
  unfold fX5_init_b0 at hf
  have hle := lez_rf h
  obtain ⟨hg1, hf⟩ := gd_some hf
  have hle := lez_nw (c := 20) (n := (Int32.toNatClampNeg (20 : Int32))) hle
  exact lez_rt (mX5_init_b9 hf) hle
set_option maxRecDepth 100000 in
theorem wX5_init_b0 {E : PE} {p : Program} {l : Launch} {e : Env} {s : State} {m : MethodId} {args : Array Value} {below : List Frame} {meth : Method} {c : Code} {X0 V0 MC MS uc us : Nat} (X : Cx E p l e (rmv 1 MC MS) s m args below meth c RX5 cX5_init 1 (none)) (hG : Gs E l) (hnm : meth.name = yX5_init.name) {v0 : Nat} {h : PH} {r : PH} (hM : MC + X0 = (hX r)) (hN : MS + V0 = (hV r)) (hu : uc + X0 = hX h) (hv : us + V0 = hV h) (hf : fX5_init_b0 v0 h = some r)  : PW E p l e (rmv 1 MC MS) s m args below meth c 1 uc us (MQ below (QG E (fun v u => v = none ∧ u = r)) args s MC MS (pA E)) h 0 [(0, some (.ref v0))] [] := by
  have hm1 : lez h (hX r) (hV r) := mX5_init_b0 hf
  have hcm : uc ≤ MC := (by have o0 := hm1.1; have o1 := hM; have o2 := hu; (try simp only [hX_sI, hX_sR, hX_sL, hX_sD, hX_sIa, hX_sRa, hV_sI, hV_sR, hV_sL, hV_sD, hV_sIa, hV_sRa, hX_new, hV_new] at o0 o1 o2 ⊢); omega)
  have hsm : us ≤ MS := (by have o0 := hm1.2; have o1 := hN; have o2 := hv; (try simp only [hX_sI, hX_sR, hX_sL, hX_sD, hX_sIa, hX_sRa, hV_sI, hV_sR, hV_sL, hV_sD, hV_sIa, hV_sRa, hX_new, hV_new] at o0 o1 o2 ⊢); omega)
  clear hm1
  unfold fX5_init_b0 at hf
  refine p_aload_n X (dcg dc_X5_init 0 rfl) rfl rfl ?_
  refine p_objinit X tw_246 tw_146 tw_147 (dcg dc_X5_init 1 rfl) (Nat.le_of_ble_eq_true rfl) (Nat.le_trans (Nat.add_le_add_right (room4 (Nat.le_of_ble_eq_true rfl)) 12) (Nat.le_of_ble_eq_true rfl)) (fun ls hl => hl.1.trans X.2.2.1.symm) ?_
  refine p_aload_n X (dcg dc_X5_init 2 rfl) rfl rfl ?_
  refine p_bipush (v := 20) X (dcg dc_X5_init 3 rfl) (by decide) ?_
  obtain ⟨hg1, hf⟩ := gd_some hf
  have hm1 : lez _ (hX r) (hV r) := mX5_init_b9 hf
  have hm2 := lez_new hm1
  refine p_newa20 X tw_168 (dcg dc_X5_init 4 rfl) hg1.1 hg1.2 (show uc + 1 ≤ MC from (by have o0 := hm2.1; have o1 := hM; have o2 := hu; (try simp only [hX_sI, hX_sR, hX_sL, hX_sD, hX_sIa, hX_sRa, hV_sI, hV_sR, hV_sL, hV_sD, hV_sIa, hV_sRa, hX_new, hV_new] at o0 o1 o2 ⊢); omega)) (show us + (Int32.toNatClampNeg (20 : Int32)) ≤ MS from (by have o0 := hm2.2; have o1 := hN; have o2 := hv; (try simp only [hX_sI, hX_sR, hX_sL, hX_sD, hX_sIa, hX_sRa, hV_sI, hV_sR, hV_sL, hV_sD, hV_sIa, hV_sRa, hX_new, hV_new] at o0 o1 o2 ⊢); omega)) ?_
  refine p_pick [0] ?_
  exact wX5_init_b9 X hG hnm hM hN (by have o0 := hu; (try simp only [hX_sI, hX_sR, hX_sL, hX_sD, hX_sIa, hX_sRa, hV_sI, hV_sR, hV_sL, hV_sD, hV_sIa, hV_sRa, hX_new, hV_new] at o0 ⊢); omega) (by have o0 := hv; (try simp only [hX_sI, hX_sR, hX_sL, hX_sD, hX_sIa, hX_sRa, hV_sI, hV_sR, hV_sL, hV_sD, hV_sIa, hV_sRa, hX_new, hV_new] at o0 ⊢); omega) hf 
noncomputable def fX5_init (v0 : Nat) (h : PH) : Option PH :=
  fX5_init_b0 v0 h
set_option maxRecDepth 100000 in
theorem mX5_init {v0 : Nat} {h : PH} {r : PH} (hf : fX5_init v0 h = some r) : lez h (hX r) (hV r) := by
  unfold fX5_init at hf
  have hle := lez_rf h
  exact lez_rt (mX5_init_b0 hf) hle
set_option maxRecDepth 100000 in
theorem wX5_init {E : PE} {l : Launch} (hG : Gs E l) {v0 : Nat} {h : PH} {r : PH} (hf : fX5_init v0 h = some r) : Ct E l 1 ((hX r) - hX h) ((hV r) - hV h) yX5_init cX5_init 1 (none) [.ref v0] h (fun v u => v = none ∧ u = r) := by
  have hmm := mX5_init hf
  refine ct_of hG (by decide) (Nat.le_of_ble_eq_true rfl) ?_
  intro p e s m args below meth c X hnm
  show PW E p l e _ s m args below meth c _ 0 0 _ h 0 [(0, some (.ref v0))] []
  unfold fX5_init at hf
  have hM := Nat.sub_add_cancel hmm.1
  have hN := Nat.sub_add_cancel hmm.2
  refine p_pick [0] ?_
  exact wX5_init_b0 X hG hnm hM hN (Nat.zero_add _) (Nat.zero_add _) hf
theorem dc_X5_latestSlot : decs cX5_latestSlot [(0, .aload_n 0, 1), (1, .getfield 23, 3), (4, .aload_n 0, 1), (5, .getfield 19, 3), (8, .iconst 1, 1), (9, .invokestatic 30, 3), (12, .iadd, 1), (13, .iconst 1, 1), (14, .isub, 1), (15, .bipush 20, 2), (17, .irem, 1), (18, .ireturn, 1)] = true := by decide +kernel
noncomputable def fX5_latestSlot (v0 : Nat) (h : PH) : Option Int32 :=
  gd (hK h v0 = 5) (some (((((hI h 5 v0 2) + (if (hI h 5 v0 3) < (1 : Int32) then (1 : Int32) else (hI h 5 v0 3))) - (1 : Int32)) - (((hI h 5 v0 2) + (if (hI h 5 v0 3) < (1 : Int32) then (1 : Int32) else (hI h 5 v0 3))) - (1 : Int32)) / (20 : Int32) * (20 : Int32))))
set_option maxRecDepth 100000 in
theorem wX5_latestSlot {E : PE} {l : Launch} (hG : Gs E l) {v0 : Nat} {h : PH} {r : Int32} (hf : fX5_latestSlot v0 h = some r) : Ct E l 1 0 0 yX5_latestSlot cX5_latestSlot 1 (some .int) [.ref v0] h (fun v u => v = some (.int r) ∧ u = h) := by
  refine ct_of hG (by decide) (Nat.le_of_ble_eq_true rfl) ?_
  intro p e s m args below meth c X hnm
  show PW E p l e _ s m args below meth c _ 0 0 _ h 0 [(0, some (.ref v0))] []
  unfold fX5_latestSlot at hf
  refine p_aload_n X (dcg dc_X5_latestSlot 0 rfl) rfl rfl ?_
  obtain ⟨hk1, hf⟩ := gd_some hf
  refine p_getI X fl_X5_23 rfl (by decide) (dcg dc_X5_latestSlot 1 rfl) hk1 ?_
  refine p_aload_n X (dcg dc_X5_latestSlot 2 rfl) rfl rfl ?_
  refine p_getI X fl_X5_19 rfl (by decide) (dcg dc_X5_latestSlot 3 rfl) hk1 ?_
  refine p_iconst (v := 1) X (dcg dc_X5_latestSlot 4 rfl) (by decide) ?_
  refine p_mmax X tw_444 tw_445 tw_123 tw_446 (dcg dc_X5_latestSlot 5 rfl) (Nat.le_of_ble_eq_true rfl) (Nat.le_trans (Nat.add_le_add_right (room4 (Nat.le_of_ble_eq_true rfl)) 13) (Nat.le_of_ble_eq_true rfl)) (Nat.le_refl _) (Nat.le_refl _) (fun ls hl => X.2.2.1.trans hl.1.symm) ?_
  refine p_iadd X (dcg dc_X5_latestSlot 6 rfl) ?_
  refine p_iconst (v := 1) X (dcg dc_X5_latestSlot 7 rfl) (by decide) ?_
  refine p_isub X (dcg dc_X5_latestSlot 8 rfl) ?_
  refine p_bipush (v := 20) X (dcg dc_X5_latestSlot 9 rfl) (by decide) ?_
  refine p_irem X (dcg dc_X5_latestSlot 10 rfl) (by decide) ?_
  have er := Option.some.inj hf
  subst er
  exact p_iret X rfl (dcg dc_X5_latestSlot 11 rfl) ⟨rfl, rfl⟩ (Nat.le_refl _) (Nat.le_refl _)
theorem dc_X5_remember : decs cX5_remember [(0, .aload_n 0, 1), (1, .getfield 19, 3), (4, .bipush 20, 2), (6, .if_icmp .ne 26, 3), (9, .aload_n 0, 1), (10, .aload_n 0, 1), (11, .getfield 23, 3), (14, .iconst 1, 1), (15, .iadd, 1), (16, .bipush 20, 2), (18, .irem, 1), (19, .putfield 23, 3), (22, .aload_n 0, 1), (23, .dup, 1), (24, .getfield 19, 3), (27, .iconst 1, 1), (28, .isub, 1), (29, .putfield 19, 3), (32, .aload_n 0, 1), (33, .dup, 1), (34, .getfield 19, 3), (37, .iconst 1, 1), (38, .iadd, 1), (39, .putfield 19, 3), (42, .aload_n 0, 1), (43, .getfield 9, 3), (46, .aload_n 0, 1), (47, .invokevirtual 26, 3), (50, .iload_n 1, 1), (51, .iastore, 1), (52, .aload_n 0, 1), (53, .getfield 15, 3), (56, .aload_n 0, 1), (57, .invokevirtual 26, 3), (60, .aload_n 2, 1), (61, .aastore, 1), (62, .return_, 1)] = true := by decide +kernel
noncomputable def fX5_remember_b32 (v0 : Nat) (v1 : Int32) (v2 : Option Nat) (h : PH) : Option PH :=
  gd (hK h v0 = 5) (lt (sI h 5 v0 3 ((hI h 5 v0 3) + (1 : Int32))) (fun h3 =>
  bd (fX5_latestSlot v0 h3) (fun z4 =>
  gs (hR h3 5 v0 0) (fun a5 =>
  gd (hK h3 a5 = 20 ∧ inb z4 (hN h3 a5)) (lt (sI h3 20 a5 (Int32.toNatClampNeg z4) v1) (fun h9 =>
  bd (fX5_latestSlot v0 h9) (fun z10 =>
  gs (hR h9 5 v0 1) (fun a11 =>
  gd (hK h9 a11 = 26 ∧ inb z10 (hN h9 a11)) (gd (okq h9 8 v2 = true) (lt (sR h9 26 a11 (Int32.toNatClampNeg z10) v2) (fun h15 =>
  some (h15))))))))))))
set_option maxRecDepth 100000 in
theorem mX5_remember_b32 {v0 : Nat} {v1 : Int32} {v2 : Option Nat} {h : PH} {r : PH} (hf : fX5_remember_b32 v0 v1 v2 h = some r) : eqz h (hX r) (hV r) := by
  unfold fX5_remember_b32 at hf
  have hle := eqz_rf h
  obtain ⟨hk2, hf⟩ := gd_some hf
  obtain ⟨h3, rfl, hf⟩ := lt_some hf
  obtain ⟨z4, hz4, hf⟩ := bd_some hf
  obtain ⟨a5, e6, hf⟩ := gs_some hf
  obtain ⟨⟨hk8, hb7⟩, hf⟩ := gd_some hf
  obtain ⟨h9, rfl, hf⟩ := lt_some hf
  obtain ⟨z10, hz10, hf⟩ := bd_some hf
  obtain ⟨a11, e12, hf⟩ := gs_some hf
  obtain ⟨⟨hk14, hb13⟩, hf⟩ := gd_some hf
  obtain ⟨hg16, hf⟩ := gd_some hf
  obtain ⟨h15, rfl, hf⟩ := lt_some hf
  have ee := Option.some.inj hf; subst ee; exact hle
set_option maxRecDepth 100000 in
theorem wX5_remember_b32 {E : PE} {p : Program} {l : Launch} {e : Env} {s : State} {m : MethodId} {args : Array Value} {below : List Frame} {meth : Method} {c : Code} (X : Cx E p l e (rmv 2 0 0) s m args below meth c RX5 cX5_remember 3 (none)) (hG : Gs E l) (hnm : meth.name = yX5_remember.name) {v0 : Nat} {v1 : Int32} {v2 : Option Nat} {h : PH} {r : PH} (hf : fX5_remember_b32 v0 v1 v2 h = some r)  : PW E p l e (rmv 2 0 0) s m args below meth c 3 0 0 (MQ below (QG E (fun v u => v = none ∧ u = r)) args s 0 0 (pA E)) h 32 [(0, some (.ref v0)), (1, some (.int v1)), (2, some (va_rf v2))] [] := by
  unfold fX5_remember_b32 at hf
  refine p_aload_n X (dcg dc_X5_remember 18 rfl) rfl rfl ?_
  refine p_dup X (dcg dc_X5_remember 19 rfl) rfl ?_
  obtain ⟨hk2, hf⟩ := gd_some hf
  refine p_getI X fl_X5_19 rfl (by decide) (dcg dc_X5_remember 20 rfl) hk2 ?_
  refine p_iconst (v := 1) X (dcg dc_X5_remember 21 rfl) (by decide) ?_
  refine p_iadd X (dcg dc_X5_remember 22 rfl) ?_
  refine p_putI X fl_X5_19 rfl (by decide) (fun q hq => by cases hq; rfl) rfl rfl (dcg dc_X5_remember 23 rfl) hk2 ?_
  obtain ⟨h3, rfl, hf⟩ := lt_some hf
  refine p_aload_n X (dcg dc_X5_remember 24 rfl) rfl rfl ?_
  refine p_getR X fl_X5_9 rfl (by decide) (dcg dc_X5_remember 25 rfl) hk2 ?_
  refine p_aload_n X (dcg dc_X5_remember 26 rfl) rfl rfl ?_
  obtain ⟨z4, hz4, hf⟩ := bd_some hf
  refine p_callV (As := []) X ml_X5_26 (dcg dc_X5_remember 27 rfl) rfl rfl hk2 (wX5_latestSlot hG hz4) (by decide) (room4 (Nat.le_of_ble_eq_true rfl)) (Nat.le_refl _) (Nat.le_refl _) ?_
  rintro _ u9 ⟨rfl, e9⟩; have e9 := e9.symm; subst e9
  refine p_iload_n X (dcg dc_X5_remember 28 rfl) rfl rfl ?_
  obtain ⟨a5, e6, hf⟩ := gs_some hf
  first | subst e6 | (try rw [e6])
  obtain ⟨⟨hk8, hb7⟩, hf⟩ := gd_some hf
  refine p_iast X (dcg dc_X5_remember 29 rfl) hk8 (vp_of_inb hb7) ?_
  obtain ⟨h9, rfl, hf⟩ := lt_some hf
  refine p_aload_n X (dcg dc_X5_remember 30 rfl) rfl rfl ?_
  refine p_getR X fl_X5_15 rfl (by decide) (dcg dc_X5_remember 31 rfl) hk2 ?_
  refine p_aload_n X (dcg dc_X5_remember 32 rfl) rfl rfl ?_
  obtain ⟨z10, hz10, hf⟩ := bd_some hf
  refine p_callV (As := []) X ml_X5_26 (dcg dc_X5_remember 33 rfl) rfl rfl hk2 (wX5_latestSlot hG hz10) (by decide) (room4 (Nat.le_of_ble_eq_true rfl)) (Nat.le_refl _) (Nat.le_refl _) ?_
  rintro _ u9 ⟨rfl, e9⟩; have e9 := e9.symm; subst e9
  refine p_aloadq_n X (dcg dc_X5_remember 34 rfl) rfl rfl ?_
  obtain ⟨a11, e12, hf⟩ := gs_some hf
  first | subst e12 | (try rw [e12])
  obtain ⟨⟨hk14, hb13⟩, hf⟩ := gd_some hf
  obtain ⟨hg16, hf⟩ := gd_some hf
  refine p_aast26 X (dcg dc_X5_remember 35 rfl) hk14 (vp_of_inb hb13) (okq_of hg16) ?_
  obtain ⟨h15, rfl, hf⟩ := lt_some hf
  have er := Option.some.inj hf
  subst er
  exact p_vret X rfl (dcg dc_X5_remember 36 rfl) ⟨rfl, rfl⟩ (Nat.le_refl _) (Nat.le_refl _)
noncomputable def fX5_remember (v0 : Nat) (v1 : Int32) (v2 : Option Nat) (h : PH) : Option PH :=
  gd (hK h v0 = 5) (if (¬ (hI h 5 v0 3) = (20 : Int32)) then (fX5_remember_b32 v0 v1 v2 h) else
  lt (sI h 5 v0 2 (((hI h 5 v0 2) + (1 : Int32)) - ((hI h 5 v0 2) + (1 : Int32)) / (20 : Int32) * (20 : Int32))) (fun h17 =>
  lt (sI h17 5 v0 3 ((hI h17 5 v0 3) - (1 : Int32))) (fun h18 =>
  fX5_remember_b32 v0 v1 v2 h18)))
set_option maxRecDepth 100000 in
theorem mX5_remember {v0 : Nat} {v1 : Int32} {v2 : Option Nat} {h : PH} {r : PH} (hf : fX5_remember v0 v1 v2 h = some r) : eqz h (hX r) (hV r) := by
  unfold fX5_remember at hf
  have hle := eqz_rf h
  obtain ⟨hk1, hf⟩ := gd_some hf
  rcases ite_or hf with ⟨q, hf⟩ | ⟨q, hf⟩
  · have hf := if_t q hf
    exact eqz_rt (mX5_remember_b32 hf) hle
  · have hf := if_f q hf
    obtain ⟨h17, rfl, hf⟩ := lt_some hf
    obtain ⟨h18, rfl, hf⟩ := lt_some hf
    exact eqz_rt (mX5_remember_b32 hf) hle
set_option maxRecDepth 100000 in
theorem wX5_remember {E : PE} {l : Launch} (hG : Gs E l) {v0 : Nat} {v1 : Int32} {v2 : Option Nat} {h : PH} {r : PH} (hf : fX5_remember v0 v1 v2 h = some r) : Ct E l 2 0 0 yX5_remember cX5_remember 3 (none) [.ref v0, .int v1, va_rf v2] h (fun v u => v = none ∧ u = r) := by
  refine ct_of hG (by decide) (by simp [lg_sl, cat_rf, cat_r, cat_i, cat_l, cat_d, cat_f]) ?_
  intro p e s m args below meth c X hnm
  rw [show pargs 0 [.ref v0, .int v1, va_rf v2] = [(0, some (.ref v0)), (1, some (.int v1)), (2, some (va_rf v2))] from by simp [pargs, cat_rf, cat_r, cat_i, cat_l, cat_d, cat_f]]
  unfold fX5_remember at hf
  refine p_aload_n X (dcg dc_X5_remember 0 rfl) rfl rfl ?_
  obtain ⟨hk1, hf⟩ := gd_some hf
  refine p_getI X fl_X5_19 rfl (by decide) (dcg dc_X5_remember 1 rfl) hk1 ?_
  refine p_bipush (v := 20) X (dcg dc_X5_remember 2 rfl) (by decide) ?_
  refine p_icmp_ne (tgt := 32) X (dcg dc_X5_remember 3 rfl) (by decide) (fun q => ?_) (fun q => ?_)
  · have hf := if_t q hf
    refine p_pick [0, 1, 2] ?_
    exact wX5_remember_b32 X hG hnm hf 
  · have hf := if_f q hf
    refine p_aload_n X (dcg dc_X5_remember 4 rfl) rfl rfl ?_
    refine p_aload_n X (dcg dc_X5_remember 5 rfl) rfl rfl ?_
    refine p_getI X fl_X5_23 rfl (by decide) (dcg dc_X5_remember 6 rfl) hk1 ?_
    refine p_iconst (v := 1) X (dcg dc_X5_remember 7 rfl) (by decide) ?_
    refine p_iadd X (dcg dc_X5_remember 8 rfl) ?_
    refine p_bipush (v := 20) X (dcg dc_X5_remember 9 rfl) (by decide) ?_
    refine p_irem X (dcg dc_X5_remember 10 rfl) (by decide) ?_
    refine p_putI X fl_X5_23 rfl (by decide) (fun q hq => by cases hq; rfl) rfl rfl (dcg dc_X5_remember 11 rfl) hk1 ?_
    obtain ⟨h17, rfl, hf⟩ := lt_some hf
    refine p_aload_n X (dcg dc_X5_remember 12 rfl) rfl rfl ?_
    refine p_dup X (dcg dc_X5_remember 13 rfl) rfl ?_
    refine p_getI X fl_X5_19 rfl (by decide) (dcg dc_X5_remember 14 rfl) hk1 ?_
    refine p_iconst (v := 1) X (dcg dc_X5_remember 15 rfl) (by decide) ?_
    refine p_isub X (dcg dc_X5_remember 16 rfl) ?_
    refine p_putI X fl_X5_19 rfl (by decide) (fun q hq => by cases hq; rfl) rfl rfl (dcg dc_X5_remember 17 rfl) hk1 ?_
    obtain ⟨h18, rfl, hf⟩ := lt_some hf
    refine p_pick [0, 1, 2] ?_
    exact wX5_remember_b32 X hG hnm hf 
theorem dc_X5_latestNumber : decs cX5_latestNumber [(0, .aload_n 0, 1), (1, .getfield 9, 3), (4, .aload_n 0, 1), (5, .invokevirtual 26, 3), (8, .iaload, 1), (9, .ireturn, 1)] = true := by decide +kernel
noncomputable def fX5_latestNumber (v0 : Nat) (h : PH) : Option Int32 :=
  gd (hK h v0 = 5) (bd (fX5_latestSlot v0 h) (fun z2 =>
  gs (hR h 5 v0 0) (fun a3 =>
  gd (hK h a3 = 20 ∧ inb z2 (hN h a3)) (some ((hI h 20 a3 (Int32.toNatClampNeg z2)))))))
set_option maxRecDepth 100000 in
theorem wX5_latestNumber {E : PE} {l : Launch} (hG : Gs E l) {v0 : Nat} {h : PH} {r : Int32} (hf : fX5_latestNumber v0 h = some r) : Ct E l 2 0 0 yX5_latestNumber cX5_latestNumber 1 (some .int) [.ref v0] h (fun v u => v = some (.int r) ∧ u = h) := by
  refine ct_of hG (by decide) (Nat.le_of_ble_eq_true rfl) ?_
  intro p e s m args below meth c X hnm
  show PW E p l e _ s m args below meth c _ 0 0 _ h 0 [(0, some (.ref v0))] []
  unfold fX5_latestNumber at hf
  refine p_aload_n X (dcg dc_X5_latestNumber 0 rfl) rfl rfl ?_
  obtain ⟨hk1, hf⟩ := gd_some hf
  refine p_getR X fl_X5_9 rfl (by decide) (dcg dc_X5_latestNumber 1 rfl) hk1 ?_
  refine p_aload_n X (dcg dc_X5_latestNumber 2 rfl) rfl rfl ?_
  obtain ⟨z2, hz2, hf⟩ := bd_some hf
  refine p_callV (As := []) X ml_X5_26 (dcg dc_X5_latestNumber 3 rfl) rfl rfl hk1 (wX5_latestSlot hG hz2) (by decide) (room4 (Nat.le_of_ble_eq_true rfl)) (Nat.le_refl _) (Nat.le_refl _) ?_
  rintro _ u9 ⟨rfl, e9⟩; have e9 := e9.symm; subst e9
  obtain ⟨a3, e4, hf⟩ := gs_some hf
  first | subst e4 | (try rw [e4])
  obtain ⟨⟨hk6, hb5⟩, hf⟩ := gd_some hf
  refine p_iald X (dcg dc_X5_latestNumber 4 rfl) hk6 (vp_of_inb hb5) ?_
  have er := Option.some.inj hf
  subst er
  exact p_iret X rfl (dcg dc_X5_latestNumber 5 rfl) ⟨rfl, rfl⟩ (Nat.le_refl _) (Nat.le_refl _)
theorem dc_X5_latestText : decs cX5_latestText [(0, .aload_n 0, 1), (1, .getfield 15, 3), (4, .aload_n 0, 1), (5, .invokevirtual 26, 3), (8, .aaload, 1), (9, .areturn, 1)] = true := by decide +kernel
noncomputable def fX5_latestText (v0 : Nat) (h : PH) : Option (Option Nat) :=
  gd (hK h v0 = 5) (bd (fX5_latestSlot v0 h) (fun z2 =>
  gs (hR h 5 v0 1) (fun a3 =>
  gd (hK h a3 = 26 ∧ inb z2 (hN h a3)) (some ((hR h 26 a3 (Int32.toNatClampNeg z2)))))))
set_option maxRecDepth 100000 in
theorem wX5_latestText {E : PE} {l : Launch} (hG : Gs E l) {v0 : Nat} {h : PH} {r : (Option Nat)} (hf : fX5_latestText v0 h = some r) : Ct E l 2 0 0 yX5_latestText cX5_latestText 1 (some (.object "WordFinder$Text")) [.ref v0] h (fun v u => v = some (va_rf r) ∧ u = h) := by
  refine ct_of hG (by decide) (Nat.le_of_ble_eq_true rfl) ?_
  intro p e s m args below meth c X hnm
  show PW E p l e _ s m args below meth c _ 0 0 _ h 0 [(0, some (.ref v0))] []
  unfold fX5_latestText at hf
  refine p_aload_n X (dcg dc_X5_latestText 0 rfl) rfl rfl ?_
  obtain ⟨hk1, hf⟩ := gd_some hf
  refine p_getR X fl_X5_15 rfl (by decide) (dcg dc_X5_latestText 1 rfl) hk1 ?_
  refine p_aload_n X (dcg dc_X5_latestText 2 rfl) rfl rfl ?_
  obtain ⟨z2, hz2, hf⟩ := bd_some hf
  refine p_callV (As := []) X ml_X5_26 (dcg dc_X5_latestText 3 rfl) rfl rfl hk1 (wX5_latestSlot hG hz2) (by decide) (room4 (Nat.le_of_ble_eq_true rfl)) (Nat.le_refl _) (Nat.le_refl _) ?_
  rintro _ u9 ⟨rfl, e9⟩; have e9 := e9.symm; subst e9
  obtain ⟨a3, e4, hf⟩ := gs_some hf
  first | subst e4 | (try rw [e4])
  obtain ⟨⟨hk6, hb5⟩, hf⟩ := gd_some hf
  refine p_aald26 X (dcg dc_X5_latestText 4 rfl) hk6 (vp_of_inb hb5) ?_
  have er := Option.some.inj hf
  subst er
  exact p_aret X rfl (Or.inl ⟨_, rfl⟩) (dcg dc_X5_latestText 5 rfl) ⟨rfl, rfl⟩ (Nat.le_refl _) (Nat.le_refl _)
