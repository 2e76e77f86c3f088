/-! methods of the program (by program: wip/whole/gen2.py) -/
theorem dc_X7_finish : decs cX7_finish [(0, .aload_n 0, 1), (1, .iconst 0, 1), (2, .putfield 19, 3), (5, .aload_n 0, 1), (6, .iload_n 1, 1), (7, .putfield 15, 3), (10, .return_, 1)] = true := by decide +kernel
noncomputable def fX7_finish (v0 : Nat) (v1 : Int32) (h : PH) : Option PH :=
  gd (hK h v0 = 7) (lt (sI h 7 v0 1 (0 : Int32)) (fun h2 =>
  lt (sI h2 7 v0 2 v1) (fun h3 =>
  some (h3))))
set_option maxRecDepth 100000 in
theorem mX7_finish {v0 : Nat} {v1 : Int32} {h : PH} {r : PH} (hf : fX7_finish v0 v1 h = some r) : eqz h (hX r) (hV r) := by
  unfold fX7_finish at hf
  have hle := eqz_rf h
  obtain ⟨hk1, hf⟩ := gd_some hf
  obtain ⟨h2, rfl, hf⟩ := lt_some hf
  obtain ⟨h3, rfl, hf⟩ := lt_some hf
  have ee := Option.some.inj hf; subst ee; exact hle
set_option maxRecDepth 100000 in
theorem wX7_finish {E : PE} {l : Launch} (hG : Gs E l) {v0 : Nat} {v1 : Int32} {h : PH} {r : PH} (hf : fX7_finish v0 v1 h = some r) : Ct E l 0 0 0 yX7_finish cX7_finish 2 (none) [.ref v0, .int v1] h (fun v u => v = none ∧ u = r) := by
  refine ct_of hG (by decide) (Nat.le_of_ble_eq_true rfl) ?_
  intro p e s m args below meth c X hnm
  show PW E p l e _ s m args below meth c _ 0 0 _ h 0 [(0, some (.ref v0)), (1, some (.int v1))] []
  unfold fX7_finish at hf
  refine p_aload_n X (dcg dc_X7_finish 0 rfl) rfl rfl ?_
  refine p_iconst (v := 0) X (dcg dc_X7_finish 1 rfl) (by decide) ?_
  obtain ⟨hk1, hf⟩ := gd_some hf
  refine p_putI X fl_X7_19 rfl (by decide) (fun q hq => by cases hq; rfl) rfl rfl (dcg dc_X7_finish 2 rfl) hk1 ?_
  obtain ⟨h2, rfl, hf⟩ := lt_some hf
  refine p_aload_n X (dcg dc_X7_finish 3 rfl) rfl rfl ?_
  refine p_iload_n X (dcg dc_X7_finish 4 rfl) rfl rfl ?_
  refine p_putI X fl_X7_15 rfl (by decide) (fun q hq => by cases hq; rfl) rfl rfl (dcg dc_X7_finish 5 rfl) hk1 ?_
  obtain ⟨h3, rfl, hf⟩ := lt_some hf
  have er := Option.some.inj hf
  subst er
  exact p_vret X rfl (dcg dc_X7_finish 6 rfl) ⟨rfl, rfl⟩ (Nat.le_refl _) (Nat.le_refl _)
theorem dc_X6_takeQuery : decs cX6_takeQuery [(0, .aload_n 0, 1), (1, .iconst 0, 1), (2, .putfield 19, 3), (5, .aload_n 0, 1), (6, .iconst 0, 1), (7, .putfield 23, 3), (10, .aload_n 0, 1), (11, .iconst (-1), 1), (12, .putfield 26, 3), (15, .aload_n 0, 1), (16, .invokevirtual 29, 3), (19, .aload_n 0, 1), (20, .iconst 0, 1), (21, .invokevirtual 32, 3), (24, .astore_n 1, 1), (25, .aload_n 1, 1), (26, .ifnull 15, 3), (29, .aload_n 0, 1), (30, .getfield 36, 3), (33, .ifCond .eq 8, 3), (36, .aload_n 0, 1), (37, .invokevirtual 39, 3), (40, .astore_n 1, 1), (41, .aload_n 0, 1), (42, .getfield 15, 3), (45, .aload_n 0, 1), (46, .getfield 26, 3), (49, .invokevirtual 43, 3), (52, .aload_n 1, 1), (53, .areturn, 1)] = true := by decide +kernel
noncomputable def fX6_takeQuery_b41 (v0 : Nat) (v1 : Option Nat) (h : PH) : Option (Option Nat × PH) :=
  gd (hK h v0 = 6) (gs (hR h 6 v0 0) (fun a10 =>
  gd (hK h a10 = 7) (bd (fX7_finish a10 (hI h 6 v0 7) h) (fun z13 =>
  some ((v1, z13))))))
set_option maxRecDepth 100000 in
theorem mX6_takeQuery_b41 {v0 : Nat} {v1 : Option Nat} {h : PH} {r : (Option Nat × PH)} (hf : fX6_takeQuery_b41 v0 v1 h = some r) : lez h (hX r.2) (hV r.2) := by
  unfold fX6_takeQuery_b41 at hf
  have hle := lez_rf h
  obtain ⟨hk9, hf⟩ := gd_some hf
  obtain ⟨a10, e11, hf⟩ := gs_some hf
  obtain ⟨hk12, hf⟩ := gd_some hf
  obtain ⟨z13, hz13, hf⟩ := bd_some hf
  have hle := lez_rt (lez_eq (mX7_finish hz13)) hle
  have ee := Option.some.inj hf; subst ee; exact hle
set_option maxRecDepth 100000 in
theorem wX6_takeQuery_b41 {E : PE} {p : Program} {l : Launch} {e : Env} {s : State} {m : MethodId} {args : Array Value} {below : List Frame} {meth : Method} {c : Code} {X0 V0 MC MS uc us : Nat} (X : Cx E p l e (rmv 139 MC MS) s m args below meth c RX6 cX6_takeQuery 2 (some (.object "WordFinder$Node"))) (hG : Gs E l) (hnm : meth.name = yX6_takeQuery.name) {v0 : Nat} {v1 : Option Nat} {h : PH} {r : (Option Nat × PH)} (hM : MC + X0 = (hX r.2)) (hN : MS + V0 = (hV r.2)) (hu : uc + X0 = hX h) (hv : us + V0 = hV h) (hf : fX6_takeQuery_b41 v0 v1 h = some r)  : PW E p l e (rmv 139 MC MS) s m args below meth c 2 uc us (MQ below (QG E (fun v u => v = some (va_rf r.1) ∧ u = r.2)) args s MC MS (pA E)) h 41 [(0, some (.ref v0)), (1, some (va_rf v1))] [] := by
  have hm1 : lez h (hX r.2) (hV r.2) := mX6_takeQuery_b41 hf
  have hcm : uc ≤ MC := (by have o0 := hm1.1; have o1 := hM; have o2 := hu; (try simp only [hX_sI, hX_sR, hX_sL, hX_sD, hX_sIa, hX_sRa, hV_sI, hV_sR, hV_sL, hV_sD, hV_sIa, hV_sRa, hX_new, hV_new] at o0 o1 o2 ⊢); omega)
  have hsm : us ≤ MS := (by have o0 := hm1.2; have o1 := hN; have o2 := hv; (try simp only [hX_sI, hX_sR, hX_sL, hX_sD, hX_sIa, hX_sRa, hV_sI, hV_sR, hV_sL, hV_sD, hV_sIa, hV_sRa, hX_new, hV_new] at o0 o1 o2 ⊢); omega)
  clear hm1
  unfold fX6_takeQuery_b41 at hf
  refine p_aload_n X (dcg dc_X6_takeQuery 23 rfl) rfl rfl ?_
  obtain ⟨hk9, hf⟩ := gd_some hf
  refine p_getR X fl_X6_15 rfl (by decide) (dcg dc_X6_takeQuery 24 rfl) hk9 ?_
  refine p_aload_n X (dcg dc_X6_takeQuery 25 rfl) rfl rfl ?_
  refine p_getI X fl_X6_26 rfl (by decide) (dcg dc_X6_takeQuery 26 rfl) hk9 ?_
  obtain ⟨a10, e11, hf⟩ := gs_some hf
  first | subst e11 | (try rw [e11])
  obtain ⟨hk12, hf⟩ := gd_some hf
  obtain ⟨z13, hz13, hf⟩ := bd_some hf
  refine p_callV (As := [_]) X ml_X6_43 (dcg dc_X6_takeQuery 27 rfl) rfl rfl hk12 (wX7_finish hG hz13) (by decide) (room4 (Nat.le_of_ble_eq_true rfl)) hcm hsm ?_
  rintro _ u9 ⟨rfl, e9⟩; have e9 := e9.symm; subst e9
  have hu := hu.trans (mX7_finish hz13).1
  have hv := hv.trans (mX7_finish hz13).2
  refine p_aloadq_n X (dcg dc_X6_takeQuery 28 rfl) rfl rfl ?_
  have er := Option.some.inj hf
  subst er
  exact p_aret X rfl (Or.inl ⟨_, rfl⟩) (dcg dc_X6_takeQuery 29 rfl) ⟨rfl, rfl⟩ hcm hsm
noncomputable def fX6_takeQuery_b24 (v0 : Nat) (t0 : Option Nat) (h : PH) : Option (Option Nat × PH) :=
  mq t0 (fX6_takeQuery_b41 v0 t0 h) (fun a8 =>
  gd (hK h v0 = 6) (if ((hI h 6 v0 3) = 0) then (fX6_takeQuery_b41 v0 (some a8) h) else
  bd (fX6_fail v0 h) (fun z15 =>
  fX6_takeQuery_b41 v0 z15.1 z15.2)))
set_option maxRecDepth 100000 in
theorem mX6_takeQuery_b24 {v0 : Nat} {t0 : Option Nat} {h : PH} {r : (Option Nat × PH)} (hf : fX6_takeQuery_b24 v0 t0 h = some r) : lez h (hX r.2) (hV r.2) := by
  unfold fX6_takeQuery_b24 at hf
  have hle := lez_rf h
  rcases mq_or hf with ⟨q, hf⟩ | ⟨a8, q, hf⟩
  · have hf := mq_n q hf
    exact lez_rt (mX6_takeQuery_b41 hf) hle
  · have hk16 := mq_s q hf
    first | subst q | skip
    have hf := hk16
    obtain ⟨hk14, hf⟩ := gd_some hf
    rcases ite_or hf with ⟨q, hf⟩ | ⟨q, hf⟩
    · have hf := if_t q hf
      exact lez_rt (mX6_takeQuery_b41 hf) hle
    · have hf := if_f q hf
      obtain ⟨z15, hz15, hf⟩ := bd_some hf
      have hle := lez_rt (lez_eq (mX6_fail hz15)) hle
      exact lez_rt (mX6_takeQuery_b41 hf) hle
set_option maxRecDepth 100000 in
theorem wX6_takeQuery_b24 {E : PE} {p : Program} {l : Launch} {e : Env} {s : State} {m : MethodId} {args : Array Value} {below : List Frame} {meth : Method} {c : Code} {X0 V0 MC MS uc us : Nat} (X : Cx E p l e (rmv 139 MC MS) s m args below meth c RX6 cX6_takeQuery 2 (some (.object "WordFinder$Node"))) (hG : Gs E l) (hnm : meth.name = yX6_takeQuery.name) {v0 : Nat} {t0 : Option Nat} {h : PH} {r : (Option Nat × PH)} (hM : MC + X0 = (hX r.2)) (hN : MS + V0 = (hV r.2)) (hu : uc + X0 = hX h) (hv : us + V0 = hV h) (hf : fX6_takeQuery_b24 v0 t0 h = some r)  : PW E p l e (rmv 139 MC MS) s m args below meth c 2 uc us (MQ below (QG E (fun v u => v = some (va_rf r.1) ∧ u = r.2)) args s MC MS (pA E)) h 24 [(0, some (.ref v0))] [va_rf t0] := by
  have hm1 : lez h (hX r.2) (hV r.2) := mX6_takeQuery_b24 hf
  have hcm : uc ≤ MC := (by have o0 := hm1.1; have o1 := hM; have o2 := hu; (try simp only [hX_sI, hX_sR, hX_sL, hX_sD, hX_sIa, hX_sRa, hV_sI, hV_sR, hV_sL, hV_sD, hV_sIa, hV_sRa, hX_new, hV_new] at o0 o1 o2 ⊢); omega)
  have hsm : us ≤ MS := (by have o0 := hm1.2; have o1 := hN; have o2 := hv; (try simp only [hX_sI, hX_sR, hX_sL, hX_sD, hX_sIa, hX_sRa, hV_sI, hV_sR, hV_sL, hV_sD, hV_sIa, hV_sRa, hX_new, hV_new] at o0 o1 o2 ⊢); omega)
  clear hm1
  unfold fX6_takeQuery_b24 at hf
  refine p_astoreq_n X (dcg dc_X6_takeQuery 14 rfl) rfl (by decide) rfl ?_
  refine p_aloadq_n X (dcg dc_X6_takeQuery 15 rfl) rfl rfl ?_
  refine p_ifnull (tgt := 41) X (dcg dc_X6_takeQuery 16 rfl) (by decide) (fun q => ?_) (fun a8 q => ?_)
  · have hk16 := mq_n q hf
    first | subst q | (try rw [q])
    have hf := hk16
    refine p_pick [0, 1] ?_
    exact wX6_takeQuery_b41 X hG hnm hM hN hu hv hf 
  · have hk16 := mq_s q hf
    first | subst q | (try rw [q])
    have hf := hk16
    refine p_aload_n X (dcg dc_X6_takeQuery 17 rfl) rfl rfl ?_
    obtain ⟨hk14, hf⟩ := gd_some hf
    refine p_getI X fl_X6_36 rfl (by decide) (dcg dc_X6_takeQuery 18 rfl) hk14 ?_
    refine p_if_eq (tgt := 41) X (dcg dc_X6_takeQuery 19 rfl) (by decide) (fun q => ?_) (fun q => ?_)
    · have hf := if_t q hf
      refine p_pick [0, 1] ?_
      exact wX6_takeQuery_b41 X hG hnm hM hN hu hv hf 
    · have hf := if_f q hf
      refine p_aload_n X (dcg dc_X6_takeQuery 20 rfl) rfl rfl ?_
      obtain ⟨z15, hz15, hf⟩ := bd_some hf
      refine p_callV (As := []) X ml_X6_39 (dcg dc_X6_takeQuery 21 rfl) rfl rfl hk14 (wX6_fail hG hz15) (by decide) (room4 (Nat.le_of_ble_eq_true rfl)) hcm hsm ?_
      rintro _ u9 ⟨rfl, e9⟩; have e9 := e9.symm; subst e9
      have hu := hu.trans (mX6_fail hz15).1
      have hv := hv.trans (mX6_fail hz15).2
      refine p_astoreq_n X (dcg dc_X6_takeQuery 22 rfl) rfl (by decide) rfl ?_
      refine p_pick [0, 1] ?_
      exact wX6_takeQuery_b41 X hG hnm hM hN hu hv hf 
noncomputable def fX6_takeQuery_b0 (v0 : Nat) (h : PH) : Option (Option Nat × PH) :=
  gd (hK h v0 = 6) (lt (sI h 6 v0 2 (0 : Int32)) (fun h2 =>
  lt (sI h2 6 v0 6 (0 : Int32)) (fun h3 =>
  lt (sI h3 6 v0 7 (-1 : Int32)) (fun h4 =>
  bd (fX6_advance v0 h4) (fun z5 =>
  gd (hK z5 v0 = 6) (bd (fX6_readQuery v0 (0 : Int32) z5) (fun z7 =>
  fX6_takeQuery_b24 v0 z7.1 z7.2)))))))
set_option maxRecDepth 100000 in
theorem mX6_takeQuery_b0 {v0 : Nat} {h : PH} {r : (Option Nat × PH)} (hf : fX6_takeQuery_b0 v0 h = some r) : lez h (hX r.2) (hV r.2) := by
  unfold fX6_takeQuery_b0 at hf
  have hle := lez_rf h
  obtain ⟨hk1, hf⟩ := gd_some hf
  obtain ⟨h2, rfl, hf⟩ := lt_some hf
  obtain ⟨h3, rfl, hf⟩ := lt_some hf
  obtain ⟨h4, rfl, hf⟩ := lt_some hf
  obtain ⟨z5, hz5, hf⟩ := bd_some hf
  have hle := lez_rt (lez_eq (mX6_advance hz5)) hle
  obtain ⟨hk6, hf⟩ := gd_some hf
  obtain ⟨z7, hz7, hf⟩ := bd_some hf
  have hle := lez_rt (mX6_readQuery hz7) hle
  exact lez_rt (mX6_takeQuery_b24 hf) hle
set_option maxRecDepth 100000 in
theorem wX6_takeQuery_b0 {E : PE} {p : Program} {l : Launch} {e : Env} {s : State} {m : MethodId} {args : Array Value} {below : List Frame} {meth : Method} {c : Code} {X0 V0 MC MS uc us : Nat} (X : Cx E p l e (rmv 139 MC MS) s m args below meth c RX6 cX6_takeQuery 2 (some (.object "WordFinder$Node"))) (hG : Gs E l) (hnm : meth.name = yX6_takeQuery.name) {v0 : Nat} {h : PH} {r : (Option Nat × PH)} (hM : MC + X0 = (hX r.2)) (hN : MS + V0 = (hV r.2)) (hu : uc + X0 = hX h) (hv : us + V0 = hV h) (hf : fX6_takeQuery_b0 v0 h = some r)  : PW E p l e (rmv 139 MC MS) s m args below meth c 2 uc us (MQ below (QG E (fun v u => v = some (va_rf r.1) ∧ u = r.2)) args s MC MS (pA E)) h 0 [(0, some (.ref v0))] [] := by
  have hm1 : lez h (hX r.2) (hV r.2) := mX6_takeQuery_b0 hf
  have hcm : uc ≤ MC := (by have o0 := hm1.1; have o1 := hM; have o2 := hu; (try simp only [hX_sI, hX_sR, hX_sL, hX_sD, hX_sIa, hX_sRa, hV_sI, hV_sR, hV_sL, hV_sD, hV_sIa, hV_sRa, hX_new, hV_new] at o0 o1 o2 ⊢); omega)
  have hsm : us ≤ MS := (by have o0 := hm1.2; have o1 := hN; have o2 := hv; (try simp only [hX_sI, hX_sR, hX_sL, hX_sD, hX_sIa, hX_sRa, hV_sI, hV_sR, hV_sL, hV_sD, hV_sIa, hV_sRa, hX_new, hV_new] at o0 o1 o2 ⊢); omega)
  clear hm1
  unfold fX6_takeQuery_b0 at hf
  refine p_aload_n X (dcg dc_X6_takeQuery 0 rfl) rfl rfl ?_
  refine p_iconst (v := 0) X (dcg dc_X6_takeQuery 1 rfl) (by decide) ?_
  obtain ⟨hk1, hf⟩ := gd_some hf
  refine p_putI X fl_X6_19 rfl (by decide) (fun q hq => by cases hq; rfl) rfl rfl (dcg dc_X6_takeQuery 2 rfl) hk1 ?_
  obtain ⟨h2, rfl, hf⟩ := lt_some hf
  refine p_aload_n X (dcg dc_X6_takeQuery 3 rfl) rfl rfl ?_
  refine p_iconst (v := 0) X (dcg dc_X6_takeQuery 4 rfl) (by decide) ?_
  refine p_putI X fl_X6_23 rfl (by decide) (fun q hq => by cases hq; rfl) rfl rfl (dcg dc_X6_takeQuery 5 rfl) hk1 ?_
  obtain ⟨h3, rfl, hf⟩ := lt_some hf
  refine p_aload_n X (dcg dc_X6_takeQuery 6 rfl) rfl rfl ?_
  refine p_iconst (v := -1) X (dcg dc_X6_takeQuery 7 rfl) (by decide) ?_
  refine p_putI X fl_X6_26 rfl (by decide) (fun q hq => by cases hq; rfl) rfl rfl (dcg dc_X6_takeQuery 8 rfl) hk1 ?_
  obtain ⟨h4, rfl, hf⟩ := lt_some hf
  refine p_aload_n X (dcg dc_X6_takeQuery 9 rfl) rfl rfl ?_
  obtain ⟨z5, hz5, hf⟩ := bd_some hf
  refine p_callV (As := []) X ml_X6_29 (dcg dc_X6_takeQuery 10 rfl) rfl rfl hk1 (wX6_advance hG hz5) (by decide) (room4 (Nat.le_of_ble_eq_true rfl)) hcm hsm ?_
  rintro _ u9 ⟨rfl, e9⟩; have e9 := e9.symm; subst e9
  have hu := hu.trans (mX6_advance hz5).1
  have hv := hv.trans (mX6_advance hz5).2
  refine p_aload_n X (dcg dc_X6_takeQuery 11 rfl) rfl rfl ?_
  refine p_iconst (v := 0) X (dcg dc_X6_takeQuery 12 rfl) (by decide) ?_
  obtain ⟨hk6, hf⟩ := gd_some hf
  obtain ⟨z7, hz7, hf⟩ := bd_some hf
  have hc1 := mX6_readQuery hz7
  have hm1 : lez _ (hX r.2) (hV r.2) := mX6_takeQuery_b24 hf
  refine p_callV (As := [_]) X ml_X6_32 (dcg dc_X6_takeQuery 13 rfl) rfl rfl hk6 (wX6_readQuery hG hz7) (by decide) (room4 (Nat.le_of_ble_eq_true rfl)) (by have o0 := hm1.1; have o1 := hc1.1; have o2 := hM; have o3 := hu; (try simp only [hX_sI, hX_sR, hX_sL, hX_sD, hX_sIa, hX_sRa, hV_sI, hV_sR, hV_sL, hV_sD, hV_sIa, hV_sRa, hX_new, hV_new] at o0 o1 o2 o3 ⊢); omega) (by have o0 := hm1.2; have o1 := hc1.2; have o2 := hN; have o3 := hv; (try simp only [hX_sI, hX_sR, hX_sL, hX_sD, hX_sIa, hX_sRa, hV_sI, hV_sR, hV_sL, hV_sD, hV_sIa, hV_sRa, hX_new, hV_new] at o0 o1 o2 o3 ⊢); omega) ?_
  rintro _ u9 ⟨rfl, e9⟩; have e9 := e9.symm; subst e9
  refine p_pick [0] ?_
  exact wX6_takeQuery_b24 X hG hnm hM hN (by have o0 := hc1.1; have o1 := hu; (try simp only [hX_sI, hX_sR, hX_sL, hX_sD, hX_sIa, hX_sRa, hV_sI, hV_sR, hV_sL, hV_sD, hV_sIa, hV_sRa, hX_new, hV_new] at o0 o1 ⊢); omega) (by have o0 := hc1.2; have o1 := hv; (try simp only [hX_sI, hX_sR, hX_sL, hX_sD, hX_sIa, hX_sRa, hV_sI, hV_sR, hV_sL, hV_sD, hV_sIa, hV_sRa, hX_new, hV_new] at o0 o1 ⊢); omega) hf 
noncomputable def fX6_takeQuery (v0 : Nat) (h : PH) : Option (Option Nat × PH) :=
  fX6_takeQuery_b0 v0 h
set_option maxRecDepth 100000 in
theorem mX6_takeQuery {v0 : Nat} {h : PH} {r : (Option Nat × PH)} (hf : fX6_takeQuery v0 h = some r) : lez h (hX r.2) (hV r.2) := by
  unfold fX6_takeQuery at hf
  have hle := lez_rf h
  exact lez_rt (mX6_takeQuery_b0 hf) hle
set_option maxRecDepth 100000 in
theorem wX6_takeQuery {E : PE} {l : Launch} (hG : Gs E l) {v0 : Nat} {h : PH} {r : (Option Nat × PH)} (hf : fX6_takeQuery v0 h = some r) : Ct E l 139 ((hX r.2) - hX h) ((hV r.2) - hV h) yX6_takeQuery cX6_takeQuery 2 (some (.object "WordFinder$Node")) [.ref v0] h (fun v u => v = some (va_rf r.1) ∧ u = r.2) := by
  have hmm := mX6_takeQuery hf
  refine ct_of hG (by decide) (Nat.le_of_ble_eq_true rfl) ?_
  intro p e s m args below meth c X hnm
  show PW E p l e _ s m args below meth c _ 0 0 _ h 0 [(0, some (.ref v0))] []
  unfold fX6_takeQuery at hf
  have hM := Nat.sub_add_cancel hmm.1
  have hN := Nat.sub_add_cancel hmm.2
  refine p_pick [0] ?_
  exact wX6_takeQuery_b0 X hG hnm hM hN (Nat.zero_add _) (Nat.zero_add _) hf
theorem dc_X7_init : decs cX7_init [(0, .aload_n 0, 1), (1, .invokespecial 3, 3), (4, .aload_n 0, 1), (5, .sipush 300, 3), (8, .newarray .int, 2), (10, .putfield 11, 3), (13, .aload_n 0, 1), (14, .iconst (-1), 1), (15, .putfield 15, 3), (18, .return_, 1)] = true := by decide +kernel
noncomputable def fX7_init_b10 (v0 : Nat) (t0 : Nat) (t1 : Nat) (h : PH) : Option PH :=
  gd (hK h t0 = 7) (lt (sR h 7 t0 0 (some t1)) (fun h3 =>
  gd (hK h3 v0 = 7) (lt (sI h3 7 v0 2 (-1 : Int32)) (fun h5 =>
  some (h5)))))
set_option maxRecDepth 100000 in
theorem mX7_init_b10 {v0 : Nat} {t0 : Nat} {t1 : Nat} {h : PH} {r : PH} (hf : fX7_init_b10 v0 t0 t1 h = some r) : lez h (hX r) (hV r) := by
  unfold fX7_init_b10 at hf
  have hle := lez_rf h
  obtain ⟨hk2, hf⟩ := gd_some hf
  obtain ⟨h3, rfl, hf⟩ := lt_some hf
  obtain ⟨hk4, hf⟩ := gd_some hf
  obtain ⟨h5, rfl, hf⟩ := lt_some hf
  have ee := Option.some.inj hf; subst ee; exact hle
set_option maxRecDepth 100000 in
theorem wX7_init_b10 {E : PE} {p : Program} {l : Launch} {e : Env} {s : State} {m : MethodId} {args : Array Value} {below : List Frame} {meth : Method} {c : Code} {X0 V0 MC MS uc us : Nat} (X : Cx E p l e (rmv 1 MC MS) s m args below meth c RX7 cX7_init 1 (none)) (hG : Gs E l) (hnm : meth.name = yX7_init.name) {v0 : Nat} {t0 : Nat} {t1 : Nat} {h : PH} {r : PH} (hM : MC + X0 = (hX r)) (hN : MS + V0 = (hV r)) (hu : uc + X0 = hX h) (hv : us + V0 = hV h) (hf : fX7_init_b10 v0 t0 t1 h = some r)  : PW E p l e (rmv 1 MC MS) s m args below meth c 1 uc us (MQ below (QG E (fun v u => v = none ∧ u = r)) args s MC MS (pA E)) h 10 [(0, some (.ref v0))] [.ref t1, .ref t0] := by
  have hm1 : lez h (hX r) (hV r) := mX7_init_b10 hf
  have hcm : uc ≤ MC := (by have o0 := hm1.1; have o1 := hM; have o2 := hu; (try simp only [hX_sI, hX_sR, hX_sL, hX_sD, hX_sIa, hX_sRa, hV_sI, hV_sR, hV_sL, hV_sD, hV_sIa, hV_sRa, hX_new, hV_new] at o0 o1 o2 ⊢); omega)
  have hsm : us ≤ MS := (by have o0 := hm1.2; have o1 := hN; have o2 := hv; (try simp only [hX_sI, hX_sR, hX_sL, hX_sD, hX_sIa, hX_sRa, hV_sI, hV_sR, hV_sL, hV_sD, hV_sIa, hV_sRa, hX_new, hV_new] at o0 o1 o2 ⊢); omega)
  clear hm1
  unfold fX7_init_b10 at hf
  obtain ⟨hk2, hf⟩ := gd_some hf
  refine p_putRf (v := some _) X fl_X7_11 rfl (by decide) (fun q hq => by cases hq; exact ⟨rfl, rfl⟩) hnm (nar_rf _ (by decide)) (fit_rf _ (by decide)) (dcg dc_X7_init 5 rfl) hk2 ?_
  obtain ⟨h3, rfl, hf⟩ := lt_some hf
  refine p_aload_n X (dcg dc_X7_init 6 rfl) rfl rfl ?_
  refine p_iconst (v := -1) X (dcg dc_X7_init 7 rfl) (by decide) ?_
  obtain ⟨hk4, hf⟩ := gd_some hf
  refine p_putI X fl_X7_15 rfl (by decide) (fun q hq => by cases hq; rfl) rfl rfl (dcg dc_X7_init 8 rfl) hk4 ?_
  obtain ⟨h5, rfl, hf⟩ := lt_some hf
  have er := Option.some.inj hf
  subst er
  exact p_vret X rfl (dcg dc_X7_init 9 rfl) ⟨rfl, rfl⟩ hcm hsm
noncomputable def fX7_init_b0 (v0 : Nat) (h : PH) : Option PH :=
  gd (¬ (300 : Int32) < 0 ∧ (Int32.toNatClampNeg (300 : Int32)) ≤ 1000000) (fX7_init_b10 v0 v0 (hX h) (hnew h 20 (Int32.toNatClampNeg (300 : Int32))))
set_option maxRecDepth 100000 in
theorem mX7_init_b0 {v0 : Nat} {h : PH} {r : PH} (hf : fX7_init_b0 v0 h = some r) : lez h (hX r) (hV r) := by
  unfold fX7_init_b0 at hf
  have hle := lez_rf h
  obtain ⟨hg1, hf⟩ := gd_some hf
  have hle := lez_nw (c := 20) (n := (Int32.toNatClampNeg (300 : Int32))) hle
  exact lez_rt (mX7_init_b10 hf) hle
set_option maxRecDepth 100000 in
theorem wX7_init_b0 {E : PE} {p : Program} {l : Launch} {e : Env} {s : State} {m : MethodId} {args : Array Value} {below : List Frame} {meth : Method} {c : Code} {X0 V0 MC MS uc us : Nat} (X : Cx E p l e (rmv 1 MC MS) s m args below meth c RX7 cX7_init 1 (none)) (hG : Gs E l) (hnm : meth.name = yX7_init.name) {v0 : Nat} {h : PH} {r : PH} (hM : MC + X0 = (hX r)) (hN : MS + V0 = (hV r)) (hu : uc + X0 = hX h) (hv : us + V0 = hV h) (hf : fX7_init_b0 v0 h = some r)  : PW E p l e (rmv 1 MC MS) s m args below meth c 1 uc us (MQ below (QG E (fun v u => v = none ∧ u = r)) args s MC MS (pA E)) h 0 [(0, some (.ref v0))] [] := by
  have hm1 : lez h (hX r) (hV r) := mX7_init_b0 hf
  have hcm : uc ≤ MC := (by have o0 := hm1.1; have o1 := hM; have o2 := hu; (try simp only [hX_sI, hX_sR, hX_sL, hX_sD, hX_sIa, hX_sRa, hV_sI, hV_sR, hV_sL, hV_sD, hV_sIa, hV_sRa, hX_new, hV_new] at o0 o1 o2 ⊢); omega)
  have hsm : us ≤ MS := (by have o0 := hm1.2; have o1 := hN; have o2 := hv; (try simp only [hX_sI, hX_sR, hX_sL, hX_sD, hX_sIa, hX_sRa, hV_sI, hV_sR, hV_sL, hV_sD, hV_sIa, hV_sRa, hX_new, hV_new] at o0 o1 o2 ⊢); omega)
  clear hm1
  unfold fX7_init_b0 at hf
  refine p_aload_n X (dcg dc_X7_init 0 rfl) rfl rfl ?_
  refine p_objinit X tw_153 tw_146 tw_147 (dcg dc_X7_init 1 rfl) (Nat.le_of_ble_eq_true rfl) (Nat.le_trans (Nat.add_le_add_right (room4 (Nat.le_of_ble_eq_true rfl)) 12) (Nat.le_of_ble_eq_true rfl)) (fun ls hl => hl.1.trans X.2.2.1.symm) ?_
  refine p_aload_n X (dcg dc_X7_init 2 rfl) rfl rfl ?_
  refine p_sipush (v := 300) X (dcg dc_X7_init 3 rfl) (by decide) ?_
  obtain ⟨hg1, hf⟩ := gd_some hf
  have hm1 : lez _ (hX r) (hV r) := mX7_init_b10 hf
  have hm2 := lez_new hm1
  refine p_newa20 X tw_168 (dcg dc_X7_init 4 rfl) hg1.1 hg1.2 (show uc + 1 ≤ MC from (by have o0 := hm2.1; have o1 := hM; have o2 := hu; (try simp only [hX_sI, hX_sR, hX_sL, hX_sD, hX_sIa, hX_sRa, hV_sI, hV_sR, hV_sL, hV_sD, hV_sIa, hV_sRa, hX_new, hV_new] at o0 o1 o2 ⊢); omega)) (show us + (Int32.toNatClampNeg (300 : Int32)) ≤ MS from (by have o0 := hm2.2; have o1 := hN; have o2 := hv; (try simp only [hX_sI, hX_sR, hX_sL, hX_sD, hX_sIa, hX_sRa, hV_sI, hV_sR, hV_sL, hV_sD, hV_sIa, hV_sRa, hX_new, hV_new] at o0 o1 o2 ⊢); omega)) ?_
  refine p_pick [0] ?_
  exact wX7_init_b10 X hG hnm hM hN (by have o0 := hu; (try simp only [hX_sI, hX_sR, hX_sL, hX_sD, hX_sIa, hX_sRa, hV_sI, hV_sR, hV_sL, hV_sD, hV_sIa, hV_sRa, hX_new, hV_new] at o0 ⊢); omega) (by have o0 := hv; (try simp only [hX_sI, hX_sR, hX_sL, hX_sD, hX_sIa, hX_sRa, hV_sI, hV_sR, hV_sL, hV_sD, hV_sIa, hV_sRa, hX_new, hV_new] at o0 ⊢); omega) hf 
noncomputable def fX7_init (v0 : Nat) (h : PH) : Option PH :=
  fX7_init_b0 v0 h
set_option maxRecDepth 100000 in
theorem mX7_init {v0 : Nat} {h : PH} {r : PH} (hf : fX7_init v0 h = some r) : lez h (hX r) (hV r) := by
  unfold fX7_init at hf
  have hle := lez_rf h
  exact lez_rt (mX7_init_b0 hf) hle
set_option maxRecDepth 100000 in
theorem wX7_init {E : PE} {l : Launch} (hG : Gs E l) {v0 : Nat} {h : PH} {r : PH} (hf : fX7_init v0 h = some r) : Ct E l 1 ((hX r) - hX h) ((hV r) - hV h) yX7_init cX7_init 1 (none) [.ref v0] h (fun v u => v = none ∧ u = r) := by
  have hmm := mX7_init hf
  refine ct_of hG (by decide) (Nat.le_of_ble_eq_true rfl) ?_
  intro p e s m args below meth c X hnm
  show PW E p l e _ s m args below meth c _ 0 0 _ h 0 [(0, some (.ref v0))] []
  unfold fX7_init at hf
  have hM := Nat.sub_add_cancel hmm.1
  have hN := Nat.sub_add_cancel hmm.2
  refine p_pick [0] ?_
  exact wX7_init_b0 X hG hnm hM hN (Nat.zero_add _) (Nat.zero_add _) hf
theorem dc_X7_bytesOf : decs cX7_bytesOf [(0, .iconst 0, 1), (1, .istore_n 1, 1), (2, .bipush 24, 2), (4, .istore_n 2, 1), (5, .iload_n 2, 1), (6, .ifCond .lt 22, 3), (9, .iload_n 0, 1), (10, .iload_n 2, 1), (11, .iushr, 1), (12, .sipush 255, 3), (15, .iand, 1), (16, .ifCond .eq 6, 3), (19, .iinc 1 1, 3), (22, .iinc 2 (-8), 3), (25, .goto (-20), 3), (28, .iload_n 1, 1), (29, .ireturn, 1)] = true := by decide +kernel
noncomputable def fX7_bytesOf_b22 (v0 : Int32) (v1 : Int32) (v2 : Int32) : Option ((Int32 × Int32) ⊕ Int32) :=
  some (.inl (v1, (v2 + (-8))))
set_option maxRecDepth 100000 in
theorem wX7_bytesOf_b22 {E : PE} {p : Program} {l : Launch} {e : Env} {s : State} {m : MethodId} {args : Array Value} {below : List Frame} {meth : Method} {c : Code} (X : Cx E p l e (rmv 0 0 0) s m args below meth c RX7 cX7_bytesOf 3 (some .int)) (hG : Gs E l) (hnm : meth.name = yX7_bytesOf.name) {v0 : Int32} {v1 : Int32} {v2 : Int32} {h : PH} {r : Int32} {x : ((Int32 × Int32) ⊕ Int32)} (hf : fX7_bytesOf_b22 v0 v1 v2 = some x) (k0 : ∀ z : (Int32 × Int32), x = .inl z → PW E p l e (rmv 0 0 0) s m args below meth c 3 0 0 (MQ below (QG E (fun v u => v = some (.int r) ∧ u = h)) args s 0 0 (pA E)) h 5 [(0, some (.int v0)), (1, some (.int (z.1))), (2, some (.int (z.2)))] []) (kf : ∀ z : Int32, x = .inr z → z = r) : PW E p l e (rmv 0 0 0) s m args below meth c 3 0 0 (MQ below (QG E (fun v u => v = some (.int r) ∧ u = h)) args s 0 0 (pA E)) h 22 [(0, some (.int v0)), (1, some (.int v1)), (2, some (.int v2))] [] := by
  unfold fX7_bytesOf_b22 at hf
  refine p_iinc (v := -8) X (dcg dc_X7_bytesOf 13 rfl) rfl (by decide) (by decide) rfl ?_
  refine p_goto (tgt := 5) X (dcg dc_X7_bytesOf 14 rfl) (by decide) ?_
  refine p_pick [0, 1, 2] ?_
  exact k0 _ (Option.some.inj hf).symm
noncomputable def fX7_bytesOf_c5 (v0 : Int32) (v1 : Int32) (v2 : Int32) : Option ((Int32 × Int32) ⊕ Int32) :=
  if (v2 < 0) then (mr (some (v1))) else
  if (((Int32.toUInt32 v0 >>> (Int32.toUInt32 v2 &&& Int32.toUInt32 31)).toInt32 &&& (255 : Int32)) = 0) then (fX7_bytesOf_b22 v0 v1 v2) else
  fX7_bytesOf_b22 v0 (v1 + 1) v2
set_option maxRecDepth 100000 in
theorem wX7_bytesOf_c5 {E : PE} {p : Program} {l : Launch} {e : Env} {s : State} {m : MethodId} {args : Array Value} {below : List Frame} {meth : Method} {c : Code} (X : Cx E p l e (rmv 0 0 0) s m args below meth c RX7 cX7_bytesOf 3 (some .int)) (hG : Gs E l) (hnm : meth.name = yX7_bytesOf.name) {v0 : Int32} {v1 : Int32} {v2 : Int32} {h : PH} {r : Int32} {x : ((Int32 × Int32) ⊕ Int32)} (hf : fX7_bytesOf_c5 v0 v1 v2 = some x) (k0 : ∀ z : (Int32 × Int32), x = .inl z → PW E p l e (rmv 0 0 0) s m args below meth c 3 0 0 (MQ below (QG E (fun v u => v = some (.int r) ∧ u = h)) args s 0 0 (pA E)) h 5 [(0, some (.int v0)), (1, some (.int (z.1))), (2, some (.int (z.2)))] []) (kf : ∀ z : Int32, x = .inr z → z = r) : PW E p l e (rmv 0 0 0) s m args below meth c 3 0 0 (MQ below (QG E (fun v u => v = some (.int r) ∧ u = h)) args s 0 0 (pA E)) h 5 [(0, some (.int v0)), (1, some (.int v1)), (2, some (.int v2))] [] := by
  unfold fX7_bytesOf_c5 at hf
  refine p_iload_n X (dcg dc_X7_bytesOf 4 rfl) rfl rfl ?_
  refine p_if_lt (tgt := 28) X (dcg dc_X7_bytesOf 5 rfl) (by decide) (fun q => ?_) (fun q => ?_)
  · have hf := if_t q hf
    obtain ⟨y1, hf, hy2⟩ := mr_some hf
    have hy2f := kf y1 hy2
    subst hy2f
    refine p_iload_n X (dcg dc_X7_bytesOf 15 rfl) rfl rfl ?_
    have er := Option.some.inj hf
    subst er
    exact p_iret X rfl (dcg dc_X7_bytesOf 16 rfl) ⟨rfl, rfl⟩ (Nat.le_refl _) (Nat.le_refl _)
  · have hf := if_f q hf
    refine p_iload_n X (dcg dc_X7_bytesOf 6 rfl) rfl rfl ?_
    refine p_iload_n X (dcg dc_X7_bytesOf 7 rfl) rfl rfl ?_
    refine p_iushr X (dcg dc_X7_bytesOf 8 rfl) ?_
    refine p_sipush (v := 255) X (dcg dc_X7_bytesOf 9 rfl) (by decide) ?_
    refine p_iand X (dcg dc_X7_bytesOf 10 rfl) ?_
    refine p_if_eq (tgt := 22) X (dcg dc_X7_bytesOf 11 rfl) (by decide) (fun q => ?_) (fun q => ?_)
    · have hf := if_t q hf
      refine p_pick [0, 1, 2] ?_
      exact wX7_bytesOf_b22 X hG hnm hf k0 kf
    · have hf := if_f q hf
      refine p_iinc (v := 1) X (dcg dc_X7_bytesOf 12 rfl) rfl (by decide) (by decide) rfl ?_
      refine p_pick [0, 1, 2] ?_
      exact wX7_bytesOf_b22 X hG hnm hf k0 kf
noncomputable def fX7_bytesOf_l5 (v0 : Int32) (v1 : Int32) (v2 : Int32) : Option Int32 := wh (fun z : (Int32 × Int32) => fX7_bytesOf_c5 v0 (z.1) (z.2)) (v1, v2)
set_option maxRecDepth 100000 in
theorem wX7_bytesOf_l5 {E : PE} {p : Program} {l : Launch} {e : Env} {s : State} {m : MethodId} {args : Array Value} {below : List Frame} {meth : Method} {c : Code} (X : Cx E p l e (rmv 0 0 0) s m args below meth c RX7 cX7_bytesOf 3 (some .int)) (hG : Gs E l) (hnm : meth.name = yX7_bytesOf.name) {v0 : Int32} {v1 : Int32} {v2 : Int32} {h : PH} {r : Int32} (hf : fX7_bytesOf_l5 v0 v1 v2 = some r)  : PW E p l e (rmv 0 0 0) s m args below meth c 3 0 0 (MQ below (QG E (fun v u => v = some (.int r) ∧ u = h)) args s 0 0 (pA E)) h 5 [(0, some (.int v0)), (1, some (.int v1)), (2, some (.int v2))] [] := by
  unfold fX7_bytesOf_l5 at hf
  refine wh_ind (P := fun z => PW E p l e (rmv 0 0 0) s m args below meth c 3 0 0 (MQ below (QG E (fun v u => v = some (.int r) ∧ u = h)) args s 0 0 (pA E)) h 5 [(0, some (.int v0)), (1, some (.int (z.1))), (2, some (.int (z.2)))] []) (fun z x0 hs i1 i2 => ?_) _ hf
  exact wX7_bytesOf_c5 (r := r) (v0 := v0) (v1 := z.1) (v2 := z.2) (h := h) X hG hnm hs i1  i2
noncomputable def fX7_bytesOf (v0 : Int32) : Option Int32 :=
  fX7_bytesOf_l5 v0 (0 : Int32) (24 : Int32)
set_option maxRecDepth 100000 in
theorem wX7_bytesOf {E : PE} {l : Launch} (hG : Gs E l) {v0 : Int32} {h : PH} {r : Int32} (hf : fX7_bytesOf v0 = some r) : Ct E l 0 0 0 yX7_bytesOf cX7_bytesOf 3 (some .int) [.int v0] h (fun v u => v = some (.int r) ∧ u = h) := by
  refine ct_of hG (by decide) (Nat.le_of_ble_eq_true rfl) ?_
  intro p e s m args below meth c X hnm
  show PW E p l e _ s m args below meth c _ 0 0 _ h 0 [(0, some (.int v0))] []
  unfold fX7_bytesOf at hf
  refine p_iconst (v := 0) X (dcg dc_X7_bytesOf 0 rfl) (by decide) ?_
  refine p_istore_n X (dcg dc_X7_bytesOf 1 rfl) rfl (by decide) rfl ?_
  refine p_bipush (v := 24) X (dcg dc_X7_bytesOf 2 rfl) (by decide) ?_
  refine p_istore_n X (dcg dc_X7_bytesOf 3 rfl) rfl (by decide) rfl ?_
  refine p_pick [0, 1, 2] ?_
  exact wX7_bytesOf_l5 X hG hnm hf 
theorem dc_X7_addBytes : decs cX7_addBytes [(0, .bipush 24, 2), (2, .istore_n 2, 1), (3, .iload_n 2, 1), (4, .ifCond .lt 51, 3), (7, .iload_n 1, 1), (8, .iload_n 2, 1), (9, .iushr, 1), (10, .sipush 255, 3), (13, .iand, 1), (14, .istore_n 3, 1), (15, .iload_n 3, 1), (16, .ifCond .eq 33, 3), (19, .aload_n 0, 1), (20, .getfield 19, 3), (23, .sipush 300, 3), (26, .if_icmp .ge 23, 3), (29, .aload_n 0, 1), (30, .getfield 11, 3), (33, .aload_n 0, 1), (34, .getfield 19, 3), (37, .iload_n 3, 1), (38, .iastore, 1), (39, .aload_n 0, 1), (40, .dup, 1), (41, .getfield 19, 3), (44, .iconst 1, 1), (45, .iadd, 1), (46, .putfield 19, 3), (49, .iinc 2 (-8), 3), (52, .goto (-49), 3), (55, .return_, 1)] = true := by decide +kernel
noncomputable def fX7_addBytes_b49 (v0 : Nat) (v1 : Int32) (v2 : Int32) (h : PH) : Option ((Int32 × PH) ⊕ PH) :=
  some (.inl ((v2 + (-8)), h))
set_option maxRecDepth 100000 in
theorem mX7_addBytes_b49 {v0 : Nat} {v1 : Int32} {v2 : Int32} {h : PH} {x : ((Int32 × PH) ⊕ PH)} (hf : fX7_addBytes_b49 v0 v1 v2 h = some x) : (∀ w9 : (Int32 × PH), x = .inl w9 → eqz h (hX (w9.2)) (hV (w9.2))) ∧ (∀ w9 : PH, x = .inr w9 → eqz h (hX w9) (hV w9)) := by
  unfold fX7_addBytes_b49 at hf
  have hle := eqz_rf h
  have ee := Option.some.inj hf; subst ee
  exact ⟨(fun z e => by have ee := Sum.inl.inj (e); subst ee; exact hle), (fun z e => nomatch e)⟩
set_option maxRecDepth 100000 in
theorem wX7_addBytes_b49 {E : PE} {p : Program} {l : Launch} {e : Env} {s : State} {m : MethodId} {args : Array Value} {below : List Frame} {meth : Method} {c : Code} (X : Cx E p l e (rmv 0 0 0) s m args below meth c RX7 cX7_addBytes 4 (none)) (hG : Gs E l) (hnm : meth.name = yX7_addBytes.name) {v0 : Nat} {v1 : Int32} {v2 : Int32} {h : PH} {r : PH} {x : ((Int32 × PH) ⊕ PH)} (hf : fX7_addBytes_b49 v0 v1 v2 h = some x) (k0 : ∀ z : (Int32 × PH), x = .inl z → PW E p l e (rmv 0 0 0) s m args below meth c 4 0 0 (MQ below (QG E (fun v u => v = none ∧ u = r)) args s 0 0 (pA E)) (z.2) 3 [(0, some (.ref v0)), (1, some (.int v1)), (2, some (.int (z.1)))] []) (kf : ∀ z : PH, x = .inr z → z = r) : PW E p l e (rmv 0 0 0) s m args below meth c 4 0 0 (MQ below (QG E (fun v u => v = none ∧ u = r)) args s 0 0 (pA E)) h 49 [(0, some (.ref v0)), (1, some (.int v1)), (2, some (.int v2))] [] := by
  unfold fX7_addBytes_b49 at hf
  refine p_iinc (v := -8) X (dcg dc_X7_addBytes 28 rfl) rfl (by decide) (by decide) rfl ?_
  refine p_goto (tgt := 3) X (dcg dc_X7_addBytes 29 rfl) (by decide) ?_
  refine p_pick [0, 1, 2] ?_
  exact k0 _ (Option.some.inj hf).symm
noncomputable def fX7_addBytes_c3 (v0 : Nat) (v1 : Int32) (v2 : Int32) (h : PH) : Option ((Int32 × PH) ⊕ PH) :=
  if (v2 < 0) then (mr (some (h))) else
  if (((Int32.toUInt32 v1 >>> (Int32.toUInt32 v2 &&& Int32.toUInt32 31)).toInt32 &&& (255 : Int32)) = 0) then (fX7_addBytes_b49 v0 v1 v2 h) else
  gd (hK h v0 = 7) (if ((300 : Int32) ≤ (hI h 7 v0 1)) then (fX7_addBytes_b49 v0 v1 v2 h) else
  gs (hR h 7 v0 0) (fun a4 =>
  gd (hK h a4 = 20 ∧ inb (hI h 7 v0 1) (hN h a4)) (lt (sI h 20 a4 (Int32.toNatClampNeg (hI h 7 v0 1)) ((Int32.toUInt32 v1 >>> (Int32.toUInt32 v2 &&& Int32.toUInt32 31)).toInt32 &&& (255 : Int32))) (fun h8 =>
  lt (sI h8 7 v0 1 ((hI h8 7 v0 1) + (1 : Int32))) (fun h9 =>
  fX7_addBytes_b49 v0 v1 v2 h9)))))
set_option maxRecDepth 100000 in
theorem mX7_addBytes_c3 {v0 : Nat} {v1 : Int32} {v2 : Int32} {h : PH} {x : ((Int32 × PH) ⊕ PH)} (hf : fX7_addBytes_c3 v0 v1 v2 h = some x) : (∀ w9 : (Int32 × PH), x = .inl w9 → eqz h (hX (w9.2)) (hV (w9.2))) ∧ (∀ w9 : PH, x = .inr w9 → eqz h (hX w9) (hV w9)) := by
  unfold fX7_addBytes_c3 at hf
  have hle := eqz_rf h
  rcases ite_or hf with ⟨q, hf⟩ | ⟨q, hf⟩
  · have hf := if_t q hf
    obtain ⟨y1, hfm, rfl⟩ := mr_some hf; have hf := hfm; clear hfm
    have ee := Option.some.inj hf; subst ee
    exact ⟨(fun z e => nomatch e), (fun z e => by have ee := Sum.inr.inj (e); subst ee; exact hle)⟩
  · have hf := if_f q hf
    rcases ite_or hf with ⟨q, hf⟩ | ⟨q, hf⟩
    · have hf := if_t q hf
      obtain ⟨c0, cf⟩ := mX7_addBytes_b49 hf
      exact ⟨fun z e => eqz_rt (c0 z (e)) hle, fun z e => eqz_rt (cf z (e)) hle⟩
    · have hf := if_f q hf
      obtain ⟨hk3, hf⟩ := gd_some hf
      rcases ite_or hf with ⟨q, hf⟩ | ⟨q, hf⟩
      · have hf := if_t q hf
        obtain ⟨c0, cf⟩ := mX7_addBytes_b49 hf
        exact ⟨fun z e => eqz_rt (c0 z (e)) hle, fun z e => eqz_rt (cf z (e)) hle⟩
      · have hf := if_f q hf
        obtain ⟨a4, e5, hf⟩ := gs_some hf
        obtain ⟨⟨hk7, hb6⟩, hf⟩ := gd_some hf
        obtain ⟨h8, rfl, hf⟩ := lt_some hf
        obtain ⟨h9, rfl, hf⟩ := lt_some hf
        obtain ⟨c0, cf⟩ := mX7_addBytes_b49 hf
        exact ⟨fun z e => eqz_rt (c0 z (e)) hle, fun z e => eqz_rt (cf z (e)) hle⟩
set_option maxRecDepth 100000 in
theorem wX7_addBytes_c3 {E : PE} {p : Program} {l : Launch} {e : Env} {s : State} {m : MethodId} {args : Array Value} {below : List Frame} {meth : Method} {c : Code} (X : Cx E p l e (rmv 0 0 0) s m args below meth c RX7 cX7_addBytes 4 (none)) (hG : Gs E l) (hnm : meth.name = yX7_addBytes.name) {v0 : Nat} {v1 : Int32} {v2 : Int32} {h : PH} {r : PH} {x : ((Int32 × PH) ⊕ PH)} (hf : fX7_addBytes_c3 v0 v1 v2 h = some x) (k0 : ∀ z : (Int32 × PH), x = .inl z → PW E p l e (rmv 0 0 0) s m args below meth c 4 0 0 (MQ below (QG E (fun v u => v = none ∧ u = r)) args s 0 0 (pA E)) (z.2) 3 [(0, some (.ref v0)), (1, some (.int v1)), (2, some (.int (z.1)))] []) (kf : ∀ z : PH, x = .inr z → z = r) : PW E p l e (rmv 0 0 0) s m args below meth c 4 0 0 (MQ below (QG E (fun v u => v = none ∧ u = r)) args s 0 0 (pA E)) h 3 [(0, some (.ref v0)), (1, some (.int v1)), (2, some (.int v2))] [] := by
  unfold fX7_addBytes_c3 at hf
  refine p_iload_n X (dcg dc_X7_addBytes 2 rfl) rfl rfl ?_
  refine p_if_lt (tgt := 55) X (dcg dc_X7_addBytes 3 rfl) (by decide) (fun q => ?_) (fun q => ?_)
  · have hf := if_t q hf
    obtain ⟨y1, hf, hy2⟩ := mr_some hf
    have hy2f := kf y1 hy2
    subst hy2f
    have er := Option.some.inj hf
    subst er
    exact p_vret X rfl (dcg dc_X7_addBytes 30 rfl) ⟨rfl, rfl⟩ (Nat.le_refl _) (Nat.le_refl _)
  · have hf := if_f q hf
    refine p_iload_n X (dcg dc_X7_addBytes 4 rfl) rfl rfl ?_
    refine p_iload_n X (dcg dc_X7_addBytes 5 rfl) rfl rfl ?_
    refine p_iushr X (dcg dc_X7_addBytes 6 rfl) ?_
    refine p_sipush (v := 255) X (dcg dc_X7_addBytes 7 rfl) (by decide) ?_
    refine p_iand X (dcg dc_X7_addBytes 8 rfl) ?_
    refine p_istore_n X (dcg dc_X7_addBytes 9 rfl) rfl (by decide) rfl ?_
    refine p_iload_n X (dcg dc_X7_addBytes 10 rfl) rfl rfl ?_
    refine p_if_eq (tgt := 49) X (dcg dc_X7_addBytes 11 rfl) (by decide) (fun q => ?_) (fun q => ?_)
    · have hf := if_t q hf
      refine p_pick [0, 1, 2] ?_
      exact wX7_addBytes_b49 X hG hnm hf k0 kf
    · have hf := if_f q hf
      refine p_aload_n X (dcg dc_X7_addBytes 12 rfl) rfl rfl ?_
      obtain ⟨hk3, hf⟩ := gd_some hf
      refine p_getI X fl_X7_19 rfl (by decide) (dcg dc_X7_addBytes 13 rfl) hk3 ?_
      refine p_sipush (v := 300) X (dcg dc_X7_addBytes 14 rfl) (by decide) ?_
      refine p_icmp_ge (tgt := 49) X (dcg dc_X7_addBytes 15 rfl) (by decide) (fun q => ?_) (fun q => ?_)
      · have hf := if_t q hf
        refine p_pick [0, 1, 2] ?_
        exact wX7_addBytes_b49 X hG hnm hf k0 kf
      · have hf := if_f q hf
        refine p_aload_n X (dcg dc_X7_addBytes 16 rfl) rfl rfl ?_
        refine p_getR X fl_X7_11 rfl (by decide) (dcg dc_X7_addBytes 17 rfl) hk3 ?_
        refine p_aload_n X (dcg dc_X7_addBytes 18 rfl) rfl rfl ?_
        refine p_getI X fl_X7_19 rfl (by decide) (dcg dc_X7_addBytes 19 rfl) hk3 ?_
        refine p_iload_n X (dcg dc_X7_addBytes 20 rfl) rfl rfl ?_
        obtain ⟨a4, e5, hf⟩ := gs_some hf
        first | subst e5 | (try rw [e5])
        obtain ⟨⟨hk7, hb6⟩, hf⟩ := gd_some hf
        refine p_iast X (dcg dc_X7_addBytes 21 rfl) hk7 (vp_of_inb hb6) ?_
        obtain ⟨h8, rfl, hf⟩ := lt_some hf
        refine p_aload_n X (dcg dc_X7_addBytes 22 rfl) rfl rfl ?_
        refine p_dup X (dcg dc_X7_addBytes 23 rfl) rfl ?_
        refine p_getI X fl_X7_19 rfl (by decide) (dcg dc_X7_addBytes 24 rfl) hk3 ?_
        refine p_iconst (v := 1) X (dcg dc_X7_addBytes 25 rfl) (by decide) ?_
        refine p_iadd X (dcg dc_X7_addBytes 26 rfl) ?_
        refine p_putI X fl_X7_19 rfl (by decide) (fun q hq => by cases hq; rfl) rfl rfl (dcg dc_X7_addBytes 27 rfl) hk3 ?_
        obtain ⟨h9, rfl, hf⟩ := lt_some hf
        refine p_pick [0, 1, 2] ?_
        exact wX7_addBytes_b49 X hG hnm hf k0 kf
noncomputable def fX7_addBytes_l3 (v0 : Nat) (v1 : Int32) (v2 : Int32) (h : PH) : Option PH := wh (fun z : (Int32 × PH) => fX7_addBytes_c3 v0 v1 (z.1) (z.2)) (v2, h)
set_option maxRecDepth 100000 in
theorem mX7_addBytes_l3 {v0 : Nat} {v1 : Int32} {v2 : Int32} {h : PH} {r : PH} (hf : fX7_addBytes_l3 v0 v1 v2 h = some r) : eqz h (hX r) (hV r) := by
  unfold fX7_addBytes_l3 at hf
  refine wh_ind (P := fun z => eqz (z.2) (hX r) (hV r)) (fun z x0 hs i1 i2 => ?_) _ hf
  obtain ⟨c0, cf⟩ := mX7_addBytes_c3 (v0 := v0) (v1 := v1) (v2 := z.1) (h := z.2) hs
  rcases hxx : x0 with zz | zz
  · exact eqz_tr (c0 zz hxx) (i1 zz hxx)
  · have ee := i2 zz hxx; subst ee; exact cf zz hxx
set_option maxRecDepth 100000 in
theorem wX7_addBytes_l3 {E : PE} {p : Program} {l : Launch} {e : Env} {s : State} {m : MethodId} {args : Array Value} {below : List Frame} {meth : Method} {c : Code} (X : Cx E p l e (rmv 0 0 0) s m args below meth c RX7 cX7_addBytes 4 (none)) (hG : Gs E l) (hnm : meth.name = yX7_addBytes.name) {v0 : Nat} {v1 : Int32} {v2 : Int32} {h : PH} {r : PH} (hf : fX7_addBytes_l3 v0 v1 v2 h = some r)  : PW E p l e (rmv 0 0 0) s m args below meth c 4 0 0 (MQ below (QG E (fun v u => v = none ∧ u = r)) args s 0 0 (pA E)) h 3 [(0, some (.ref v0)), (1, some (.int v1)), (2, some (.int v2))] [] := by
  unfold fX7_addBytes_l3 at hf
  refine wh_ind (P := fun z => PW E p l e (rmv 0 0 0) s m args below meth c 4 0 0 (MQ below (QG E (fun v u => v = none ∧ u = r)) args s 0 0 (pA E)) (z.2) 3 [(0, some (.ref v0)), (1, some (.int v1)), (2, some (.int (z.1)))] []) (fun z x0 hs i1 i2 => ?_) _ hf
  exact wX7_addBytes_c3 (r := r) (v0 := v0) (v1 := v1) (v2 := z.1) (h := z.2) X hG hnm hs i1  i2
noncomputable def fX7_addBytes (v0 : Nat) (v1 : Int32) (h : PH) : Option PH :=
  fX7_addBytes_l3 v0 v1 (24 : Int32) h
set_option maxRecDepth 100000 in
theorem mX7_addBytes {v0 : Nat} {v1 : Int32} {h : PH} {r : PH} (hf : fX7_addBytes v0 v1 h = some r) : eqz h (hX r) (hV r) := by
  unfold fX7_addBytes at hf
  have hle := eqz_rf h
  exact eqz_rt (mX7_addBytes_l3 hf) hle
set_option maxRecDepth 100000 in
theorem wX7_addBytes {E : PE} {l : Launch} (hG : Gs E l) {v0 : Nat} {v1 : Int32} {h : PH} {r : PH} (hf : fX7_addBytes v0 v1 h = some r) : Ct E l 0 0 0 yX7_addBytes cX7_addBytes 4 (none) [.ref v0, .int v1] h (fun v u => v = none ∧ u = r) := by
  refine ct_of hG (by decide) (Nat.le_of_ble_eq_true rfl) ?_
  intro p e s m args below meth c X hnm
  show PW E p l e _ s m args below meth c _ 0 0 _ h 0 [(0, some (.ref v0)), (1, some (.int v1))] []
  unfold fX7_addBytes at hf
  refine p_bipush (v := 24) X (dcg dc_X7_addBytes 0 rfl) (by decide) ?_
  refine p_istore_n X (dcg dc_X7_addBytes 1 rfl) rfl (by decide) rfl ?_
  refine p_pick [0, 1, 2] ?_
  exact wX7_addBytes_l3 X hG hnm hf 
theorem dc_X7_letterAtByte : decs cX7_letterAtByte [(0, .iload_n 0, 1), (1, .bipush 97, 2), (3, .if_icmp .lt 16, 3), (6, .iload_n 0, 1), (7, .bipush 122, 2), (9, .if_icmp .gt 10, 3), (12, .iload_n 0, 1), (13, .bipush 97, 2), (15, .isub, 1), (16, .iconst 1, 1), (17, .iadd, 1), (18, .ireturn, 1), (19, .iload_n 0, 1), (20, .bipush 65, 2), (22, .if_icmp .lt 18, 3), (25, .iload_n 0, 1), (26, .bipush 90, 2), (28, .if_icmp .gt 12, 3), (31, .iload_n 0, 1), (32, .bipush 65, 2), (34, .isub, 1), (35, .iconst 1, 1), (36, .iadd, 1), (37, .goto 4, 3), (40, .iconst 0, 1), (41, .ireturn, 1)] = true := by decide +kernel
noncomputable def fX7_letterAtByte_b41 (t0 : Int32) : Option Int32 :=
  some (t0)
set_option maxRecDepth 100000 in
theorem wX7_letterAtByte_b41 {E : PE} {p : Program} {l : Launch} {e : Env} {s : State} {m : MethodId} {args : Array Value} {below : List Frame} {meth : Method} {c : Code} (X : Cx E p l e (rmv 0 0 0) s m args below meth c RX7 cX7_letterAtByte 1 (some .int)) (hG : Gs E l) (hnm : meth.name = yX7_letterAtByte.name) {t0 : Int32} {h : PH} {r : Int32} (hf : fX7_letterAtByte_b41 t0 = some r)  : PW E p l e (rmv 0 0 0) s m args below meth c 1 0 0 (MQ below (QG E (fun v u => v = some (.int r) ∧ u = h)) args s 0 0 (pA E)) h 41 [] [.int t0] := by
  unfold fX7_letterAtByte_b41 at hf
  have er := Option.some.inj hf
  subst er
  exact p_iret X rfl (dcg dc_X7_letterAtByte 25 rfl) ⟨rfl, rfl⟩ (Nat.le_refl _) (Nat.le_refl _)
noncomputable def fX7_letterAtByte_b40  : Option Int32 :=
  fX7_letterAtByte_b41 (0 : Int32)
set_option maxRecDepth 100000 in
theorem wX7_letterAtByte_b40 {E : PE} {p : Program} {l : Launch} {e : Env} {s : State} {m : MethodId} {args : Array Value} {below : List Frame} {meth : Method} {c : Code} (X : Cx E p l e (rmv 0 0 0) s m args below meth c RX7 cX7_letterAtByte 1 (some .int)) (hG : Gs E l) (hnm : meth.name = yX7_letterAtByte.name)  {h : PH} {r : Int32} (hf : fX7_letterAtByte_b40  = some r)  : PW E p l e (rmv 0 0 0) s m args below meth c 1 0 0 (MQ below (QG E (fun v u => v = some (.int r) ∧ u = h)) args s 0 0 (pA E)) h 40 [] [] := by
  unfold fX7_letterAtByte_b40 at hf
  refine p_iconst (v := 0) X (dcg dc_X7_letterAtByte 24 rfl) (by decide) ?_
  refine p_pick [] ?_
  exact wX7_letterAtByte_b41 X hG hnm hf 
noncomputable def fX7_letterAtByte_b19 (v0 : Int32) : Option Int32 :=
  if (v0 < (65 : Int32)) then (fX7_letterAtByte_b40 ) else
  if ((90 : Int32) < v0) then (fX7_letterAtByte_b40 ) else
  fX7_letterAtByte_b41 ((v0 - (65 : Int32)) + (1 : Int32))
set_option maxRecDepth 100000 in
theorem wX7_letterAtByte_b19 {E : PE} {p : Program} {l : Launch} {e : Env} {s : State} {m : MethodId} {args : Array Value} {below : List Frame} {meth : Method} {c : Code} (X : Cx E p l e (rmv 0 0 0) s m args below meth c RX7 cX7_letterAtByte 1 (some .int)) (hG : Gs E l) (hnm : meth.name = yX7_letterAtByte.name) {v0 : Int32} {h : PH} {r : Int32} (hf : fX7_letterAtByte_b19 v0 = some r)  : PW E p l e (rmv 0 0 0) s m args below meth c 1 0 0 (MQ below (QG E (fun v u => v = some (.int r) ∧ u = h)) args s 0 0 (pA E)) h 19 [(0, some (.int v0))] [] := by
  unfold fX7_letterAtByte_b19 at hf
  refine p_iload_n X (dcg dc_X7_letterAtByte 12 rfl) rfl rfl ?_
  refine p_bipush (v := 65) X (dcg dc_X7_letterAtByte 13 rfl) (by decide) ?_
  refine p_icmp_lt (tgt := 40) X (dcg dc_X7_letterAtByte 14 rfl) (by decide) (fun q => ?_) (fun q => ?_)
  · have hf := if_t q hf
    refine p_pick [] ?_
    exact wX7_letterAtByte_b40 X hG hnm hf 
  · have hf := if_f q hf
    refine p_iload_n X (dcg dc_X7_letterAtByte 15 rfl) rfl rfl ?_
    refine p_bipush (v := 90) X (dcg dc_X7_letterAtByte 16 rfl) (by decide) ?_
    refine p_icmp_gt (tgt := 40) X (dcg dc_X7_letterAtByte 17 rfl) (by decide) (fun q => ?_) (fun q => ?_)
    · have hf := if_t q hf
      refine p_pick [] ?_
      exact wX7_letterAtByte_b40 X hG hnm hf 
    · have hf := if_f q hf
      refine p_iload_n X (dcg dc_X7_letterAtByte 18 rfl) rfl rfl ?_
      refine p_bipush (v := 65) X (dcg dc_X7_letterAtByte 19 rfl) (by decide) ?_
      refine p_isub X (dcg dc_X7_letterAtByte 20 rfl) ?_
      refine p_iconst (v := 1) X (dcg dc_X7_letterAtByte 21 rfl) (by decide) ?_
      refine p_iadd X (dcg dc_X7_letterAtByte 22 rfl) ?_
      refine p_goto (tgt := 41) X (dcg dc_X7_letterAtByte 23 rfl) (by decide) ?_
      refine p_pick [] ?_
      exact wX7_letterAtByte_b41 X hG hnm hf 
noncomputable def fX7_letterAtByte (v0 : Int32) : Option Int32 :=
  if (v0 < (97 : Int32)) then (fX7_letterAtByte_b19 v0) else
  if ((122 : Int32) < v0) then (fX7_letterAtByte_b19 v0) else
  some (((v0 - (97 : Int32)) + (1 : Int32)))
set_option maxRecDepth 100000 in
theorem wX7_letterAtByte {E : PE} {l : Launch} (hG : Gs E l) {v0 : Int32} {h : PH} {r : Int32} (hf : fX7_letterAtByte v0 = some r) : Ct E l 0 0 0 yX7_letterAtByte cX7_letterAtByte 1 (some .int) [.int v0] h (fun v u => v = some (.int r) ∧ u = h) := by
  refine ct_of hG (by decide) (Nat.le_of_ble_eq_true rfl) ?_
  intro p e s m args below meth c X hnm
  show PW E p l e _ s m args below meth c _ 0 0 _ h 0 [(0, some (.int v0))] []
  unfold fX7_letterAtByte at hf
  refine p_iload_n X (dcg dc_X7_letterAtByte 0 rfl) rfl rfl ?_
  refine p_bipush (v := 97) X (dcg dc_X7_letterAtByte 1 rfl) (by decide) ?_
  refine p_icmp_lt (tgt := 19) X (dcg dc_X7_letterAtByte 2 rfl) (by decide) (fun q => ?_) (fun q => ?_)
  · have hf := if_t q hf
    refine p_pick [0] ?_
    exact wX7_letterAtByte_b19 X hG hnm hf 
  · have hf := if_f q hf
    refine p_iload_n X (dcg dc_X7_letterAtByte 3 rfl) rfl rfl ?_
    refine p_bipush (v := 122) X (dcg dc_X7_letterAtByte 4 rfl) (by decide) ?_
    refine p_icmp_gt (tgt := 19) X (dcg dc_X7_letterAtByte 5 rfl) (by decide) (fun q => ?_) (fun q => ?_)
    · have hf := if_t q hf
      refine p_pick [0] ?_
      exact wX7_letterAtByte_b19 X hG hnm hf 
    · have hf := if_f q hf
      refine p_iload_n X (dcg dc_X7_letterAtByte 6 rfl) rfl rfl ?_
      refine p_bipush (v := 97) X (dcg dc_X7_letterAtByte 7 rfl) (by decide) ?_
      refine p_isub X (dcg dc_X7_letterAtByte 8 rfl) ?_
      refine p_iconst (v := 1) X (dcg dc_X7_letterAtByte 9 rfl) (by decide) ?_
      refine p_iadd X (dcg dc_X7_letterAtByte 10 rfl) ?_
      have er := Option.some.inj hf
      subst er
      exact p_iret X rfl (dcg dc_X7_letterAtByte 11 rfl) ⟨rfl, rfl⟩ (Nat.le_refl _) (Nat.le_refl _)
theorem dc_X7_fillText : decs cX7_fillText [(0, .iconst 0, 1), (1, .istore_n 2, 1), (2, .iconst 0, 1), (3, .istore_n 3, 1), (4, .iconst 0, 1), (5, .istore 4, 2), (7, .iload 4, 2), (9, .aload_n 0, 1), (10, .getfield 19, 3), (13, .if_icmp .ge 75, 3), (16, .aload_n 0, 1), (17, .getfield 11, 3), (20, .iload 4, 2), (22, .iaload, 1), (23, .invokestatic 33, 3), (26, .istore 5, 2), (28, .iload 5, 2), (30, .ifCond .ne 19, 3), (33, .iload_n 2, 1), (34, .ifCond .le 8, 3), (37, .aload_n 1, 1), (38, .iload_n 3, 1), (39, .invokevirtual 37, 3), (42, .iconst 0, 1), (43, .istore_n 2, 1), (44, .iconst 0, 1), (45, .istore_n 3, 1), (46, .goto 36, 3), (49, .iinc 2 1, 3), (52, .iload_n 3, 1), (53, .bipush 27, 2), (55, .imul, 1), (56, .iload 5, 2), (58, .iadd, 1), (59, .istore_n 3, 1), (60, .iload_n 2, 1), (61, .bipush 6, 2), (63, .if_icmp .gt 12, 3), (66, .aload_n 1, 1), (67, .invokevirtual 42, 3), (70, .bipush 40, 2), (72, .if_icmp .ne 10, 3), (75, .iload 4, 2), (77, .iload_n 2, 1), (78, .isub, 1), (79, .iconst 1, 1), (80, .iadd, 1), (81, .ireturn, 1), (82, .iinc 4 1, 3), (85, .goto (-78), 3), (88, .iload_n 2, 1), (89, .ifCond .le 8, 3), (92, .aload_n 1, 1), (93, .iload_n 3, 1), (94, .invokevirtual 37, 3), (97, .iconst (-1), 1), (98, .ireturn, 1)] = true := by decide +kernel
noncomputable def fX7_fillText_b97  (h : PH) : Option (Int32 × PH) :=
  some (((-1 : Int32), h))
set_option maxRecDepth 100000 in
theorem mX7_fillText_b97  {h : PH} {r : (Int32 × PH)} (hf : fX7_fillText_b97  h = some r) : eqz h (hX r.2) (hV r.2) := by
  unfold fX7_fillText_b97 at hf
  have hle := eqz_rf h
  have ee := Option.some.inj hf; subst ee; exact hle
set_option maxRecDepth 100000 in
theorem wX7_fillText_b97 {E : PE} {p : Program} {l : Launch} {e : Env} {s : State} {m : MethodId} {args : Array Value} {below : List Frame} {meth : Method} {c : Code} (X : Cx E p l e (rmv 1 0 0) s m args below meth c RX7 cX7_fillText 6 (some .int)) (hG : Gs E l) (hnm : meth.name = yX7_fillText.name)  {h : PH} {r : (Int32 × PH)} (hf : fX7_fillText_b97  h = some r)  : PW E p l e (rmv 1 0 0) s m args below meth c 6 0 0 (MQ below (QG E (fun v u => v = some (.int r.1) ∧ u = r.2)) args s 0 0 (pA E)) h 97 [] [] := by
  unfold fX7_fillText_b97 at hf
  refine p_iconst (v := -1) X (dcg dc_X7_fillText 55 rfl) (by decide) ?_
  have er := Option.some.inj hf
  subst er
  exact p_iret X rfl (dcg dc_X7_fillText 56 rfl) ⟨rfl, rfl⟩ (Nat.le_refl _) (Nat.le_refl _)
noncomputable def fX7_fillText_b75 (v2 : Int32) (v4 : Int32) (h : PH) : Option (Int32 × PH) :=
  some ((((v4 - v2) + (1 : Int32)), h))
set_option maxRecDepth 100000 in
theorem mX7_fillText_b75 {v2 : Int32} {v4 : Int32} {h : PH} {r : (Int32 × PH)} (hf : fX7_fillText_b75 v2 v4 h = some r) : eqz h (hX r.2) (hV r.2) := by
  unfold fX7_fillText_b75 at hf
  have hle := eqz_rf h
  have ee := Option.some.inj hf; subst ee; exact hle
set_option maxRecDepth 100000 in
theorem wX7_fillText_b75 {E : PE} {p : Program} {l : Launch} {e : Env} {s : State} {m : MethodId} {args : Array Value} {below : List Frame} {meth : Method} {c : Code} (X : Cx E p l e (rmv 1 0 0) s m args below meth c RX7 cX7_fillText 6 (some .int)) (hG : Gs E l) (hnm : meth.name = yX7_fillText.name) {v2 : Int32} {v4 : Int32} {h : PH} {r : (Int32 × PH)} (hf : fX7_fillText_b75 v2 v4 h = some r)  : PW E p l e (rmv 1 0 0) s m args below meth c 6 0 0 (MQ below (QG E (fun v u => v = some (.int r.1) ∧ u = r.2)) args s 0 0 (pA E)) h 75 [(2, some (.int v2)), (4, some (.int v4))] [] := by
  unfold fX7_fillText_b75 at hf
  refine p_iload X (dcg dc_X7_fillText 42 rfl) rfl ?_
  refine p_iload_n X (dcg dc_X7_fillText 43 rfl) rfl rfl ?_
  refine p_isub X (dcg dc_X7_fillText 44 rfl) ?_
  refine p_iconst (v := 1) X (dcg dc_X7_fillText 45 rfl) (by decide) ?_
  refine p_iadd X (dcg dc_X7_fillText 46 rfl) ?_
  have er := Option.some.inj hf
  subst er
  exact p_iret X rfl (dcg dc_X7_fillText 47 rfl) ⟨rfl, rfl⟩ (Nat.le_refl _) (Nat.le_refl _)
noncomputable def fX7_fillText_b82 (v0 : Nat) (v1 : Option Nat) (v2 : Int32) (v3 : Int32) (v4 : Int32) (h : PH) : Option ((Int32 × Int32 × Int32 × PH) ⊕ (Int32 × PH)) :=
  some (.inl (v2, v3, (v4 + 1), h))
set_option maxRecDepth 100000 in
theorem mX7_fillText_b82 {v0 : Nat} {v1 : Option Nat} {v2 : Int32} {v3 : Int32} {v4 : Int32} {h : PH} {x : ((Int32 × Int32 × Int32 × PH) ⊕ (Int32 × PH))} (hf : fX7_fillText_b82 v0 v1 v2 v3 v4 h = some x) : (∀ w9 : (Int32 × Int32 × Int32 × PH), x = .inl w9 → eqz h (hX (w9.2.2.2)) (hV (w9.2.2.2))) ∧ (∀ w9 : (Int32 × PH), x = .inr w9 → eqz h (hX w9.2) (hV w9.2)) := by
  unfold fX7_fillText_b82 at hf
  have hle := eqz_rf h
  have ee := Option.some.inj hf; subst ee
  exact ⟨(fun z e => by have ee := Sum.inl.inj (e); subst ee; exact hle), (fun z e => nomatch e)⟩
set_option maxRecDepth 100000 in
theorem wX7_fillText_b82 {E : PE} {p : Program} {l : Launch} {e : Env} {s : State} {m : MethodId} {args : Array Value} {below : List Frame} {meth : Method} {c : Code} (X : Cx E p l e (rmv 1 0 0) s m args below meth c RX7 cX7_fillText 6 (some .int)) (hG : Gs E l) (hnm : meth.name = yX7_fillText.name) {v0 : Nat} {v1 : Option Nat} {v2 : Int32} {v3 : Int32} {v4 : Int32} {h : PH} {r : (Int32 × PH)} {x : ((Int32 × Int32 × Int32 × PH) ⊕ (Int32 × PH))} (hf : fX7_fillText_b82 v0 v1 v2 v3 v4 h = some x) (k0 : ∀ z : (Int32 × Int32 × Int32 × PH), x = .inl z → PW E p l e (rmv 1 0 0) s m args below meth c 6 0 0 (MQ below (QG E (fun v u => v = some (.int r.1) ∧ u = r.2)) args s 0 0 (pA E)) (z.2.2.2) 7 [(0, some (.ref v0)), (1, some (va_rf v1)), (2, some (.int (z.1))), (3, some (.int (z.2.1))), (4, some (.int (z.2.2.1)))] []) (kf : ∀ z : (Int32 × PH), x = .inr z → z = r) : PW E p l e (rmv 1 0 0) s m args below meth c 6 0 0 (MQ below (QG E (fun v u => v = some (.int r.1) ∧ u = r.2)) args s 0 0 (pA E)) h 82 [(0, some (.ref v0)), (1, some (va_rf v1)), (2, some (.int v2)), (3, some (.int v3)), (4, some (.int v4))] [] := by
  unfold fX7_fillText_b82 at hf
  refine p_iinc (v := 1) X (dcg dc_X7_fillText 48 rfl) rfl (by decide) (by decide) rfl ?_
  refine p_goto (tgt := 7) X (dcg dc_X7_fillText 49 rfl) (by decide) ?_
  refine p_pick [0, 1, 2, 3, 4] ?_
  exact k0 _ (Option.some.inj hf).symm
noncomputable def fX7_fillText_b42 (v0 : Nat) (v1 : Option Nat) (v4 : Int32) (h : PH) : Option ((Int32 × Int32 × Int32 × PH) ⊕ (Int32 × PH)) :=
  fX7_fillText_b82 v0 v1 (0 : Int32) (0 : Int32) v4 h
set_option maxRecDepth 100000 in
theorem mX7_fillText_b42 {v0 : Nat} {v1 : Option Nat} {v4 : Int32} {h : PH} {x : ((Int32 × Int32 × Int32 × PH) ⊕ (Int32 × PH))} (hf : fX7_fillText_b42 v0 v1 v4 h = some x) : (∀ w9 : (Int32 × Int32 × Int32 × PH), x = .inl w9 → eqz h (hX (w9.2.2.2)) (hV (w9.2.2.2))) ∧ (∀ w9 : (Int32 × PH), x = .inr w9 → eqz h (hX w9.2) (hV w9.2)) := by
  unfold fX7_fillText_b42 at hf
  have hle := eqz_rf h
  obtain ⟨c0, cf⟩ := mX7_fillText_b82 hf
  exact ⟨fun z e => eqz_rt (c0 z (e)) hle, fun z e => eqz_rt (cf z (e)) hle⟩
set_option maxRecDepth 100000 in
theorem wX7_fillText_b42 {E : PE} {p : Program} {l : Launch} {e : Env} {s : State} {m : MethodId} {args : Array Value} {below : List Frame} {meth : Method} {c : Code} (X : Cx E p l e (rmv 1 0 0) s m args below meth c RX7 cX7_fillText 6 (some .int)) (hG : Gs E l) (hnm : meth.name = yX7_fillText.name) {v0 : Nat} {v1 : Option Nat} {v4 : Int32} {h : PH} {r : (Int32 × PH)} {x : ((Int32 × Int32 × Int32 × PH) ⊕ (Int32 × PH))} (hf : fX7_fillText_b42 v0 v1 v4 h = some x) (k0 : ∀ z : (Int32 × Int32 × Int32 × PH), x = .inl z → PW E p l e (rmv 1 0 0) s m args below meth c 6 0 0 (MQ below (QG E (fun v u => v = some (.int r.1) ∧ u = r.2)) args s 0 0 (pA E)) (z.2.2.2) 7 [(0, some (.ref v0)), (1, some (va_rf v1)), (2, some (.int (z.1))), (3, some (.int (z.2.1))), (4, some (.int (z.2.2.1)))] []) (kf : ∀ z : (Int32 × PH), x = .inr z → z = r) : PW E p l e (rmv 1 0 0) s m args below meth c 6 0 0 (MQ below (QG E (fun v u => v = some (.int r.1) ∧ u = r.2)) args s 0 0 (pA E)) h 42 [(0, some (.ref v0)), (1, some (va_rf v1)), (4, some (.int v4))] [] := by
  unfold fX7_fillText_b42 at hf
  refine p_iconst (v := 0) X (dcg dc_X7_fillText 23 rfl) (by decide) ?_
  refine p_istore_n X (dcg dc_X7_fillText 24 rfl) rfl (by decide) (nwq (k := 1) rfl) ?_
  refine p_iconst (v := 0) X (dcg dc_X7_fillText 25 rfl) (by decide) ?_
  refine p_istore_n X (dcg dc_X7_fillText 26 rfl) rfl (by decide) rfl ?_
  refine p_goto (tgt := 82) X (dcg dc_X7_fillText 27 rfl) (by decide) ?_
  refine p_pick [0, 1, 2, 3, 4] ?_
  exact wX7_fillText_b82 X hG hnm hf k0 kf
noncomputable def fX7_fillText_c7 (v0 : Nat) (v1 : Option Nat) (v2 : Int32) (v3 : Int32) (v4 : Int32) (h : PH) : Option ((Int32 × Int32 × Int32 × PH) ⊕ (Int32 × PH)) :=
  gd (hK h v0 = 7) (if ((hI h 7 v0 1) ≤ v4) then (mr (if (v2 ≤ 0) then (fX7_fillText_b97  h) else
  gs v1 (fun a4 =>
  gd (hK h a4 = 8) (bd (fX8_add a4 v3 h) (fun z7 =>
  fX7_fillText_b97  z7))))) else
  gs (hR h 7 v0 0) (fun a8 =>
  gd (hK h a8 = 20 ∧ inb v4 (hN h a8)) (bd (fX7_letterAtByte (hI h 20 a8 (Int32.toNatClampNeg v4))) (fun z12 =>
  if (¬ z12 = 0) then (if ((6 : Int32) < (v2 + 1)) then (mr (fX7_fillText_b75 (v2 + 1) v4 h)) else
  gs v1 (fun a15 =>
  gd (hK h a15 = 8) (bd (fX8_size a15 h) (fun z18 =>
  if (¬ z18 = (40 : Int32)) then (fX7_fillText_b82 v0 (some a15) (v2 + 1) ((v3 * (27 : Int32)) + z12) v4 h) else
  mr (fX7_fillText_b75 (v2 + 1) v4 h))))) else
  if (v2 ≤ 0) then (fX7_fillText_b42 v0 v1 v4 h) else
  gs v1 (fun a21 =>
  gd (hK h a21 = 8) (bd (fX8_add a21 v3 h) (fun z24 =>
  fX7_fillText_b42 v0 (some a21) v4 z24)))))))
set_option maxRecDepth 100000 in
theorem mX7_fillText_c7 {v0 : Nat} {v1 : Option Nat} {v2 : Int32} {v3 : Int32} {v4 : Int32} {h : PH} {x : ((Int32 × Int32 × Int32 × PH) ⊕ (Int32 × PH))} (hf : fX7_fillText_c7 v0 v1 v2 v3 v4 h = some x) : (∀ w9 : (Int32 × Int32 × Int32 × PH), x = .inl w9 → eqz h (hX (w9.2.2.2)) (hV (w9.2.2.2))) ∧ (∀ w9 : (Int32 × PH), x = .inr w9 → eqz h (hX w9.2) (hV w9.2)) := by
  unfold fX7_fillText_c7 at hf
  have hle := eqz_rf h
  obtain ⟨hk1, hf⟩ := gd_some hf
  rcases ite_or hf with ⟨q, hf⟩ | ⟨q, hf⟩
  · have hf := if_t q hf
    obtain ⟨y2, hfm, rfl⟩ := mr_some hf; have hf := hfm; clear hfm
    rcases ite_or hf with ⟨q, hf⟩ | ⟨q, hf⟩
    · have hf := if_t q hf
      have cf := mX7_fillText_b97 hf
      exact ⟨(fun z e => nomatch e), (fun z e => by cases e <;> exact eqz_rt cf hle)⟩
    · have hf := if_f q hf
      obtain ⟨a4, e5, hf⟩ := gs_some hf
      obtain ⟨hk6, hf⟩ := gd_some hf
      obtain ⟨z7, hz7, hf⟩ := bd_some hf
      have hle := eqz_rt (mX8_add hz7) hle
      have cf := mX7_fillText_b97 hf
      exact ⟨(fun z e => nomatch e), (fun z e => by cases e <;> exact eqz_rt cf hle)⟩
  · have hf := if_f q hf
    obtain ⟨a8, e9, hf⟩ := gs_some hf
    obtain ⟨⟨hk11, hb10⟩, hf⟩ := gd_some hf
    obtain ⟨z12, hz12, hf⟩ := bd_some hf
    rcases ite_or hf with ⟨q, hf⟩ | ⟨q, hf⟩
    · have hf := if_t q hf
      rcases ite_or hf with ⟨q, hf⟩ | ⟨q, hf⟩
      · have hf := if_t q hf
        obtain ⟨y13, hfm, rfl⟩ := mr_some hf; have hf := hfm; clear hfm
        have cf := mX7_fillText_b75 hf
        exact ⟨(fun z e => nomatch e), (fun z e => by cases e <;> exact eqz_rt cf hle)⟩
      · have hf := if_f q hf
        obtain ⟨a15, e16, hf⟩ := gs_some hf
        obtain ⟨hk17, hf⟩ := gd_some hf
        obtain ⟨z18, hz18, hf⟩ := bd_some hf
        rcases ite_or hf with ⟨q, hf⟩ | ⟨q, hf⟩
        · have hf := if_t q hf
          obtain ⟨c0, cf⟩ := mX7_fillText_b82 hf
          exact ⟨fun z e => eqz_rt (c0 z (e)) hle, fun z e => eqz_rt (cf z (e)) hle⟩
        · have hf := if_f q hf
          obtain ⟨y19, hfm, rfl⟩ := mr_some hf; have hf := hfm; clear hfm
          have cf := mX7_fillText_b75 hf
          exact ⟨(fun z e => nomatch e), (fun z e => by cases e <;> exact eqz_rt cf hle)⟩
    · have hf := if_f q hf
      rcases ite_or hf with ⟨q, hf⟩ | ⟨q, hf⟩
      · have hf := if_t q hf
        obtain ⟨c0, cf⟩ := mX7_fillText_b42 hf
        exact ⟨fun z e => eqz_rt (c0 z (e)) hle, fun z e => eqz_rt (cf z (e)) hle⟩
      · have hf := if_f q hf
        obtain ⟨a21, e22, hf⟩ := gs_some hf
        obtain ⟨hk23, hf⟩ := gd_some hf
        obtain ⟨z24, hz24, hf⟩ := bd_some hf
        have hle := eqz_rt (mX8_add hz24) hle
        obtain ⟨c0, cf⟩ := mX7_fillText_b42 hf
        exact ⟨fun z e => eqz_rt (c0 z (e)) hle, fun z e => eqz_rt (cf z (e)) hle⟩
set_option maxRecDepth 100000 in
theorem wX7_fillText_c7 {E : PE} {p : Program} {l : Launch} {e : Env} {s : State} {m : MethodId} {args : Array Value} {below : List Frame} {meth : Method} {c : Code} (X : Cx E p l e (rmv 1 0 0) s m args below meth c RX7 cX7_fillText 6 (some .int)) (hG : Gs E l) (hnm : meth.name = yX7_fillText.name) {v0 : Nat} {v1 : Option Nat} {v2 : Int32} {v3 : Int32} {v4 : Int32} {h : PH} {r : (Int32 × PH)} {x : ((Int32 × Int32 × Int32 × PH) ⊕ (Int32 × PH))} (hf : fX7_fillText_c7 v0 v1 v2 v3 v4 h = some x) (k0 : ∀ z : (Int32 × Int32 × Int32 × PH), x = .inl z → PW E p l e (rmv 1 0 0) s m args below meth c 6 0 0 (MQ below (QG E (fun v u => v = some (.int r.1) ∧ u = r.2)) args s 0 0 (pA E)) (z.2.2.2) 7 [(0, some (.ref v0)), (1, some (va_rf v1)), (2, some (.int (z.1))), (3, some (.int (z.2.1))), (4, some (.int (z.2.2.1)))] []) (kf : ∀ z : (Int32 × PH), x = .inr z → z = r) : PW E p l e (rmv 1 0 0) s m args below meth c 6 0 0 (MQ below (QG E (fun v u => v = some (.int r.1) ∧ u = r.2)) args s 0 0 (pA E)) h 7 [(0, some (.ref v0)), (1, some (va_rf v1)), (2, some (.int v2)), (3, some (.int v3)), (4, some (.int v4))] [] := by
  unfold fX7_fillText_c7 at hf
  refine p_iload X (dcg dc_X7_fillText 6 rfl) rfl ?_
  refine p_aload_n X (dcg dc_X7_fillText 7 rfl) rfl rfl ?_
  obtain ⟨hk1, hf⟩ := gd_some hf
  refine p_getI X fl_X7_19 rfl (by decide) (dcg dc_X7_fillText 8 rfl) hk1 ?_
  refine p_icmp_ge (tgt := 88) X (dcg dc_X7_fillText 9 rfl) (by decide) (fun q => ?_) (fun q => ?_)
  · have hf := if_t q hf
    obtain ⟨y2, hf, hy3⟩ := mr_some hf
    have hy3f := kf y2 hy3
    subst hy3f
    refine p_iload_n X (dcg dc_X7_fillText 50 rfl) rfl rfl ?_
    refine p_if_le (tgt := 97) X (dcg dc_X7_fillText 51 rfl) (by decide) (fun q => ?_) (fun q => ?_)
    · have hf := if_t q hf
      refine p_pick [] ?_
      exact wX7_fillText_b97 X hG hnm hf 
    · have hf := if_f q hf
      refine p_aloadq_n X (dcg dc_X7_fillText 52 rfl) rfl rfl ?_
      refine p_iload_n X (dcg dc_X7_fillText 53 rfl) rfl rfl ?_
      obtain ⟨a4, e5, hf⟩ := gs_some hf
      first | subst e5 | (try rw [e5])
      obtain ⟨hk6, hf⟩ := gd_some hf
      obtain ⟨z7, hz7, hf⟩ := bd_some hf
      refine p_callV (As := [_]) X ml_X7_37 (dcg dc_X7_fillText 54 rfl) rfl rfl hk6 (wX8_add hG hz7) (by decide) (room4 (Nat.le_of_ble_eq_true rfl)) (Nat.le_refl _) (Nat.le_refl _) ?_
      rintro _ u9 ⟨rfl, e9⟩; have e9 := e9.symm; subst e9
      refine p_pick [] ?_
      exact wX7_fillText_b97 X hG hnm hf 
  · have hf := if_f q hf
    refine p_aload_n X (dcg dc_X7_fillText 10 rfl) rfl rfl ?_
    refine p_getR X fl_X7_11 rfl (by decide) (dcg dc_X7_fillText 11 rfl) hk1 ?_
    refine p_iload X (dcg dc_X7_fillText 12 rfl) rfl ?_
    obtain ⟨a8, e9, hf⟩ := gs_some hf
    first | subst e9 | (try rw [e9])
    obtain ⟨⟨hk11, hb10⟩, hf⟩ := gd_some hf
    refine p_iald X (dcg dc_X7_fillText 13 rfl) hk11 (vp_of_inb hb10) ?_
    obtain ⟨z12, hz12, hf⟩ := bd_some hf
    refine p_callS (As := [_]) X ml_X7_33 (dcg dc_X7_fillText 14 rfl) rfl rfl  (wX7_letterAtByte hG hz12) (by decide) (room4 (Nat.le_of_ble_eq_true rfl)) (Nat.le_refl _) (Nat.le_refl _) ?_
    rintro _ u9 ⟨rfl, e9⟩; have e9 := e9.symm; subst e9
    refine p_istore X (dcg dc_X7_fillText 15 rfl) (by decide) rfl ?_
    refine p_iload X (dcg dc_X7_fillText 16 rfl) rfl ?_
    refine p_if_ne (tgt := 49) X (dcg dc_X7_fillText 17 rfl) (by decide) (fun q => ?_) (fun q => ?_)
    · have hf := if_t q hf
      refine p_iinc (v := 1) X (dcg dc_X7_fillText 28 rfl) rfl (by decide) (by decide) (nwq (k := 1) rfl) ?_
      refine p_iload_n X (dcg dc_X7_fillText 29 rfl) rfl rfl ?_
      refine p_bipush (v := 27) X (dcg dc_X7_fillText 30 rfl) (by decide) ?_
      refine p_imul X (dcg dc_X7_fillText 31 rfl) ?_
      refine p_iload X (dcg dc_X7_fillText 32 rfl) rfl ?_
      refine p_iadd X (dcg dc_X7_fillText 33 rfl) ?_
      refine p_istore_n X (dcg dc_X7_fillText 34 rfl) rfl (by decide) rfl ?_
      refine p_iload_n X (dcg dc_X7_fillText 35 rfl) rfl rfl ?_
      refine p_bipush (v := 6) X (dcg dc_X7_fillText 36 rfl) (by decide) ?_
      refine p_icmp_gt (tgt := 75) X (dcg dc_X7_fillText 37 rfl) (by decide) (fun q => ?_) (fun q => ?_)
      · have hf := if_t q hf
        obtain ⟨y13, hf, hy14⟩ := mr_some hf
        have hy14f := kf y13 hy14
        subst hy14f
        refine p_pick [2, 4] ?_
        exact wX7_fillText_b75 X hG hnm hf 
      · have hf := if_f q hf
        refine p_aloadq_n X (dcg dc_X7_fillText 38 rfl) rfl rfl ?_
        obtain ⟨a15, e16, hf⟩ := gs_some hf
        first | subst e16 | (try rw [e16])
        obtain ⟨hk17, hf⟩ := gd_some hf
        obtain ⟨z18, hz18, hf⟩ := bd_some hf
        refine p_callV (As := []) X ml_X7_42 (dcg dc_X7_fillText 39 rfl) rfl rfl hk17 (wX8_size hG hz18) (by decide) (room4 (Nat.le_of_ble_eq_true rfl)) (Nat.le_refl _) (Nat.le_refl _) ?_
        rintro _ u9 ⟨rfl, e9⟩; have e9 := e9.symm; subst e9
        refine p_bipush (v := 40) X (dcg dc_X7_fillText 40 rfl) (by decide) ?_
        refine p_icmp_ne (tgt := 82) X (dcg dc_X7_fillText 41 rfl) (by decide) (fun q => ?_) (fun q => ?_)
        · have hf := if_t q hf
          refine p_pick [0, 1, 2, 3, 4] ?_
          exact wX7_fillText_b82 X hG hnm hf k0 kf
        · have hf := if_f q hf
          obtain ⟨y19, hf, hy20⟩ := mr_some hf
          have hy20f := kf y19 hy20
          subst hy20f
          refine p_pick [2, 4] ?_
          exact wX7_fillText_b75 X hG hnm hf 
    · have hf := if_f q hf
      refine p_iload_n X (dcg dc_X7_fillText 18 rfl) rfl rfl ?_
      refine p_if_le (tgt := 42) X (dcg dc_X7_fillText 19 rfl) (by decide) (fun q => ?_) (fun q => ?_)
      · have hf := if_t q hf
        refine p_pick [0, 1, 4] ?_
        exact wX7_fillText_b42 X hG hnm hf k0 kf
      · have hf := if_f q hf
        refine p_aloadq_n X (dcg dc_X7_fillText 20 rfl) rfl rfl ?_
        refine p_iload_n X (dcg dc_X7_fillText 21 rfl) rfl rfl ?_
        obtain ⟨a21, e22, hf⟩ := gs_some hf
        first | subst e22 | (try rw [e22])
        obtain ⟨hk23, hf⟩ := gd_some hf
        obtain ⟨z24, hz24, hf⟩ := bd_some hf
        refine p_callV (As := [_]) X ml_X7_37 (dcg dc_X7_fillText 22 rfl) rfl rfl hk23 (wX8_add hG hz24) (by decide) (room4 (Nat.le_of_ble_eq_true rfl)) (Nat.le_refl _) (Nat.le_refl _) ?_
        rintro _ u9 ⟨rfl, e9⟩; have e9 := e9.symm; subst e9
        refine p_pick [0, 1, 4] ?_
        exact wX7_fillText_b42 X hG hnm hf k0 kf
noncomputable def fX7_fillText_l7 (v0 : Nat) (v1 : Option Nat) (v2 : Int32) (v3 : Int32) (v4 : Int32) (h : PH) : Option (Int32 × PH) := wh (fun z : (Int32 × Int32 × Int32 × PH) => fX7_fillText_c7 v0 v1 (z.1) (z.2.1) (z.2.2.1) (z.2.2.2)) (v2, v3, v4, h)
set_option maxRecDepth 100000 in
theorem mX7_fillText_l7 {v0 : Nat} {v1 : Option Nat} {v2 : Int32} {v3 : Int32} {v4 : Int32} {h : PH} {r : (Int32 × PH)} (hf : fX7_fillText_l7 v0 v1 v2 v3 v4 h = some r) : eqz h (hX r.2) (hV r.2) := by
  unfold fX7_fillText_l7 at hf
  refine wh_ind (P := fun z => eqz (z.2.2.2) (hX r.2) (hV r.2)) (fun z x0 hs i1 i2 => ?_) _ hf
  obtain ⟨c0, cf⟩ := mX7_fillText_c7 (v0 := v0) (v1 := v1) (v2 := z.1) (v3 := z.2.1) (v4 := z.2.2.1) (h := z.2.2.2) hs
  rcases hxx : x0 with zz | zz
  · exact eqz_tr (c0 zz hxx) (i1 zz hxx)
  · have ee := i2 zz hxx; subst ee; exact cf zz hxx
set_option maxRecDepth 100000 in
theorem wX7_fillText_l7 {E : PE} {p : Program} {l : Launch} {e : Env} {s : State} {m : MethodId} {args : Array Value} {below : List Frame} {meth : Method} {c : Code} (X : Cx E p l e (rmv 1 0 0) s m args below meth c RX7 cX7_fillText 6 (some .int)) (hG : Gs E l) (hnm : meth.name = yX7_fillText.name) {v0 : Nat} {v1 : Option Nat} {v2 : Int32} {v3 : Int32} {v4 : Int32} {h : PH} {r : (Int32 × PH)} (hf : fX7_fillText_l7 v0 v1 v2 v3 v4 h = some r)  : PW E p l e (rmv 1 0 0) s m args below meth c 6 0 0 (MQ below (QG E (fun v u => v = some (.int r.1) ∧ u = r.2)) args s 0 0 (pA E)) h 7 [(0, some (.ref v0)), (1, some (va_rf v1)), (2, some (.int v2)), (3, some (.int v3)), (4, some (.int v4))] [] := by
  unfold fX7_fillText_l7 at hf
  refine wh_ind (P := fun z => PW E p l e (rmv 1 0 0) s m args below meth c 6 0 0 (MQ below (QG E (fun v u => v = some (.int r.1) ∧ u = r.2)) args s 0 0 (pA E)) (z.2.2.2) 7 [(0, some (.ref v0)), (1, some (va_rf v1)), (2, some (.int (z.1))), (3, some (.int (z.2.1))), (4, some (.int (z.2.2.1)))] []) (fun z x0 hs i1 i2 => ?_) _ hf
  exact wX7_fillText_c7 (r := r) (v0 := v0) (v1 := v1) (v2 := z.1) (v3 := z.2.1) (v4 := z.2.2.1) (h := z.2.2.2) X hG hnm hs i1  i2
noncomputable def fX7_fillText (v0 : Nat) (v1 : Option Nat) (h : PH) : Option (Int32 × PH) :=
  fX7_fillText_l7 v0 v1 (0 : Int32) (0 : Int32) (0 : Int32) h
set_option maxRecDepth 100000 in
theorem mX7_fillText {v0 : Nat} {v1 : Option Nat} {h : PH} {r : (Int32 × PH)} (hf : fX7_fillText v0 v1 h = some r) : eqz h (hX r.2) (hV r.2) := by
  unfold fX7_fillText at hf
  have hle := eqz_rf h
  exact eqz_rt (mX7_fillText_l7 hf) hle
set_option maxRecDepth 100000 in
theorem wX7_fillText {E : PE} {l : Launch} (hG : Gs E l) {v0 : Nat} {v1 : Option Nat} {h : PH} {r : (Int32 × PH)} (hf : fX7_fillText v0 v1 h = some r) : Ct E l 1 0 0 yX7_fillText cX7_fillText 6 (some .int) [.ref v0, va_rf v1] h (fun v u => v = some (.int r.1) ∧ u = r.2) := by
  refine ct_of hG (by decide) (by simp [lg_sl, cat_rf, cat_r, cat_i, cat_l, cat_d, cat_f]) ?_
  intro p e s m args below meth c X hnm
  rw [show pargs 0 [.ref v0, va_rf v1] = [(0, some (.ref v0)), (1, some (va_rf v1))] from by simp [pargs, cat_rf, cat_r, cat_i, cat_l, cat_d, cat_f]]
  unfold fX7_fillText at hf
  refine p_iconst (v := 0) X (dcg dc_X7_fillText 0 rfl) (by decide) ?_
  refine p_istore_n X (dcg dc_X7_fillText 1 rfl) rfl (by decide) (nwq (k := 1) rfl) ?_
  refine p_iconst (v := 0) X (dcg dc_X7_fillText 2 rfl) (by decide) ?_
  refine p_istore_n X (dcg dc_X7_fillText 3 rfl) rfl (by decide) rfl ?_
  refine p_iconst (v := 0) X (dcg dc_X7_fillText 4 rfl) (by decide) ?_
  refine p_istore X (dcg dc_X7_fillText 5 rfl) (by decide) rfl ?_
  refine p_pick [0, 1, 2, 3, 4] ?_
  exact wX7_fillText_l7 X hG hnm hf 
theorem dc_X7_takeText : decs cX7_takeText [(0, .new 22, 3), (3, .dup, 1), (4, .invokespecial 24, 3), (7, .astore_n 1, 1), (8, .aload_n 0, 1), (9, .aload_n 1, 1), (10, .invokevirtual 25, 3), (13, .istore_n 2, 1), (14, .aload_n 0, 1), (15, .iload_n 2, 1), (16, .invokevirtual 29, 3), (19, .iload_n 2, 1), (20, .iconst (-1), 1), (21, .if_icmp .ne 7, 3), (24, .aload_n 1, 1), (25, .goto 4, 3), (28, .aconst_null, 1), (29, .areturn, 1)] = true := by decide +kernel
noncomputable def fX7_takeText_b29 (t0 : Option Nat) (h : PH) : Option (Option Nat × PH) :=
  some ((t0, h))
set_option maxRecDepth 100000 in
theorem mX7_takeText_b29 {t0 : Option Nat} {h : PH} {r : (Option Nat × PH)} (hf : fX7_takeText_b29 t0 h = some r) : lez h (hX r.2) (hV r.2) := by
  unfold fX7_takeText_b29 at hf
  have hle := lez_rf h
  have ee := Option.some.inj hf; subst ee; exact hle
set_option maxRecDepth 100000 in
theorem wX7_takeText_b29 {E : PE} {p : Program} {l : Launch} {e : Env} {s : State} {m : MethodId} {args : Array Value} {below : List Frame} {meth : Method} {c : Code} {X0 V0 MC MS uc us : Nat} (X : Cx E p l e (rmv 2 MC MS) s m args below meth c RX7 cX7_takeText 3 (some (.object "WordFinder$Text"))) (hG : Gs E l) (hnm : meth.name = yX7_takeText.name) {t0 : Option Nat} {h : PH} {r : (Option Nat × PH)} (hM : MC + X0 = (hX r.2)) (hN : MS + V0 = (hV r.2)) (hu : uc + X0 = hX h) (hv : us + V0 = hV h) (hf : fX7_takeText_b29 t0 h = some r)  : PW E p l e (rmv 2 MC MS) s m args below meth c 3 uc us (MQ below (QG E (fun v u => v = some (va_rf r.1) ∧ u = r.2)) args s MC MS (pA E)) h 29 [] [va_rf t0] := by
  have hm1 : lez h (hX r.2) (hV r.2) := mX7_takeText_b29 hf
  have hcm : uc ≤ MC := (by have o0 := hm1.1; have o1 := hM; have o2 := hu; (try simp only [hX_sI, hX_sR, hX_sL, hX_sD, hX_sIa, hX_sRa, hV_sI, hV_sR, hV_sL, hV_sD, hV_sIa, hV_sRa, hX_new, hV_new] at o0 o1 o2 ⊢); omega)
  have hsm : us ≤ MS := (by have o0 := hm1.2; have o1 := hN; have o2 := hv; (try simp only [hX_sI, hX_sR, hX_sL, hX_sD, hX_sIa, hX_sRa, hV_sI, hV_sR, hV_sL, hV_sD, hV_sIa, hV_sRa, hX_new, hV_new] at o0 o1 o2 ⊢); omega)
  clear hm1
  unfold fX7_takeText_b29 at hf
  have er := Option.some.inj hf
  subst er
  exact p_aret X rfl (Or.inl ⟨_, rfl⟩) (dcg dc_X7_takeText 17 rfl) ⟨rfl, rfl⟩ hcm hsm
noncomputable def fX7_takeText_b7 (v0 : Nat) (t0 : Nat) (h : PH) : Option (Option Nat × PH) :=
  gd (hK h v0 = 7) (bd (fX7_fillText v0 (some t0) h) (fun z3 =>
  gd (hK z3.2 v0 = 7) (bd (fX7_finish v0 z3.1 z3.2) (fun z5 =>
  if (¬ z3.1 = (-1 : Int32)) then (fX7_takeText_b29 none z5) else
  fX7_takeText_b29 (some t0) z5))))
set_option maxRecDepth 100000 in
theorem mX7_takeText_b7 {v0 : Nat} {t0 : Nat} {h : PH} {r : (Option Nat × PH)} (hf : fX7_takeText_b7 v0 t0 h = some r) : lez h (hX r.2) (hV r.2) := by
  unfold fX7_takeText_b7 at hf
  have hle := lez_rf h
  obtain ⟨hk2, hf⟩ := gd_some hf
  obtain ⟨z3, hz3, hf⟩ := bd_some hf
  have hle := lez_rt (lez_eq (mX7_fillText hz3)) hle
  obtain ⟨hk4, hf⟩ := gd_some hf
  obtain ⟨z5, hz5, hf⟩ := bd_some hf
  have hle := lez_rt (lez_eq (mX7_finish hz5)) hle
  rcases ite_or hf with ⟨q, hf⟩ | ⟨q, hf⟩
  · have hf := if_t q hf
    exact lez_rt (mX7_takeText_b29 hf) hle
  · have hf := if_f q hf
    exact lez_rt (mX7_takeText_b29 hf) hle
set_option maxRecDepth 100000 in
theorem wX7_takeText_b7 {E : PE} {p : Program} {l : Launch} {e : Env} {s : State} {m : MethodId} {args : Array Value} {below : List Frame} {meth : Method} {c : Code} {X0 V0 MC MS uc us : Nat} (X : Cx E p l e (rmv 2 MC MS) s m args below meth c RX7 cX7_takeText 3 (some (.object "WordFinder$Text"))) (hG : Gs E l) (hnm : meth.name = yX7_takeText.name) {v0 : Nat} {t0 : Nat} {h : PH} {r : (Option Nat × PH)} (hM : MC + X0 = (hX r.2)) (hN : MS + V0 = (hV r.2)) (hu : uc + X0 = hX h) (hv : us + V0 = hV h) (hf : fX7_takeText_b7 v0 t0 h = some r)  : PW E p l e (rmv 2 MC MS) s m args below meth c 3 uc us (MQ below (QG E (fun v u => v = some (va_rf r.1) ∧ u = r.2)) args s MC MS (pA E)) h 7 [(0, some (.ref v0))] [.ref t0] := by
  have hm1 : lez h (hX r.2) (hV r.2) := mX7_takeText_b7 hf
  have hcm : uc ≤ MC := (by have o0 := hm1.1; have o1 := hM; have o2 := hu; (try simp only [hX_sI, hX_sR, hX_sL, hX_sD, hX_sIa, hX_sRa, hV_sI, hV_sR, hV_sL, hV_sD, hV_sIa, hV_sRa, hX_new, hV_new] at o0 o1 o2 ⊢); omega)
  have hsm : us ≤ MS := (by have o0 := hm1.2; have o1 := hN; have o2 := hv; (try simp only [hX_sI, hX_sR, hX_sL, hX_sD, hX_sIa, hX_sRa, hV_sI, hV_sR, hV_sL, hV_sD, hV_sIa, hV_sRa, hX_new, hV_new] at o0 o1 o2 ⊢); omega)
  clear hm1
  unfold fX7_takeText_b7 at hf
  refine p_astore_n X (dcg dc_X7_takeText 3 rfl) rfl (by decide) rfl ?_
  refine p_aload_n X (dcg dc_X7_takeText 4 rfl) rfl rfl ?_
  refine p_aload_n X (dcg dc_X7_takeText 5 rfl) rfl rfl ?_
  obtain ⟨hk2, hf⟩ := gd_some hf
  obtain ⟨z3, hz3, hf⟩ := bd_some hf
  refine p_callV (As := [va_rf (some _)]) X ml_X7_25 (dcg dc_X7_takeText 6 rfl) rfl rfl hk2 (wX7_fillText hG hz3) (by decide) (room4 (Nat.le_of_ble_eq_true rfl)) hcm hsm ?_
  rintro _ u9 ⟨rfl, e9⟩; have e9 := e9.symm; subst e9
  have hu := hu.trans (mX7_fillText hz3).1
  have hv := hv.trans (mX7_fillText hz3).2
  refine p_istore_n X (dcg dc_X7_takeText 7 rfl) rfl (by decide) rfl ?_
  refine p_aload_n X (dcg dc_X7_takeText 8 rfl) rfl rfl ?_
  refine p_iload_n X (dcg dc_X7_takeText 9 rfl) rfl rfl ?_
  obtain ⟨hk4, hf⟩ := gd_some hf
  obtain ⟨z5, hz5, hf⟩ := bd_some hf
  refine p_callV (As := [_]) X ml_X7_29 (dcg dc_X7_takeText 10 rfl) rfl rfl hk4 (wX7_finish hG hz5) (by decide) (room4 (Nat.le_of_ble_eq_true rfl)) hcm hsm ?_
  rintro _ u9 ⟨rfl, e9⟩; have e9 := e9.symm; subst e9
  have hu := hu.trans (mX7_finish hz5).1
  have hv := hv.trans (mX7_finish hz5).2
  refine p_iload_n X (dcg dc_X7_takeText 11 rfl) rfl rfl ?_
  refine p_iconst (v := -1) X (dcg dc_X7_takeText 12 rfl) (by decide) ?_
  refine p_icmp_ne (tgt := 28) X (dcg dc_X7_takeText 13 rfl) (by decide) (fun q => ?_) (fun q => ?_)
  · have hf := if_t q hf
    refine p_null X (dcg dc_X7_takeText 16 rfl) ?_
    refine p_pick [] ?_
    exact wX7_takeText_b29 X hG hnm hM hN hu hv hf 
  · have hf := if_f q hf
    refine p_aload_n X (dcg dc_X7_takeText 14 rfl) rfl rfl ?_
    refine p_goto (tgt := 29) X (dcg dc_X7_takeText 15 rfl) (by decide) ?_
    refine p_pick [] ?_
    exact wX7_takeText_b29 X hG hnm hM hN hu hv hf 
noncomputable def fX7_takeText_b3 (v0 : Nat) (t0 : Nat) (h : PH) : Option (Option Nat × PH) :=
  bd (fX8_init t0 h) (fun z1 =>
  fX7_takeText_b7 v0 t0 z1)
set_option maxRecDepth 100000 in
theorem mX7_takeText_b3 {v0 : Nat} {t0 : Nat} {h : PH} {r : (Option Nat × PH)} (hf : fX7_takeText_b3 v0 t0 h = some r) : lez h (hX r.2) (hV r.2) := by
  unfold fX7_takeText_b3 at hf
  have hle := lez_rf h
  obtain ⟨z1, hz1, hf⟩ := bd_some hf
  have hle := lez_rt (mX8_init hz1) hle
  exact lez_rt (mX7_takeText_b7 hf) hle
set_option maxRecDepth 100000 in
theorem wX7_takeText_b3 {E : PE} {p : Program} {l : Launch} {e : Env} {s : State} {m : MethodId} {args : Array Value} {below : List Frame} {meth : Method} {c : Code} {X0 V0 MC MS uc us : Nat} (X : Cx E p l e (rmv 2 MC MS) s m args below meth c RX7 cX7_takeText 3 (some (.object "WordFinder$Text"))) (hG : Gs E l) (hnm : meth.name = yX7_takeText.name) {v0 : Nat} {t0 : Nat} {h : PH} {r : (Option Nat × PH)} (hM : MC + X0 = (hX r.2)) (hN : MS + V0 = (hV r.2)) (hu : uc + X0 = hX h) (hv : us + V0 = hV h) (hf : fX7_takeText_b3 v0 t0 h = some r)  : PW E p l e (rmv 2 MC MS) s m args below meth c 3 uc us (MQ below (QG E (fun v u => v = some (va_rf r.1) ∧ u = r.2)) args s MC MS (pA E)) h 3 [(0, some (.ref v0))] [.ref t0] := by
  have hm1 : lez h (hX r.2) (hV r.2) := mX7_takeText_b3 hf
  have hcm : uc ≤ MC := (by have o0 := hm1.1; have o1 := hM; have o2 := hu; (try simp only [hX_sI, hX_sR, hX_sL, hX_sD, hX_sIa, hX_sRa, hV_sI, hV_sR, hV_sL, hV_sD, hV_sIa, hV_sRa, hX_new, hV_new] at o0 o1 o2 ⊢); omega)
  have hsm : us ≤ MS := (by have o0 := hm1.2; have o1 := hN; have o2 := hv; (try simp only [hX_sI, hX_sR, hX_sL, hX_sD, hX_sIa, hX_sRa, hV_sI, hV_sR, hV_sL, hV_sD, hV_sIa, hV_sRa, hX_new, hV_new] at o0 o1 o2 ⊢); omega)
  clear hm1
  unfold fX7_takeText_b3 at hf
  refine p_dup X (dcg dc_X7_takeText 1 rfl) rfl ?_
  obtain ⟨z1, hz1, hf⟩ := bd_some hf
  have hc1 := mX8_init hz1
  have hm1 : lez _ (hX r.2) (hV r.2) := mX7_takeText_b7 hf
  refine p_callIn (As := []) (ret1 := none) X ml_X7_24 (dcg dc_X7_takeText 2 rfl) rfl rfl  (wX8_init hG hz1) (by decide) (room4 (Nat.le_of_ble_eq_true rfl)) (by have o0 := hm1.1; have o1 := hc1.1; have o2 := hM; have o3 := hu; (try simp only [hX_sI, hX_sR, hX_sL, hX_sD, hX_sIa, hX_sRa, hV_sI, hV_sR, hV_sL, hV_sD, hV_sIa, hV_sRa, hX_new, hV_new] at o0 o1 o2 o3 ⊢); omega) (by have o0 := hm1.2; have o1 := hc1.2; have o2 := hN; have o3 := hv; (try simp only [hX_sI, hX_sR, hX_sL, hX_sD, hX_sIa, hX_sRa, hV_sI, hV_sR, hV_sL, hV_sD, hV_sIa, hV_sRa, hX_new, hV_new] at o0 o1 o2 o3 ⊢); omega) ?_
  rintro _ u9 ⟨rfl, e9⟩; have e9 := e9.symm; subst e9
  refine p_pick [0] ?_
  exact wX7_takeText_b7 X hG hnm hM hN (by have o0 := hc1.1; have o1 := hu; (try simp only [hX_sI, hX_sR, hX_sL, hX_sD, hX_sIa, hX_sRa, hV_sI, hV_sR, hV_sL, hV_sD, hV_sIa, hV_sRa, hX_new, hV_new] at o0 o1 ⊢); omega) (by have o0 := hc1.2; have o1 := hv; (try simp only [hX_sI, hX_sR, hX_sL, hX_sD, hX_sIa, hX_sRa, hV_sI, hV_sR, hV_sL, hV_sD, hV_sIa, hV_sRa, hX_new, hV_new] at o0 o1 ⊢); omega) hf 
noncomputable def fX7_takeText_b0 (v0 : Nat) (h : PH) : Option (Option Nat × PH) :=
  fX7_takeText_b3 v0 (hX h) (hnew h 8 2)
set_option maxRecDepth 100000 in
theorem mX7_takeText_b0 {v0 : Nat} {h : PH} {r : (Option Nat × PH)} (hf : fX7_takeText_b0 v0 h = some r) : lez h (hX r.2) (hV r.2) := by
  unfold fX7_takeText_b0 at hf
  have hle := lez_rf h
  have hle := lez_nw (c := 8) (n := 2) hle
  exact lez_rt (mX7_takeText_b3 hf) hle
set_option maxRecDepth 100000 in
theorem wX7_takeText_b0 {E : PE} {p : Program} {l : Launch} {e : Env} {s : State} {m : MethodId} {args : Array Value} {below : List Frame} {meth : Method} {c : Code} {X0 V0 MC MS uc us : Nat} (X : Cx E p l e (rmv 2 MC MS) s m args below meth c RX7 cX7_takeText 3 (some (.object "WordFinder$Text"))) (hG : Gs E l) (hnm : meth.name = yX7_takeText.name) {v0 : Nat} {h : PH} {r : (Option Nat × PH)} (hM : MC + X0 = (hX r.2)) (hN : MS + V0 = (hV r.2)) (hu : uc + X0 = hX h) (hv : us + V0 = hV h) (hf : fX7_takeText_b0 v0 h = some r)  : PW E p l e (rmv 2 MC MS) s m args below meth c 3 uc us (MQ below (QG E (fun v u => v = some (va_rf r.1) ∧ u = r.2)) args s MC MS (pA E)) h 0 [(0, some (.ref v0))] [] := by
  have hm1 : lez h (hX r.2) (hV r.2) := mX7_takeText_b0 hf
  have hcm : uc ≤ MC := (by have o0 := hm1.1; have o1 := hM; have o2 := hu; (try simp only [hX_sI, hX_sR, hX_sL, hX_sD, hX_sIa, hX_sRa, hV_sI, hV_sR, hV_sL, hV_sD, hV_sIa, hV_sRa, hX_new, hV_new] at o0 o1 o2 ⊢); omega)
  have hsm : us ≤ MS := (by have o0 := hm1.2; have o1 := hN; have o2 := hv; (try simp only [hX_sI, hX_sR, hX_sL, hX_sD, hX_sIa, hX_sRa, hV_sI, hV_sR, hV_sL, hV_sD, hV_sIa, hV_sRa, hX_new, hV_new] at o0 o1 o2 ⊢); omega)
  clear hm1
  unfold fX7_takeText_b0 at hf
  have hm1 : lez _ (hX r.2) (hV r.2) := mX7_takeText_b3 hf
  have hm2 := lez_new hm1
  refine p_newN (ci := 8) (q := (RX8, TX8, 2)) (n := 2) X rfl rfl (by decide) tw_1162 tw_328 tw_112 (dcg dc_X7_takeText 0 rfl) (show uc + 1 ≤ MC from (by have o0 := hm2.1; have o1 := hM; have o2 := hu; (try simp only [hX_sI, hX_sR, hX_sL, hX_sD, hX_sIa, hX_sRa, hV_sI, hV_sR, hV_sL, hV_sD, hV_sIa, hV_sRa, hX_new, hV_new] at o0 o1 o2 ⊢); omega)) (show us + 2 ≤ MS from (by have o0 := hm2.2; have o1 := hN; have o2 := hv; (try simp only [hX_sI, hX_sR, hX_sL, hX_sD, hX_sIa, hX_sRa, hV_sI, hV_sR, hV_sL, hV_sD, hV_sIa, hV_sRa, hX_new, hV_new] at o0 o1 o2 ⊢); omega)) ?_
  refine p_pick [0] ?_
  exact wX7_takeText_b3 X hG hnm hM hN (by have o0 := hu; (try simp only [hX_sI, hX_sR, hX_sL, hX_sD, hX_sIa, hX_sRa, hV_sI, hV_sR, hV_sL, hV_sD, hV_sIa, hV_sRa, hX_new, hV_new] at o0 ⊢); omega) (by have o0 := hv; (try simp only [hX_sI, hX_sR, hX_sL, hX_sD, hX_sIa, hX_sRa, hV_sI, hV_sR, hV_sL, hV_sD, hV_sIa, hV_sRa, hX_new, hV_new] at o0 ⊢); omega) hf 
noncomputable def fX7_takeText (v0 : Nat) (h : PH) : Option (Option Nat × PH) :=
  fX7_takeText_b0 v0 h
set_option maxRecDepth 100000 in
theorem mX7_takeText {v0 : Nat} {h : PH} {r : (Option Nat × PH)} (hf : fX7_takeText v0 h = some r) : lez h (hX r.2) (hV r.2) := by
  unfold fX7_takeText at hf
  have hle := lez_rf h
  exact lez_rt (mX7_takeText_b0 hf) hle
set_option maxRecDepth 100000 in
theorem wX7_takeText {E : PE} {l : Launch} (hG : Gs E l) {v0 : Nat} {h : PH} {r : (Option Nat × PH)} (hf : fX7_takeText v0 h = some r) : Ct E l 2 ((hX r.2) - hX h) ((hV r.2) - hV h) yX7_takeText cX7_takeText 3 (some (.object "WordFinder$Text")) [.ref v0] h (fun v u => v = some (va_rf r.1) ∧ u = r.2) := by
  have hmm := mX7_takeText hf
  refine ct_of hG (by decide) (Nat.le_of_ble_eq_true rfl) ?_
  intro p e s m args below meth c X hnm
  show PW E p l e _ s m args below meth c _ 0 0 _ h 0 [(0, some (.ref v0))] []
  unfold fX7_takeText at hf
  have hM := Nat.sub_add_cancel hmm.1
  have hN := Nat.sub_add_cancel hmm.2
  refine p_pick [0] ?_
  exact wX7_takeText_b0 X hG hnm hM hN (Nat.zero_add _) (Nat.zero_add _) hf
theorem dc_X8_withPut : decs cX8_withPut [(0, .new 9, 3), (3, .dup, 1), (4, .invokespecial 19, 3), (7, .astore_n 3, 1), (8, .iconst 0, 1), (9, .istore 4, 2), (11, .iload 4, 2), (13, .aload_n 0, 1), (14, .getfield 15, 3), (17, .if_icmp .gt 40, 3), (20, .iload 4, 2), (22, .iload_n 1, 1), (23, .if_icmp .ne 8, 3), (26, .aload_n 3, 1), (27, .iload_n 2, 1), (28, .invokevirtual 20, 3), (31, .iload 4, 2), (33, .aload_n 0, 1), (34, .getfield 15, 3), (37, .if_icmp .ge 14, 3), (40, .aload_n 3, 1), (41, .aload_n 0, 1), (42, .getfield 11, 3), (45, .iload 4, 2), (47, .iaload, 1), (48, .invokevirtual 20, 3), (51, .iinc 4 1, 3), (54, .goto (-43), 3), (57, .aload_n 3, 1), (58, .areturn, 1)] = true := by decide +kernel
noncomputable def fX8_withPut_b51 (v0 : Nat) (v1 : Int32) (v2 : Int32) (v3 : Option Nat) (v4 : Int32) (h : PH) : Option ((Int32 × PH) ⊕ (Option Nat × PH)) :=
  some (.inl ((v4 + 1), h))
set_option maxRecDepth 100000 in
theorem mX8_withPut_b51 {v0 : Nat} {v1 : Int32} {v2 : Int32} {v3 : Option Nat} {v4 : Int32} {h : PH} {x : ((Int32 × PH) ⊕ (Option Nat × PH))} (hf : fX8_withPut_b51 v0 v1 v2 v3 v4 h = some x) : (∀ w9 : (Int32 × PH), x = .inl w9 → lez h (hX (w9.2)) (hV (w9.2))) ∧ (∀ w9 : (Option Nat × PH), x = .inr w9 → lez h (hX w9.2) (hV w9.2)) := by
  unfold fX8_withPut_b51 at hf
  have hle := lez_rf h
  have ee := Option.some.inj hf; subst ee
  exact ⟨(fun z e => by have ee := Sum.inl.inj (e); subst ee; exact hle), (fun z e => nomatch e)⟩
set_option maxRecDepth 100000 in
theorem wX8_withPut_b51 {E : PE} {p : Program} {l : Launch} {e : Env} {s : State} {m : MethodId} {args : Array Value} {below : List Frame} {meth : Method} {c : Code} {X0 V0 MC MS uc us : Nat} (X : Cx E p l e (rmv 2 MC MS) s m args below meth c RX8 cX8_withPut 5 (some (.object "WordFinder$Text"))) (hG : Gs E l) (hnm : meth.name = yX8_withPut.name) {v0 : Nat} {v1 : Int32} {v2 : Int32} {v3 : Option Nat} {v4 : Int32} {h : PH} {r : (Option Nat × PH)} {x : ((Int32 × PH) ⊕ (Option Nat × PH))} (hM : MC + X0 = (hX r.2)) (hN : MS + V0 = (hV r.2)) (hu : uc + X0 = hX h) (hv : us + V0 = hV h) (hf : fX8_withPut_b51 v0 v1 v2 v3 v4 h = some x) (k0 : ∀ (z : (Int32 × PH)) (uc us : Nat), x = .inl z → uc + X0 = hX (z.2) → us + V0 = hV (z.2) → PW E p l e (rmv 2 MC MS) s m args below meth c 5 uc us (MQ below (QG E (fun v u => v = some (va_rf r.1) ∧ u = r.2)) args s MC MS (pA E)) (z.2) 11 [(0, some (.ref v0)), (1, some (.int v1)), (2, some (.int v2)), (3, some (va_rf v3)), (4, some (.int (z.1)))] []) (kl0 : ∀ z : (Int32 × PH), x = .inl z → lez (z.2) (hX r.2) (hV r.2)) (kf : ∀ z : (Option Nat × PH), x = .inr z → z = r) : PW E p l e (rmv 2 MC MS) s m args below meth c 5 uc us (MQ below (QG E (fun v u => v = some (va_rf r.1) ∧ u = r.2)) args s MC MS (pA E)) h 51 [(0, some (.ref v0)), (1, some (.int v1)), (2, some (.int v2)), (3, some (va_rf v3)), (4, some (.int v4))] [] := by
  have hm1 : lez h (hX r.2) (hV r.2) := by
    obtain ⟨c0, cf⟩ := mX8_withPut_b51 hf
    rcases hxx : x with zz | zz
    · exact lez_tr (c0 zz hxx) (kl0 zz hxx)
    · have ee := kf zz hxx; subst ee; exact cf zz hxx
  have hcm : uc ≤ MC := (by have o0 := hm1.1; have o1 := hM; have o2 := hu; (try simp only [hX_sI, hX_sR, hX_sL, hX_sD, hX_sIa, hX_sRa, hV_sI, hV_sR, hV_sL, hV_sD, hV_sIa, hV_sRa, hX_new, hV_new] at o0 o1 o2 ⊢); omega)
  have hsm : us ≤ MS := (by have o0 := hm1.2; have o1 := hN; have o2 := hv; (try simp only [hX_sI, hX_sR, hX_sL, hX_sD, hX_sIa, hX_sRa, hV_sI, hV_sR, hV_sL, hV_sD, hV_sIa, hV_sRa, hX_new, hV_new] at o0 o1 o2 ⊢); omega)
  clear hm1
  unfold fX8_withPut_b51 at hf
  refine p_iinc (v := 1) X (dcg dc_X8_withPut 26 rfl) rfl (by decide) (by decide) (nwq (k := 3) rfl) ?_
  refine p_goto (tgt := 11) X (dcg dc_X8_withPut 27 rfl) (by decide) ?_
  refine p_pick [0, 1, 2, 3, 4] ?_
  exact k0 _ _ _ (Option.some.inj hf).symm hu hv
noncomputable def fX8_withPut_b31 (v0 : Nat) (v1 : Int32) (v2 : Int32) (v3 : Option Nat) (v4 : Int32) (h : PH) : Option ((Int32 × PH) ⊕ (Option Nat × PH)) :=
  gd (hK h v0 = 8) (if ((hI h 8 v0 1) ≤ v4) then (fX8_withPut_b51 v0 v1 v2 v3 v4 h) else
  gs (hR h 8 v0 0) (fun a6 =>
  gd (hK h a6 = 20 ∧ inb v4 (hN h a6)) (gs v3 (fun a10 =>
  gd (hK h a10 = 8) (bd (fX8_add a10 (hI h 20 a6 (Int32.toNatClampNeg v4)) h) (fun z13 =>
  fX8_withPut_b51 v0 v1 v2 (some a10) v4 z13))))))
set_option maxRecDepth 100000 in
theorem mX8_withPut_b31 {v0 : Nat} {v1 : Int32} {v2 : Int32} {v3 : Option Nat} {v4 : Int32} {h : PH} {x : ((Int32 × PH) ⊕ (Option Nat × PH))} (hf : fX8_withPut_b31 v0 v1 v2 v3 v4 h = some x) : (∀ w9 : (Int32 × PH), x = .inl w9 → lez h (hX (w9.2)) (hV (w9.2))) ∧ (∀ w9 : (Option Nat × PH), x = .inr w9 → lez h (hX w9.2) (hV w9.2)) := by
  unfold fX8_withPut_b31 at hf
  have hle := lez_rf h
  obtain ⟨hk5, hf⟩ := gd_some hf
  rcases ite_or hf with ⟨q, hf⟩ | ⟨q, hf⟩
  · have hf := if_t q hf
    obtain ⟨c0, cf⟩ := mX8_withPut_b51 hf
    exact ⟨fun z e => lez_rt (c0 z (e)) hle, fun z e => lez_rt (cf z (e)) hle⟩
  · have hf := if_f q hf
    obtain ⟨a6, e7, hf⟩ := gs_some hf
    obtain ⟨⟨hk9, hb8⟩, hf⟩ := gd_some hf
    obtain ⟨a10, e11, hf⟩ := gs_some hf
    obtain ⟨hk12, hf⟩ := gd_some hf
    obtain ⟨z13, hz13, hf⟩ := bd_some hf
    have hle := lez_rt (lez_eq (mX8_add hz13)) hle
    obtain ⟨c0, cf⟩ := mX8_withPut_b51 hf
    exact ⟨fun z e => lez_rt (c0 z (e)) hle, fun z e => lez_rt (cf z (e)) hle⟩
set_option maxRecDepth 100000 in
theorem wX8_withPut_b31 {E : PE} {p : Program} {l : Launch} {e : Env} {s : State} {m : MethodId} {args : Array Value} {below : List Frame} {meth : Method} {c : Code} {X0 V0 MC MS uc us : Nat} (X : Cx E p l e (rmv 2 MC MS) s m args below meth c RX8 cX8_withPut 5 (some (.object "WordFinder$Text"))) (hG : Gs E l) (hnm : meth.name = yX8_withPut.name) {v0 : Nat} {v1 : Int32} {v2 : Int32} {v3 : Option Nat} {v4 : Int32} {h : PH} {r : (Option Nat × PH)} {x : ((Int32 × PH) ⊕ (Option Nat × PH))} (hM : MC + X0 = (hX r.2)) (hN : MS + V0 = (hV r.2)) (hu : uc + X0 = hX h) (hv : us + V0 = hV h) (hf : fX8_withPut_b31 v0 v1 v2 v3 v4 h = some x) (k0 : ∀ (z : (Int32 × PH)) (uc us : Nat), x = .inl z → uc + X0 = hX (z.2) → us + V0 = hV (z.2) → PW E p l e (rmv 2 MC MS) s m args below meth c 5 uc us (MQ below (QG E (fun v u => v = some (va_rf r.1) ∧ u = r.2)) args s MC MS (pA E)) (z.2) 11 [(0, some (.ref v0)), (1, some (.int v1)), (2, some (.int v2)), (3, some (va_rf v3)), (4, some (.int (z.1)))] []) (kl0 : ∀ z : (Int32 × PH), x = .inl z → lez (z.2) (hX r.2) (hV r.2)) (kf : ∀ z : (Option Nat × PH), x = .inr z → z = r) : PW E p l e (rmv 2 MC MS) s m args below meth c 5 uc us (MQ below (QG E (fun v u => v = some (va_rf r.1) ∧ u = r.2)) args s MC MS (pA E)) h 31 [(0, some (.ref v0)), (1, some (.int v1)), (2, some (.int v2)), (3, some (va_rf v3)), (4, some (.int v4))] [] := by
  have hm1 : lez h (hX r.2) (hV r.2) := by
    obtain ⟨c0, cf⟩ := mX8_withPut_b31 hf
    rcases hxx : x with zz | zz
    · exact lez_tr (c0 zz hxx) (kl0 zz hxx)
    · have ee := kf zz hxx; subst ee; exact cf zz hxx
  have hcm : uc ≤ MC := (by have o0 := hm1.1; have o1 := hM; have o2 := hu; (try simp only [hX_sI, hX_sR, hX_sL, hX_sD, hX_sIa, hX_sRa, hV_sI, hV_sR, hV_sL, hV_sD, hV_sIa, hV_sRa, hX_new, hV_new] at o0 o1 o2 ⊢); omega)
  have hsm : us ≤ MS := (by have o0 := hm1.2; have o1 := hN; have o2 := hv; (try simp only [hX_sI, hX_sR, hX_sL, hX_sD, hX_sIa, hX_sRa, hV_sI, hV_sR, hV_sL, hV_sD, hV_sIa, hV_sRa, hX_new, hV_new] at o0 o1 o2 ⊢); omega)
  clear hm1
  unfold fX8_withPut_b31 at hf
  refine p_iload X (dcg dc_X8_withPut 16 rfl) rfl ?_
  refine p_aload_n X (dcg dc_X8_withPut 17 rfl) rfl rfl ?_
  obtain ⟨hk5, hf⟩ := gd_some hf
  refine p_getI X fl_X8_15 rfl (by decide) (dcg dc_X8_withPut 18 rfl) hk5 ?_
  refine p_icmp_ge (tgt := 51) X (dcg dc_X8_withPut 19 rfl) (by decide) (fun q => ?_) (fun q => ?_)
  · have hf := if_t q hf
    refine p_pick [0, 1, 2, 3, 4] ?_
    exact wX8_withPut_b51 X hG hnm hM hN hu hv hf k0 kl0 kf
  · have hf := if_f q hf
    refine p_aloadq_n X (dcg dc_X8_withPut 20 rfl) rfl rfl ?_
    refine p_aload_n X (dcg dc_X8_withPut 21 rfl) rfl rfl ?_
    refine p_getR X fl_X8_11 rfl (by decide) (dcg dc_X8_withPut 22 rfl) hk5 ?_
    refine p_iload X (dcg dc_X8_withPut 23 rfl) rfl ?_
    obtain ⟨a6, e7, hf⟩ := gs_some hf
    first | subst e7 | (try rw [e7])
    obtain ⟨⟨hk9, hb8⟩, hf⟩ := gd_some hf
    refine p_iald X (dcg dc_X8_withPut 24 rfl) hk9 (vp_of_inb hb8) ?_
    obtain ⟨a10, e11, hf⟩ := gs_some hf
    first | subst e11 | (try rw [e11])
    obtain ⟨hk12, hf⟩ := gd_some hf
    obtain ⟨z13, hz13, hf⟩ := bd_some hf
    refine p_callV (As := [_]) X ml_X8_20 (dcg dc_X8_withPut 25 rfl) rfl rfl hk12 (wX8_add hG hz13) (by decide) (room4 (Nat.le_of_ble_eq_true rfl)) hcm hsm ?_
    rintro _ u9 ⟨rfl, e9⟩; have e9 := e9.symm; subst e9
    have hu := hu.trans (mX8_add hz13).1
    have hv := hv.trans (mX8_add hz13).2
    refine p_pick [0, 1, 2, 3, 4] ?_
    exact wX8_withPut_b51 X hG hnm hM hN hu hv hf k0 kl0 kf
noncomputable def fX8_withPut_c11 (v0 : Nat) (v1 : Int32) (v2 : Int32) (v3 : Option Nat) (v4 : Int32) (h : PH) : Option ((Int32 × PH) ⊕ (Option Nat × PH)) :=
  gd (hK h v0 = 8) (if ((hI h 8 v0 1) < v4) then (mr (some ((v3, h)))) else
  if (¬ v4 = v1) then (fX8_withPut_b31 v0 v1 v2 v3 v4 h) else
  gs v3 (fun a14 =>
  gd (hK h a14 = 8) (bd (fX8_add a14 v2 h) (fun z17 =>
  fX8_withPut_b31 v0 v1 v2 (some a14) v4 z17))))
set_option maxRecDepth 100000 in
theorem mX8_withPut_c11 {v0 : Nat} {v1 : Int32} {v2 : Int32} {v3 : Option Nat} {v4 : Int32} {h : PH} {x : ((Int32 × PH) ⊕ (Option Nat × PH))} (hf : fX8_withPut_c11 v0 v1 v2 v3 v4 h = some x) : (∀ w9 : (Int32 × PH), x = .inl w9 → lez h (hX (w9.2)) (hV (w9.2))) ∧ (∀ w9 : (Option Nat × PH), x = .inr w9 → lez h (hX w9.2) (hV w9.2)) := by
  unfold fX8_withPut_c11 at hf
  have hle := lez_rf h
  obtain ⟨hk2, hf⟩ := gd_some hf
  rcases ite_or hf with ⟨q, hf⟩ | ⟨q, hf⟩
  · have hf := if_t q hf
    obtain ⟨y3, hfm, rfl⟩ := mr_some hf; have hf := hfm; clear hfm
    have ee := Option.some.inj hf; subst ee
    exact ⟨(fun z e => nomatch e), (fun z e => by have ee := Sum.inr.inj (e); subst ee; exact hle)⟩
  · have hf := if_f q hf
    rcases ite_or hf with ⟨q, hf⟩ | ⟨q, hf⟩
    · have hf := if_t q hf
      obtain ⟨c0, cf⟩ := mX8_withPut_b31 hf
      exact ⟨fun z e => lez_rt (c0 z (e)) hle, fun z e => lez_rt (cf z (e)) hle⟩
    · have hf := if_f q hf
      obtain ⟨a14, e15, hf⟩ := gs_some hf
      obtain ⟨hk16, hf⟩ := gd_some hf
      obtain ⟨z17, hz17, hf⟩ := bd_some hf
      have hle := lez_rt (lez_eq (mX8_add hz17)) hle
      obtain ⟨c0, cf⟩ := mX8_withPut_b31 hf
      exact ⟨fun z e => lez_rt (c0 z (e)) hle, fun z e => lez_rt (cf z (e)) hle⟩
set_option maxRecDepth 100000 in
theorem wX8_withPut_c11 {E : PE} {p : Program} {l : Launch} {e : Env} {s : State} {m : MethodId} {args : Array Value} {below : List Frame} {meth : Method} {c : Code} {X0 V0 MC MS uc us : Nat} (X : Cx E p l e (rmv 2 MC MS) s m args below meth c RX8 cX8_withPut 5 (some (.object "WordFinder$Text"))) (hG : Gs E l) (hnm : meth.name = yX8_withPut.name) {v0 : Nat} {v1 : Int32} {v2 : Int32} {v3 : Option Nat} {v4 : Int32} {h : PH} {r : (Option Nat × PH)} {x : ((Int32 × PH) ⊕ (Option Nat × PH))} (hM : MC + X0 = (hX r.2)) (hN : MS + V0 = (hV r.2)) (hu : uc + X0 = hX h) (hv : us + V0 = hV h) (hf : fX8_withPut_c11 v0 v1 v2 v3 v4 h = some x) (k0 : ∀ (z : (Int32 × PH)) (uc us : Nat), x = .inl z → uc + X0 = hX (z.2) → us + V0 = hV (z.2) → PW E p l e (rmv 2 MC MS) s m args below meth c 5 uc us (MQ below (QG E (fun v u => v = some (va_rf r.1) ∧ u = r.2)) args s MC MS (pA E)) (z.2) 11 [(0, some (.ref v0)), (1, some (.int v1)), (2, some (.int v2)), (3, some (va_rf v3)), (4, some (.int (z.1)))] []) (kl0 : ∀ z : (Int32 × PH), x = .inl z → lez (z.2) (hX r.2) (hV r.2)) (kf : ∀ z : (Option Nat × PH), x = .inr z → z = r) : PW E p l e (rmv 2 MC MS) s m args below meth c 5 uc us (MQ below (QG E (fun v u => v = some (va_rf r.1) ∧ u = r.2)) args s MC MS (pA E)) h 11 [(0, some (.ref v0)), (1, some (.int v1)), (2, some (.int v2)), (3, some (va_rf v3)), (4, some (.int v4))] [] := by
  have hm1 : lez h (hX r.2) (hV r.2) := by
    obtain ⟨c0, cf⟩ := mX8_withPut_c11 hf
    rcases hxx : x with zz | zz
    · exact lez_tr (c0 zz hxx) (kl0 zz hxx)
    · have ee := kf zz hxx; subst ee; exact cf zz hxx
  have hcm : uc ≤ MC := (by have o0 := hm1.1; have o1 := hM; have o2 := hu; (try simp only [hX_sI, hX_sR, hX_sL, hX_sD, hX_sIa, hX_sRa, hV_sI, hV_sR, hV_sL, hV_sD, hV_sIa, hV_sRa, hX_new, hV_new] at o0 o1 o2 ⊢); omega)
  have hsm : us ≤ MS := (by have o0 := hm1.2; have o1 := hN; have o2 := hv; (try simp only [hX_sI, hX_sR, hX_sL, hX_sD, hX_sIa, hX_sRa, hV_sI, hV_sR, hV_sL, hV_sD, hV_sIa, hV_sRa, hX_new, hV_new] at o0 o1 o2 ⊢); omega)
  clear hm1
  unfold fX8_withPut_c11 at hf
  refine p_iload X (dcg dc_X8_withPut 6 rfl) rfl ?_
  refine p_aload_n X (dcg dc_X8_withPut 7 rfl) rfl rfl ?_
  obtain ⟨hk2, hf⟩ := gd_some hf
  refine p_getI X fl_X8_15 rfl (by decide) (dcg dc_X8_withPut 8 rfl) hk2 ?_
  refine p_icmp_gt (tgt := 57) X (dcg dc_X8_withPut 9 rfl) (by decide) (fun q => ?_) (fun q => ?_)
  · have hf := if_t q hf
    obtain ⟨y3, hf, hy4⟩ := mr_some hf
    have hy4f := kf y3 hy4
    subst hy4f
    refine p_aloadq_n X (dcg dc_X8_withPut 28 rfl) rfl rfl ?_
    have er := Option.some.inj hf
    subst er
    exact p_aret X rfl (Or.inl ⟨_, rfl⟩) (dcg dc_X8_withPut 29 rfl) ⟨rfl, rfl⟩ hcm hsm
  · have hf := if_f q hf
    refine p_iload X (dcg dc_X8_withPut 10 rfl) rfl ?_
    refine p_iload_n X (dcg dc_X8_withPut 11 rfl) rfl rfl ?_
    refine p_icmp_ne (tgt := 31) X (dcg dc_X8_withPut 12 rfl) (by decide) (fun q => ?_) (fun q => ?_)
    · have hf := if_t q hf
      refine p_pick [0, 1, 2, 3, 4] ?_
      exact wX8_withPut_b31 X hG hnm hM hN hu hv hf k0 kl0 kf
    · have hf := if_f q hf
      refine p_aloadq_n X (dcg dc_X8_withPut 13 rfl) rfl rfl ?_
      refine p_iload_n X (dcg dc_X8_withPut 14 rfl) rfl rfl ?_
      obtain ⟨a14, e15, hf⟩ := gs_some hf
      first | subst e15 | (try rw [e15])
      obtain ⟨hk16, hf⟩ := gd_some hf
      obtain ⟨z17, hz17, hf⟩ := bd_some hf
      refine p_callV (As := [_]) X ml_X8_20 (dcg dc_X8_withPut 15 rfl) rfl rfl hk16 (wX8_add hG hz17) (by decide) (room4 (Nat.le_of_ble_eq_true rfl)) hcm hsm ?_
      rintro _ u9 ⟨rfl, e9⟩; have e9 := e9.symm; subst e9
      have hu := hu.trans (mX8_add hz17).1
      have hv := hv.trans (mX8_add hz17).2
      refine p_pick [0, 1, 2, 3, 4] ?_
      exact wX8_withPut_b31 X hG hnm hM hN hu hv hf k0 kl0 kf
noncomputable def fX8_withPut_l11 (v0 : Nat) (v1 : Int32) (v2 : Int32) (v3 : Option Nat) (v4 : Int32) (h : PH) : Option (Option Nat × PH) := wh (fun z : (Int32 × PH) => fX8_withPut_c11 v0 v1 v2 v3 (z.1) (z.2)) (v4, h)
set_option maxRecDepth 100000 in
theorem mX8_withPut_l11 {v0 : Nat} {v1 : Int32} {v2 : Int32} {v3 : Option Nat} {v4 : Int32} {h : PH} {r : (Option Nat × PH)} (hf : fX8_withPut_l11 v0 v1 v2 v3 v4 h = some r) : lez h (hX r.2) (hV r.2) := by
  unfold fX8_withPut_l11 at hf
  refine wh_ind (P := fun z => lez (z.2) (hX r.2) (hV r.2)) (fun z x0 hs i1 i2 => ?_) _ hf
  obtain ⟨c0, cf⟩ := mX8_withPut_c11 (v0 := v0) (v1 := v1) (v2 := v2) (v3 := v3) (v4 := z.1) (h := z.2) hs
  rcases hxx : x0 with zz | zz
  · exact lez_tr (c0 zz hxx) (i1 zz hxx)
  · have ee := i2 zz hxx; subst ee; exact cf zz hxx
set_option maxRecDepth 100000 in
theorem wX8_withPut_l11 {E : PE} {p : Program} {l : Launch} {e : Env} {s : State} {m : MethodId} {args : Array Value} {below : List Frame} {meth : Method} {c : Code} {X0 V0 MC MS uc us : Nat} (X : Cx E p l e (rmv 2 MC MS) s m args below meth c RX8 cX8_withPut 5 (some (.object "WordFinder$Text"))) (hG : Gs E l) (hnm : meth.name = yX8_withPut.name) {v0 : Nat} {v1 : Int32} {v2 : Int32} {v3 : Option Nat} {v4 : Int32} {h : PH} {r : (Option Nat × PH)} (hM : MC + X0 = (hX r.2)) (hN : MS + V0 = (hV r.2)) (hu : uc + X0 = hX h) (hv : us + V0 = hV h) (hf : fX8_withPut_l11 v0 v1 v2 v3 v4 h = some r)  : PW E p l e (rmv 2 MC MS) s m args below meth c 5 uc us (MQ below (QG E (fun v u => v = some (va_rf r.1) ∧ u = r.2)) args s MC MS (pA E)) h 11 [(0, some (.ref v0)), (1, some (.int v1)), (2, some (.int v2)), (3, some (va_rf v3)), (4, some (.int v4))] [] := by
  unfold fX8_withPut_l11 at hf
  refine wh_ind2 (P := fun z => ∀ uc us : Nat, uc + X0 = hX (z.2) → us + V0 = hV (z.2) → PW E p l e (rmv 2 MC MS) s m args below meth c 5 uc us (MQ below (QG E (fun v u => v = some (va_rf r.1) ∧ u = r.2)) args s MC MS (pA E)) (z.2) 11 [(0, some (.ref v0)), (1, some (.int v1)), (2, some (.int v2)), (3, some (va_rf v3)), (4, some (.int (z.1)))] []) (fun z x0 hs i1 i2 uc us hu hv => ?_) _ hf uc us hu hv
  exact wX8_withPut_c11 (r := r) (v0 := v0) (v1 := v1) (v2 := v2) (v3 := v3) (v4 := z.1) (h := z.2) X hG hnm hM hN hu hv hs (fun z1 uc1 us1 e1 e2 e3 => (i1 z1 e1).1 uc1 us1 e2 e3) (fun z1 e1 => mX8_withPut_l11 (v0 := v0) (v1 := v1) (v2 := v2) (v3 := v3) (v4 := z1.1) (h := z1.2) (by unfold fX8_withPut_l11; exact (i1 z1 e1).2))  i2
noncomputable def fX8_withPut_b7 (v0 : Nat) (v1 : Int32) (v2 : Int32) (t0 : Nat) (h : PH) : Option (Option Nat × PH) :=
  fX8_withPut_l11 v0 v1 v2 (some t0) (0 : Int32) h
set_option maxRecDepth 100000 in
theorem mX8_withPut_b7 {v0 : Nat} {v1 : Int32} {v2 : Int32} {t0 : Nat} {h : PH} {r : (Option Nat × PH)} (hf : fX8_withPut_b7 v0 v1 v2 t0 h = some r) : lez h (hX r.2) (hV r.2) := by
  unfold fX8_withPut_b7 at hf
  have hle := lez_rf h
  exact lez_rt (mX8_withPut_l11 hf) hle
set_option maxRecDepth 100000 in
theorem wX8_withPut_b7 {E : PE} {p : Program} {l : Launch} {e : Env} {s : State} {m : MethodId} {args : Array Value} {below : List Frame} {meth : Method} {c : Code} {X0 V0 MC MS uc us : Nat} (X : Cx E p l e (rmv 2 MC MS) s m args below meth c RX8 cX8_withPut 5 (some (.object "WordFinder$Text"))) (hG : Gs E l) (hnm : meth.name = yX8_withPut.name) {v0 : Nat} {v1 : Int32} {v2 : Int32} {t0 : Nat} {h : PH} {r : (Option Nat × PH)} (hM : MC + X0 = (hX r.2)) (hN : MS + V0 = (hV r.2)) (hu : uc + X0 = hX h) (hv : us + V0 = hV h) (hf : fX8_withPut_b7 v0 v1 v2 t0 h = some r)  : PW E p l e (rmv 2 MC MS) s m args below meth c 5 uc us (MQ below (QG E (fun v u => v = some (va_rf r.1) ∧ u = r.2)) args s MC MS (pA E)) h 7 [(0, some (.ref v0)), (1, some (.int v1)), (2, some (.int v2))] [.ref t0] := by
  have hm1 : lez h (hX r.2) (hV r.2) := mX8_withPut_b7 hf
  have hcm : uc ≤ MC := (by have o0 := hm1.1; have o1 := hM; have o2 := hu; (try simp only [hX_sI, hX_sR, hX_sL, hX_sD, hX_sIa, hX_sRa, hV_sI, hV_sR, hV_sL, hV_sD, hV_sIa, hV_sRa, hX_new, hV_new] at o0 o1 o2 ⊢); omega)
  have hsm : us ≤ MS := (by have o0 := hm1.2; have o1 := hN; have o2 := hv; (try simp only [hX_sI, hX_sR, hX_sL, hX_sD, hX_sIa, hX_sRa, hV_sI, hV_sR, hV_sL, hV_sD, hV_sIa, hV_sRa, hX_new, hV_new] at o0 o1 o2 ⊢); omega)
  clear hm1
  unfold fX8_withPut_b7 at hf
  refine p_astore_n X (dcg dc_X8_withPut 3 rfl) rfl (by decide) rfl ?_
  refine p_iconst (v := 0) X (dcg dc_X8_withPut 4 rfl) (by decide) ?_
  refine p_istore X (dcg dc_X8_withPut 5 rfl) (by decide) rfl ?_
  refine p_pick [0, 1, 2, 3, 4] ?_
  exact wX8_withPut_l11 X hG hnm hM hN hu hv hf 
noncomputable def fX8_withPut_b3 (v0 : Nat) (v1 : Int32) (v2 : Int32) (t0 : Nat) (h : PH) : Option (Option Nat × PH) :=
  bd (fX8_init t0 h) (fun z1 =>
  fX8_withPut_b7 v0 v1 v2 t0 z1)
set_option maxRecDepth 100000 in
theorem mX8_withPut_b3 {v0 : Nat} {v1 : Int32} {v2 : Int32} {t0 : Nat} {h : PH} {r : (Option Nat × PH)} (hf : fX8_withPut_b3 v0 v1 v2 t0 h = some r) : lez h (hX r.2) (hV r.2) := by
  unfold fX8_withPut_b3 at hf
  have hle := lez_rf h
  obtain ⟨z1, hz1, hf⟩ := bd_some hf
  have hle := lez_rt (mX8_init hz1) hle
  exact lez_rt (mX8_withPut_b7 hf) hle
set_option maxRecDepth 100000 in
theorem wX8_withPut_b3 {E : PE} {p : Program} {l : Launch} {e : Env} {s : State} {m : MethodId} {args : Array Value} {below : List Frame} {meth : Method} {c : Code} {X0 V0 MC MS uc us : Nat} (X : Cx E p l e (rmv 2 MC MS) s m args below meth c RX8 cX8_withPut 5 (some (.object "WordFinder$Text"))) (hG : Gs E l) (hnm : meth.name = yX8_withPut.name) {v0 : Nat} {v1 : Int32} {v2 : Int32} {t0 : Nat} {h : PH} {r : (Option Nat × PH)} (hM : MC + X0 = (hX r.2)) (hN : MS + V0 = (hV r.2)) (hu : uc + X0 = hX h) (hv : us + V0 = hV h) (hf : fX8_withPut_b3 v0 v1 v2 t0 h = some r)  : PW E p l e (rmv 2 MC MS) s m args below meth c 5 uc us (MQ below (QG E (fun v u => v = some (va_rf r.1) ∧ u = r.2)) args s MC MS (pA E)) h 3 [(0, some (.ref v0)), (1, some (.int v1)), (2, some (.int v2))] [.ref t0] := by
  have hm1 : lez h (hX r.2) (hV r.2) := mX8_withPut_b3 hf
  have hcm : uc ≤ MC := (by have o0 := hm1.1; have o1 := hM; have o2 := hu; (try simp only [hX_sI, hX_sR, hX_sL, hX_sD, hX_sIa, hX_sRa, hV_sI, hV_sR, hV_sL, hV_sD, hV_sIa, hV_sRa, hX_new, hV_new] at o0 o1 o2 ⊢); omega)
  have hsm : us ≤ MS := (by have o0 := hm1.2; have o1 := hN; have o2 := hv; (try simp only [hX_sI, hX_sR, hX_sL, hX_sD, hX_sIa, hX_sRa, hV_sI, hV_sR, hV_sL, hV_sD, hV_sIa, hV_sRa, hX_new, hV_new] at o0 o1 o2 ⊢); omega)
  clear hm1
  unfold fX8_withPut_b3 at hf
  refine p_dup X (dcg dc_X8_withPut 1 rfl) rfl ?_
  obtain ⟨z1, hz1, hf⟩ := bd_some hf
  have hc1 := mX8_init hz1
  have hm1 : lez _ (hX r.2) (hV r.2) := mX8_withPut_b7 hf
  refine p_callI (As := []) (ret1 := none) X ml_X8_19 (dcg dc_X8_withPut 2 rfl) rfl rfl  (wX8_init hG hz1) (by decide) (room4 (Nat.le_of_ble_eq_true rfl)) (by have o0 := hm1.1; have o1 := hc1.1; have o2 := hM; have o3 := hu; (try simp only [hX_sI, hX_sR, hX_sL, hX_sD, hX_sIa, hX_sRa, hV_sI, hV_sR, hV_sL, hV_sD, hV_sIa, hV_sRa, hX_new, hV_new] at o0 o1 o2 o3 ⊢); omega) (by have o0 := hm1.2; have o1 := hc1.2; have o2 := hN; have o3 := hv; (try simp only [hX_sI, hX_sR, hX_sL, hX_sD, hX_sIa, hX_sRa, hV_sI, hV_sR, hV_sL, hV_sD, hV_sIa, hV_sRa, hX_new, hV_new] at o0 o1 o2 o3 ⊢); omega) ?_
  rintro _ u9 ⟨rfl, e9⟩; have e9 := e9.symm; subst e9
  refine p_pick [0, 1, 2] ?_
  exact wX8_withPut_b7 X hG hnm hM hN (by have o0 := hc1.1; have o1 := hu; (try simp only [hX_sI, hX_sR, hX_sL, hX_sD, hX_sIa, hX_sRa, hV_sI, hV_sR, hV_sL, hV_sD, hV_sIa, hV_sRa, hX_new, hV_new] at o0 o1 ⊢); omega) (by have o0 := hc1.2; have o1 := hv; (try simp only [hX_sI, hX_sR, hX_sL, hX_sD, hX_sIa, hX_sRa, hV_sI, hV_sR, hV_sL, hV_sD, hV_sIa, hV_sRa, hX_new, hV_new] at o0 o1 ⊢); omega) hf 
noncomputable def fX8_withPut_b0 (v0 : Nat) (v1 : Int32) (v2 : Int32) (h : PH) : Option (Option Nat × PH) :=
  fX8_withPut_b3 v0 v1 v2 (hX h) (hnew h 8 2)
set_option maxRecDepth 100000 in
theorem mX8_withPut_b0 {v0 : Nat} {v1 : Int32} {v2 : Int32} {h : PH} {r : (Option Nat × PH)} (hf : fX8_withPut_b0 v0 v1 v2 h = some r) : lez h (hX r.2) (hV r.2) := by
  unfold fX8_withPut_b0 at hf
  have hle := lez_rf h
  have hle := lez_nw (c := 8) (n := 2) hle
  exact lez_rt (mX8_withPut_b3 hf) hle
set_option maxRecDepth 100000 in
theorem wX8_withPut_b0 {E : PE} {p : Program} {l : Launch} {e : Env} {s : State} {m : MethodId} {args : Array Value} {below : List Frame} {meth : Method} {c : Code} {X0 V0 MC MS uc us : Nat} (X : Cx E p l e (rmv 2 MC MS) s m args below meth c RX8 cX8_withPut 5 (some (.object "WordFinder$Text"))) (hG : Gs E l) (hnm : meth.name = yX8_withPut.name) {v0 : Nat} {v1 : Int32} {v2 : Int32} {h : PH} {r : (Option Nat × PH)} (hM : MC + X0 = (hX r.2)) (hN : MS + V0 = (hV r.2)) (hu : uc + X0 = hX h) (hv : us + V0 = hV h) (hf : fX8_withPut_b0 v0 v1 v2 h = some r)  : PW E p l e (rmv 2 MC MS) s m args below meth c 5 uc us (MQ below (QG E (fun v u => v = some (va_rf r.1) ∧ u = r.2)) args s MC MS (pA E)) h 0 [(0, some (.ref v0)), (1, some (.int v1)), (2, some (.int v2))] [] := by
  have hm1 : lez h (hX r.2) (hV r.2) := mX8_withPut_b0 hf
  have hcm : uc ≤ MC := (by have o0 := hm1.1; have o1 := hM; have o2 := hu; (try simp only [hX_sI, hX_sR, hX_sL, hX_sD, hX_sIa, hX_sRa, hV_sI, hV_sR, hV_sL, hV_sD, hV_sIa, hV_sRa, hX_new, hV_new] at o0 o1 o2 ⊢); omega)
  have hsm : us ≤ MS := (by have o0 := hm1.2; have o1 := hN; have o2 := hv; (try simp only [hX_sI, hX_sR, hX_sL, hX_sD, hX_sIa, hX_sRa, hV_sI, hV_sR, hV_sL, hV_sD, hV_sIa, hV_sRa, hX_new, hV_new] at o0 o1 o2 ⊢); omega)
  clear hm1
  unfold fX8_withPut_b0 at hf
  have hm1 : lez _ (hX r.2) (hV r.2) := mX8_withPut_b3 hf
  have hm2 := lez_new hm1
  refine p_newN (ci := 8) (q := (RX8, TX8, 2)) (n := 2) X rfl rfl (by decide) tw_1234 tw_328 tw_112 (dcg dc_X8_withPut 0 rfl) (show uc + 1 ≤ MC from (by have o0 := hm2.1; have o1 := hM; have o2 := hu; (try simp only [hX_sI, hX_sR, hX_sL, hX_sD, hX_sIa, hX_sRa, hV_sI, hV_sR, hV_sL, hV_sD, hV_sIa, hV_sRa, hX_new, hV_new] at o0 o1 o2 ⊢); omega)) (show us + 2 ≤ MS from (by have o0 := hm2.2; have o1 := hN; have o2 := hv; (try simp only [hX_sI, hX_sR, hX_sL, hX_sD, hX_sIa, hX_sRa, hV_sI, hV_sR, hV_sL, hV_sD, hV_sIa, hV_sRa, hX_new, hV_new] at o0 o1 o2 ⊢); omega)) ?_
  refine p_pick [0, 1, 2] ?_
  exact wX8_withPut_b3 X hG hnm hM hN (by have o0 := hu; (try simp only [hX_sI, hX_sR, hX_sL, hX_sD, hX_sIa, hX_sRa, hV_sI, hV_sR, hV_sL, hV_sD, hV_sIa, hV_sRa, hX_new, hV_new] at o0 ⊢); omega) (by have o0 := hv; (try simp only [hX_sI, hX_sR, hX_sL, hX_sD, hX_sIa, hX_sRa, hV_sI, hV_sR, hV_sL, hV_sD, hV_sIa, hV_sRa, hX_new, hV_new] at o0 ⊢); omega) hf 
noncomputable def fX8_withPut (v0 : Nat) (v1 : Int32) (v2 : Int32) (h : PH) : Option (Option Nat × PH) :=
  fX8_withPut_b0 v0 v1 v2 h
set_option maxRecDepth 100000 in
theorem mX8_withPut {v0 : Nat} {v1 : Int32} {v2 : Int32} {h : PH} {r : (Option Nat × PH)} (hf : fX8_withPut v0 v1 v2 h = some r) : lez h (hX r.2) (hV r.2) := by
  unfold fX8_withPut at hf
  have hle := lez_rf h
  exact lez_rt (mX8_withPut_b0 hf) hle
set_option maxRecDepth 100000 in
theorem wX8_withPut {E : PE} {l : Launch} (hG : Gs E l) {v0 : Nat} {v1 : Int32} {v2 : Int32} {h : PH} {r : (Option Nat × PH)} (hf : fX8_withPut v0 v1 v2 h = some r) : Ct E l 2 ((hX r.2) - hX h) ((hV r.2) - hV h) yX8_withPut cX8_withPut 5 (some (.object "WordFinder$Text")) [.ref v0, .int v1, .int v2] h (fun v u => v = some (va_rf r.1) ∧ u = r.2) := by
  have hmm := mX8_withPut hf
  refine ct_of hG (by decide) (Nat.le_of_ble_eq_true rfl) ?_
  intro p e s m args below meth c X hnm
  show PW E p l e _ s m args below meth c _ 0 0 _ h 0 [(0, some (.ref v0)), (1, some (.int v1)), (2, some (.int v2))] []
  unfold fX8_withPut at hf
  have hM := Nat.sub_add_cancel hmm.1
  have hN := Nat.sub_add_cancel hmm.2
  refine p_pick [0, 1, 2] ?_
  exact wX8_withPut_b0 X hG hnm hM hN (Nat.zero_add _) (Nat.zero_add _) hf
theorem dc_X8_withTaken : decs cX8_withTaken [(0, .new 9, 3), (3, .dup, 1), (4, .invokespecial 19, 3), (7, .astore_n 2, 1), (8, .iconst 0, 1), (9, .istore_n 3, 1), (10, .iload_n 3, 1), (11, .aload_n 0, 1), (12, .getfield 15, 3), (15, .if_icmp .ge 24, 3), (18, .iload_n 3, 1), (19, .iload_n 1, 1), (20, .if_icmp .eq 13, 3), (23, .aload_n 2, 1), (24, .aload_n 0, 1), (25, .getfield 11, 3), (28, .iload_n 3, 1), (29, .iaload, 1), (30, .invokevirtual 20, 3), (33, .iinc 3 1, 3), (36, .goto (-26), 3), (39, .aload_n 2, 1), (40, .areturn, 1)] = true := by decide +kernel
noncomputable def fX8_withTaken_b33 (v0 : Nat) (v1 : Int32) (v2 : Option Nat) (v3 : Int32) (h : PH) : Option ((Int32 × PH) ⊕ (Option Nat × PH)) :=
  some (.inl ((v3 + 1), h))
set_option maxRecDepth 100000 in
theorem mX8_withTaken_b33 {v0 : Nat} {v1 : Int32} {v2 : Option Nat} {v3 : Int32} {h : PH} {x : ((Int32 × PH) ⊕ (Option Nat × PH))} (hf : fX8_withTaken_b33 v0 v1 v2 v3 h = some x) : (∀ w9 : (Int32 × PH), x = .inl w9 → lez h (hX (w9.2)) (hV (w9.2))) ∧ (∀ w9 : (Option Nat × PH), x = .inr w9 → lez h (hX w9.2) (hV w9.2)) := by
  unfold fX8_withTaken_b33 at hf
  have hle := lez_rf h
  have ee := Option.some.inj hf; subst ee
  exact ⟨(fun z e => by have ee := Sum.inl.inj (e); subst ee; exact hle), (fun z e => nomatch e)⟩
set_option maxRecDepth 100000 in
theorem wX8_withTaken_b33 {E : PE} {p : Program} {l : Launch} {e : Env} {s : State} {m : MethodId} {args : Array Value} {below : List Frame} {meth : Method} {c : Code} {X0 V0 MC MS uc us : Nat} (X : Cx E p l e (rmv 2 MC MS) s m args below meth c RX8 cX8_withTaken 4 (some (.object "WordFinder$Text"))) (hG : Gs E l) (hnm : meth.name = yX8_withTaken.name) {v0 : Nat} {v1 : Int32} {v2 : Option Nat} {v3 : Int32} {h : PH} {r : (Option Nat × PH)} {x : ((Int32 × PH) ⊕ (Option Nat × PH))} (hM : MC + X0 = (hX r.2)) (hN : MS + V0 = (hV r.2)) (hu : uc + X0 = hX h) (hv : us + V0 = hV h) (hf : fX8_withTaken_b33 v0 v1 v2 v3 h = some x) (k0 : ∀ (z : (Int32 × PH)) (uc us : Nat), x = .inl z → uc + X0 = hX (z.2) → us + V0 = hV (z.2) → PW E p l e (rmv 2 MC MS) s m args below meth c 4 uc us (MQ below (QG E (fun v u => v = some (va_rf r.1) ∧ u = r.2)) args s MC MS (pA E)) (z.2) 10 [(0, some (.ref v0)), (1, some (.int v1)), (2, some (va_rf v2)), (3, some (.int (z.1)))] []) (kl0 : ∀ z : (Int32 × PH), x = .inl z → lez (z.2) (hX r.2) (hV r.2)) (kf : ∀ z : (Option Nat × PH), x = .inr z → z = r) : PW E p l e (rmv 2 MC MS) s m args below meth c 4 uc us (MQ below (QG E (fun v u => v = some (va_rf r.1) ∧ u = r.2)) args s MC MS (pA E)) h 33 [(0, some (.ref v0)), (1, some (.int v1)), (2, some (va_rf v2)), (3, some (.int v3))] [] := by
  have hm1 : lez h (hX r.2) (hV r.2) := by
    obtain ⟨c0, cf⟩ := mX8_withTaken_b33 hf
    rcases hxx : x with zz | zz
    · exact lez_tr (c0 zz hxx) (kl0 zz hxx)
    · have ee := kf zz hxx; subst ee; exact cf zz hxx
  have hcm : uc ≤ MC := (by have o0 := hm1.1; have o1 := hM; have o2 := hu; (try simp only [hX_sI, hX_sR, hX_sL, hX_sD, hX_sIa, hX_sRa, hV_sI, hV_sR, hV_sL, hV_sD, hV_sIa, hV_sRa, hX_new, hV_new] at o0 o1 o2 ⊢); omega)
  have hsm : us ≤ MS := (by have o0 := hm1.2; have o1 := hN; have o2 := hv; (try simp only [hX_sI, hX_sR, hX_sL, hX_sD, hX_sIa, hX_sRa, hV_sI, hV_sR, hV_sL, hV_sD, hV_sIa, hV_sRa, hX_new, hV_new] at o0 o1 o2 ⊢); omega)
  clear hm1
  unfold fX8_withTaken_b33 at hf
  refine p_iinc (v := 1) X (dcg dc_X8_withTaken 19 rfl) rfl (by decide) (by decide) (nwq (k := 2) rfl) ?_
  refine p_goto (tgt := 10) X (dcg dc_X8_withTaken 20 rfl) (by decide) ?_
  refine p_pick [0, 1, 2, 3] ?_
  exact k0 _ _ _ (Option.some.inj hf).symm hu hv
noncomputable def fX8_withTaken_c10 (v0 : Nat) (v1 : Int32) (v2 : Option Nat) (v3 : Int32) (h : PH) : Option ((Int32 × PH) ⊕ (Option Nat × PH)) :=
  gd (hK h v0 = 8) (if ((hI h 8 v0 1) ≤ v3) then (mr (some ((v2, h)))) else
  if (v3 = v1) then (fX8_withTaken_b33 v0 v1 v2 v3 h) else
  gs (hR h 8 v0 0) (fun a5 =>
  gd (hK h a5 = 20 ∧ inb v3 (hN h a5)) (gs v2 (fun a9 =>
  gd (hK h a9 = 8) (bd (fX8_add a9 (hI h 20 a5 (Int32.toNatClampNeg v3)) h) (fun z12 =>
  fX8_withTaken_b33 v0 v1 (some a9) v3 z12))))))
set_option maxRecDepth 100000 in
theorem mX8_withTaken_c10 {v0 : Nat} {v1 : Int32} {v2 : Option Nat} {v3 : Int32} {h : PH} {x : ((Int32 × PH) ⊕ (Option Nat × PH))} (hf : fX8_withTaken_c10 v0 v1 v2 v3 h = some x) : (∀ w9 : (Int32 × PH), x = .inl w9 → lez h (hX (w9.2)) (hV (w9.2))) ∧ (∀ w9 : (Option Nat × PH), x = .inr w9 → lez h (hX w9.2) (hV w9.2)) := by
  unfold fX8_withTaken_c10 at hf
  have hle := lez_rf h
  obtain ⟨hk2, hf⟩ := gd_some hf
  rcases ite_or hf with ⟨q, hf⟩ | ⟨q, hf⟩
  · have hf := if_t q hf
    obtain ⟨y3, hfm, rfl⟩ := mr_some hf; have hf := hfm; clear hfm
    have ee := Option.some.inj hf; subst ee
    exact ⟨(fun z e => nomatch e), (fun z e => by have ee := Sum.inr.inj (e); subst ee; exact hle)⟩
  · have hf := if_f q hf
    rcases ite_or hf with ⟨q, hf⟩ | ⟨q, hf⟩
    · have hf := if_t q hf
      obtain ⟨c0, cf⟩ := mX8_withTaken_b33 hf
      exact ⟨fun z e => lez_rt (c0 z (e)) hle, fun z e => lez_rt (cf z (e)) hle⟩
    · have hf := if_f q hf
      obtain ⟨a5, e6, hf⟩ := gs_some hf
      obtain ⟨⟨hk8, hb7⟩, hf⟩ := gd_some hf
      obtain ⟨a9, e10, hf⟩ := gs_some hf
      obtain ⟨hk11, hf⟩ := gd_some hf
      obtain ⟨z12, hz12, hf⟩ := bd_some hf
      have hle := lez_rt (lez_eq (mX8_add hz12)) hle
      obtain ⟨c0, cf⟩ := mX8_withTaken_b33 hf
      exact ⟨fun z e => lez_rt (c0 z (e)) hle, fun z e => lez_rt (cf z (e)) hle⟩
set_option maxRecDepth 100000 in
theorem wX8_withTaken_c10 {E : PE} {p : Program} {l : Launch} {e : Env} {s : State} {m : MethodId} {args : Array Value} {below : List Frame} {meth : Method} {c : Code} {X0 V0 MC MS uc us : Nat} (X : Cx E p l e (rmv 2 MC MS) s m args below meth c RX8 cX8_withTaken 4 (some (.object "WordFinder$Text"))) (hG : Gs E l) (hnm : meth.name = yX8_withTaken.name) {v0 : Nat} {v1 : Int32} {v2 : Option Nat} {v3 : Int32} {h : PH} {r : (Option Nat × PH)} {x : ((Int32 × PH) ⊕ (Option Nat × PH))} (hM : MC + X0 = (hX r.2)) (hN : MS + V0 = (hV r.2)) (hu : uc + X0 = hX h) (hv : us + V0 = hV h) (hf : fX8_withTaken_c10 v0 v1 v2 v3 h = some x) (k0 : ∀ (z : (Int32 × PH)) (uc us : Nat), x = .inl z → uc + X0 = hX (z.2) → us + V0 = hV (z.2) → PW E p l e (rmv 2 MC MS) s m args below meth c 4 uc us (MQ below (QG E (fun v u => v = some (va_rf r.1) ∧ u = r.2)) args s MC MS (pA E)) (z.2) 10 [(0, some (.ref v0)), (1, some (.int v1)), (2, some (va_rf v2)), (3, some (.int (z.1)))] []) (kl0 : ∀ z : (Int32 × PH), x = .inl z → lez (z.2) (hX r.2) (hV r.2)) (kf : ∀ z : (Option Nat × PH), x = .inr z → z = r) : PW E p l e (rmv 2 MC MS) s m args below meth c 4 uc us (MQ below (QG E (fun v u => v = some (va_rf r.1) ∧ u = r.2)) args s MC MS (pA E)) h 10 [(0, some (.ref v0)), (1, some (.int v1)), (2, some (va_rf v2)), (3, some (.int v3))] [] := by
  have hm1 : lez h (hX r.2) (hV r.2) := by
    obtain ⟨c0, cf⟩ := mX8_withTaken_c10 hf
    rcases hxx : x with zz | zz
    · exact lez_tr (c0 zz hxx) (kl0 zz hxx)
    · have ee := kf zz hxx; subst ee; exact cf zz hxx
  have hcm : uc ≤ MC := (by have o0 := hm1.1; have o1 := hM; have o2 := hu; (try simp only [hX_sI, hX_sR, hX_sL, hX_sD, hX_sIa, hX_sRa, hV_sI, hV_sR, hV_sL, hV_sD, hV_sIa, hV_sRa, hX_new, hV_new] at o0 o1 o2 ⊢); omega)
  have hsm : us ≤ MS := (by have o0 := hm1.2; have o1 := hN; have o2 := hv; (try simp only [hX_sI, hX_sR, hX_sL, hX_sD, hX_sIa, hX_sRa, hV_sI, hV_sR, hV_sL, hV_sD, hV_sIa, hV_sRa, hX_new, hV_new] at o0 o1 o2 ⊢); omega)
  clear hm1
  unfold fX8_withTaken_c10 at hf
  refine p_iload_n X (dcg dc_X8_withTaken 6 rfl) rfl rfl ?_
  refine p_aload_n X (dcg dc_X8_withTaken 7 rfl) rfl rfl ?_
  obtain ⟨hk2, hf⟩ := gd_some hf
  refine p_getI X fl_X8_15 rfl (by decide) (dcg dc_X8_withTaken 8 rfl) hk2 ?_
  refine p_icmp_ge (tgt := 39) X (dcg dc_X8_withTaken 9 rfl) (by decide) (fun q => ?_) (fun q => ?_)
  · have hf := if_t q hf
    obtain ⟨y3, hf, hy4⟩ := mr_some hf
    have hy4f := kf y3 hy4
    subst hy4f
    refine p_aloadq_n X (dcg dc_X8_withTaken 21 rfl) rfl rfl ?_
    have er := Option.some.inj hf
    subst er
    exact p_aret X rfl (Or.inl ⟨_, rfl⟩) (dcg dc_X8_withTaken 22 rfl) ⟨rfl, rfl⟩ hcm hsm
  · have hf := if_f q hf
    refine p_iload_n X (dcg dc_X8_withTaken 10 rfl) rfl rfl ?_
    refine p_iload_n X (dcg dc_X8_withTaken 11 rfl) rfl rfl ?_
    refine p_icmp_eq (tgt := 33) X (dcg dc_X8_withTaken 12 rfl) (by decide) (fun q => ?_) (fun q => ?_)
    · have hf := if_t q hf
      refine p_pick [0, 1, 2, 3] ?_
      exact wX8_withTaken_b33 X hG hnm hM hN hu hv hf k0 kl0 kf
    · have hf := if_f q hf
      refine p_aloadq_n X (dcg dc_X8_withTaken 13 rfl) rfl rfl ?_
      refine p_aload_n X (dcg dc_X8_withTaken 14 rfl) rfl rfl ?_
      refine p_getR X fl_X8_11 rfl (by decide) (dcg dc_X8_withTaken 15 rfl) hk2 ?_
      refine p_iload_n X (dcg dc_X8_withTaken 16 rfl) rfl rfl ?_
      obtain ⟨a5, e6, hf⟩ := gs_some hf
      first | subst e6 | (try rw [e6])
      obtain ⟨⟨hk8, hb7⟩, hf⟩ := gd_some hf
      refine p_iald X (dcg dc_X8_withTaken 17 rfl) hk8 (vp_of_inb hb7) ?_
      obtain ⟨a9, e10, hf⟩ := gs_some hf
      first | subst e10 | (try rw [e10])
      obtain ⟨hk11, hf⟩ := gd_some hf
      obtain ⟨z12, hz12, hf⟩ := bd_some hf
      refine p_callV (As := [_]) X ml_X8_20 (dcg dc_X8_withTaken 18 rfl) rfl rfl hk11 (wX8_add hG hz12) (by decide) (room4 (Nat.le_of_ble_eq_true rfl)) hcm hsm ?_
      rintro _ u9 ⟨rfl, e9⟩; have e9 := e9.symm; subst e9
      have hu := hu.trans (mX8_add hz12).1
      have hv := hv.trans (mX8_add hz12).2
      refine p_pick [0, 1, 2, 3] ?_
      exact wX8_withTaken_b33 X hG hnm hM hN hu hv hf k0 kl0 kf
noncomputable def fX8_withTaken_l10 (v0 : Nat) (v1 : Int32) (v2 : Option Nat) (v3 : Int32) (h : PH) : Option (Option Nat × PH) := wh (fun z : (Int32 × PH) => fX8_withTaken_c10 v0 v1 v2 (z.1) (z.2)) (v3, h)
set_option maxRecDepth 100000 in
theorem mX8_withTaken_l10 {v0 : Nat} {v1 : Int32} {v2 : Option Nat} {v3 : Int32} {h : PH} {r : (Option Nat × PH)} (hf : fX8_withTaken_l10 v0 v1 v2 v3 h = some r) : lez h (hX r.2) (hV r.2) := by
  unfold fX8_withTaken_l10 at hf
  refine wh_ind (P := fun z => lez (z.2) (hX r.2) (hV r.2)) (fun z x0 hs i1 i2 => ?_) _ hf
  obtain ⟨c0, cf⟩ := mX8_withTaken_c10 (v0 := v0) (v1 := v1) (v2 := v2) (v3 := z.1) (h := z.2) hs
  rcases hxx : x0 with zz | zz
  · exact lez_tr (c0 zz hxx) (i1 zz hxx)
  · have ee := i2 zz hxx; subst ee; exact cf zz hxx
set_option maxRecDepth 100000 in
theorem wX8_withTaken_l10 {E : PE} {p : Program} {l : Launch} {e : Env} {s : State} {m : MethodId} {args : Array Value} {below : List Frame} {meth : Method} {c : Code} {X0 V0 MC MS uc us : Nat} (X : Cx E p l e (rmv 2 MC MS) s m args below meth c RX8 cX8_withTaken 4 (some (.object "WordFinder$Text"))) (hG : Gs E l) (hnm : meth.name = yX8_withTaken.name) {v0 : Nat} {v1 : Int32} {v2 : Option Nat} {v3 : Int32} {h : PH} {r : (Option Nat × PH)} (hM : MC + X0 = (hX r.2)) (hN : MS + V0 = (hV r.2)) (hu : uc + X0 = hX h) (hv : us + V0 = hV h) (hf : fX8_withTaken_l10 v0 v1 v2 v3 h = some r)  : PW E p l e (rmv 2 MC MS) s m args below meth c 4 uc us (MQ below (QG E (fun v u => v = some (va_rf r.1) ∧ u = r.2)) args s MC MS (pA E)) h 10 [(0, some (.ref v0)), (1, some (.int v1)), (2, some (va_rf v2)), (3, some (.int v3))] [] := by
  unfold fX8_withTaken_l10 at hf
  refine wh_ind2 (P := fun z => ∀ uc us : Nat, uc + X0 = hX (z.2) → us + V0 = hV (z.2) → PW E p l e (rmv 2 MC MS) s m args below meth c 4 uc us (MQ below (QG E (fun v u => v = some (va_rf r.1) ∧ u = r.2)) args s MC MS (pA E)) (z.2) 10 [(0, some (.ref v0)), (1, some (.int v1)), (2, some (va_rf v2)), (3, some (.int (z.1)))] []) (fun z x0 hs i1 i2 uc us hu hv => ?_) _ hf uc us hu hv
  exact wX8_withTaken_c10 (r := r) (v0 := v0) (v1 := v1) (v2 := v2) (v3 := z.1) (h := z.2) X hG hnm hM hN hu hv hs (fun z1 uc1 us1 e1 e2 e3 => (i1 z1 e1).1 uc1 us1 e2 e3) (fun z1 e1 => mX8_withTaken_l10 (v0 := v0) (v1 := v1) (v2 := v2) (v3 := z1.1) (h := z1.2) (by unfold fX8_withTaken_l10; exact (i1 z1 e1).2))  i2
noncomputable def fX8_withTaken_b7 (v0 : Nat) (v1 : Int32) (t0 : Nat) (h : PH) : Option (Option Nat × PH) :=
  fX8_withTaken_l10 v0 v1 (some t0) (0 : Int32) h
set_option maxRecDepth 100000 in
theorem mX8_withTaken_b7 {v0 : Nat} {v1 : Int32} {t0 : Nat} {h : PH} {r : (Option Nat × PH)} (hf : fX8_withTaken_b7 v0 v1 t0 h = some r) : lez h (hX r.2) (hV r.2) := by
  unfold fX8_withTaken_b7 at hf
  have hle := lez_rf h
  exact lez_rt (mX8_withTaken_l10 hf) hle
set_option maxRecDepth 100000 in
theorem wX8_withTaken_b7 {E : PE} {p : Program} {l : Launch} {e : Env} {s : State} {m : MethodId} {args : Array Value} {below : List Frame} {meth : Method} {c : Code} {X0 V0 MC MS uc us : Nat} (X : Cx E p l e (rmv 2 MC MS) s m args below meth c RX8 cX8_withTaken 4 (some (.object "WordFinder$Text"))) (hG : Gs E l) (hnm : meth.name = yX8_withTaken.name) {v0 : Nat} {v1 : Int32} {t0 : Nat} {h : PH} {r : (Option Nat × PH)} (hM : MC + X0 = (hX r.2)) (hN : MS + V0 = (hV r.2)) (hu : uc + X0 = hX h) (hv : us + V0 = hV h) (hf : fX8_withTaken_b7 v0 v1 t0 h = some r)  : PW E p l e (rmv 2 MC MS) s m args below meth c 4 uc us (MQ below (QG E (fun v u => v = some (va_rf r.1) ∧ u = r.2)) args s MC MS (pA E)) h 7 [(0, some (.ref v0)), (1, some (.int v1))] [.ref t0] := by
  have hm1 : lez h (hX r.2) (hV r.2) := mX8_withTaken_b7 hf
  have hcm : uc ≤ MC := (by have o0 := hm1.1; have o1 := hM; have o2 := hu; (try simp only [hX_sI, hX_sR, hX_sL, hX_sD, hX_sIa, hX_sRa, hV_sI, hV_sR, hV_sL, hV_sD, hV_sIa, hV_sRa, hX_new, hV_new] at o0 o1 o2 ⊢); omega)
  have hsm : us ≤ MS := (by have o0 := hm1.2; have o1 := hN; have o2 := hv; (try simp only [hX_sI, hX_sR, hX_sL, hX_sD, hX_sIa, hX_sRa, hV_sI, hV_sR, hV_sL, hV_sD, hV_sIa, hV_sRa, hX_new, hV_new] at o0 o1 o2 ⊢); omega)
  clear hm1
  unfold fX8_withTaken_b7 at hf
  refine p_astore_n X (dcg dc_X8_withTaken 3 rfl) rfl (by decide) rfl ?_
  refine p_iconst (v := 0) X (dcg dc_X8_withTaken 4 rfl) (by decide) ?_
  refine p_istore_n X (dcg dc_X8_withTaken 5 rfl) rfl (by decide) rfl ?_
  refine p_pick [0, 1, 2, 3] ?_
  exact wX8_withTaken_l10 X hG hnm hM hN hu hv hf 
noncomputable def fX8_withTaken_b3 (v0 : Nat) (v1 : Int32) (t0 : Nat) (h : PH) : Option (Option Nat × PH) :=
  bd (fX8_init t0 h) (fun z1 =>
  fX8_withTaken_b7 v0 v1 t0 z1)
set_option maxRecDepth 100000 in
theorem mX8_withTaken_b3 {v0 : Nat} {v1 : Int32} {t0 : Nat} {h : PH} {r : (Option Nat × PH)} (hf : fX8_withTaken_b3 v0 v1 t0 h = some r) : lez h (hX r.2) (hV r.2) := by
  unfold fX8_withTaken_b3 at hf
  have hle := lez_rf h
  obtain ⟨z1, hz1, hf⟩ := bd_some hf
  have hle := lez_rt (mX8_init hz1) hle
  exact lez_rt (mX8_withTaken_b7 hf) hle
set_option maxRecDepth 100000 in
theorem wX8_withTaken_b3 {E : PE} {p : Program} {l : Launch} {e : Env} {s : State} {m : MethodId} {args : Array Value} {below : List Frame} {meth : Method} {c : Code} {X0 V0 MC MS uc us : Nat} (X : Cx E p l e (rmv 2 MC MS) s m args below meth c RX8 cX8_withTaken 4 (some (.object "WordFinder$Text"))) (hG : Gs E l) (hnm : meth.name = yX8_withTaken.name) {v0 : Nat} {v1 : Int32} {t0 : Nat} {h : PH} {r : (Option Nat × PH)} (hM : MC + X0 = (hX r.2)) (hN : MS + V0 = (hV r.2)) (hu : uc + X0 = hX h) (hv : us + V0 = hV h) (hf : fX8_withTaken_b3 v0 v1 t0 h = some r)  : PW E p l e (rmv 2 MC MS) s m args below meth c 4 uc us (MQ below (QG E (fun v u => v = some (va_rf r.1) ∧ u = r.2)) args s MC MS (pA E)) h 3 [(0, some (.ref v0)), (1, some (.int v1))] [.ref t0] := by
  have hm1 : lez h (hX r.2) (hV r.2) := mX8_withTaken_b3 hf
  have hcm : uc ≤ MC := (by have o0 := hm1.1; have o1 := hM; have o2 := hu; (try simp only [hX_sI, hX_sR, hX_sL, hX_sD, hX_sIa, hX_sRa, hV_sI, hV_sR, hV_sL, hV_sD, hV_sIa, hV_sRa, hX_new, hV_new] at o0 o1 o2 ⊢); omega)
  have hsm : us ≤ MS := (by have o0 := hm1.2; have o1 := hN; have o2 := hv; (try simp only [hX_sI, hX_sR, hX_sL, hX_sD, hX_sIa, hX_sRa, hV_sI, hV_sR, hV_sL, hV_sD, hV_sIa, hV_sRa, hX_new, hV_new] at o0 o1 o2 ⊢); omega)
  clear hm1
  unfold fX8_withTaken_b3 at hf
  refine p_dup X (dcg dc_X8_withTaken 1 rfl) rfl ?_
  obtain ⟨z1, hz1, hf⟩ := bd_some hf
  have hc1 := mX8_init hz1
  have hm1 : lez _ (hX r.2) (hV r.2) := mX8_withTaken_b7 hf
  refine p_callI (As := []) (ret1 := none) X ml_X8_19 (dcg dc_X8_withTaken 2 rfl) rfl rfl  (wX8_init hG hz1) (by decide) (room4 (Nat.le_of_ble_eq_true rfl)) (by have o0 := hm1.1; have o1 := hc1.1; have o2 := hM; have o3 := hu; (try simp only [hX_sI, hX_sR, hX_sL, hX_sD, hX_sIa, hX_sRa, hV_sI, hV_sR, hV_sL, hV_sD, hV_sIa, hV_sRa, hX_new, hV_new] at o0 o1 o2 o3 ⊢); omega) (by have o0 := hm1.2; have o1 := hc1.2; have o2 := hN; have o3 := hv; (try simp only [hX_sI, hX_sR, hX_sL, hX_sD, hX_sIa, hX_sRa, hV_sI, hV_sR, hV_sL, hV_sD, hV_sIa, hV_sRa, hX_new, hV_new] at o0 o1 o2 o3 ⊢); omega) ?_
  rintro _ u9 ⟨rfl, e9⟩; have e9 := e9.symm; subst e9
  refine p_pick [0, 1] ?_
  exact wX8_withTaken_b7 X hG hnm hM hN (by have o0 := hc1.1; have o1 := hu; (try simp only [hX_sI, hX_sR, hX_sL, hX_sD, hX_sIa, hX_sRa, hV_sI, hV_sR, hV_sL, hV_sD, hV_sIa, hV_sRa, hX_new, hV_new] at o0 o1 ⊢); omega) (by have o0 := hc1.2; have o1 := hv; (try simp only [hX_sI, hX_sR, hX_sL, hX_sD, hX_sIa, hX_sRa, hV_sI, hV_sR, hV_sL, hV_sD, hV_sIa, hV_sRa, hX_new, hV_new] at o0 o1 ⊢); omega) hf 
noncomputable def fX8_withTaken_b0 (v0 : Nat) (v1 : Int32) (h : PH) : Option (Option Nat × PH) :=
  fX8_withTaken_b3 v0 v1 (hX h) (hnew h 8 2)
set_option maxRecDepth 100000 in
theorem mX8_withTaken_b0 {v0 : Nat} {v1 : Int32} {h : PH} {r : (Option Nat × PH)} (hf : fX8_withTaken_b0 v0 v1 h = some r) : lez h (hX r.2) (hV r.2) := by
  unfold fX8_withTaken_b0 at hf
  have hle := lez_rf h
  have hle := lez_nw (c := 8) (n := 2) hle
  exact lez_rt (mX8_withTaken_b3 hf) hle
set_option maxRecDepth 100000 in
theorem wX8_withTaken_b0 {E : PE} {p : Program} {l : Launch} {e : Env} {s : State} {m : MethodId} {args : Array Value} {below : List Frame} {meth : Method} {c : Code} {X0 V0 MC MS uc us : Nat} (X : Cx E p l e (rmv 2 MC MS) s m args below meth c RX8 cX8_withTaken 4 (some (.object "WordFinder$Text"))) (hG : Gs E l) (hnm : meth.name = yX8_withTaken.name) {v0 : Nat} {v1 : Int32} {h : PH} {r : (Option Nat × PH)} (hM : MC + X0 = (hX r.2)) (hN : MS + V0 = (hV r.2)) (hu : uc + X0 = hX h) (hv : us + V0 = hV h) (hf : fX8_withTaken_b0 v0 v1 h = some r)  : PW E p l e (rmv 2 MC MS) s m args below meth c 4 uc us (MQ below (QG E (fun v u => v = some (va_rf r.1) ∧ u = r.2)) args s MC MS (pA E)) h 0 [(0, some (.ref v0)), (1, some (.int v1))] [] := by
  have hm1 : lez h (hX r.2) (hV r.2) := mX8_withTaken_b0 hf
  have hcm : uc ≤ MC := (by have o0 := hm1.1; have o1 := hM; have o2 := hu; (try simp only [hX_sI, hX_sR, hX_sL, hX_sD, hX_sIa, hX_sRa, hV_sI, hV_sR, hV_sL, hV_sD, hV_sIa, hV_sRa, hX_new, hV_new] at o0 o1 o2 ⊢); omega)
  have hsm : us ≤ MS := (by have o0 := hm1.2; have o1 := hN; have o2 := hv; (try simp only [hX_sI, hX_sR, hX_sL, hX_sD, hX_sIa, hX_sRa, hV_sI, hV_sR, hV_sL, hV_sD, hV_sIa, hV_sRa, hX_new, hV_new] at o0 o1 o2 ⊢); omega)
  clear hm1
  unfold fX8_withTaken_b0 at hf
  have hm1 : lez _ (hX r.2) (hV r.2) := mX8_withTaken_b3 hf
  have hm2 := lez_new hm1
  refine p_newN (ci := 8) (q := (RX8, TX8, 2)) (n := 2) X rfl rfl (by decide) tw_1234 tw_328 tw_112 (dcg dc_X8_withTaken 0 rfl) (show uc + 1 ≤ MC from (by have o0 := hm2.1; have o1 := hM; have o2 := hu; (try simp only [hX_sI, hX_sR, hX_sL, hX_sD, hX_sIa, hX_sRa, hV_sI, hV_sR, hV_sL, hV_sD, hV_sIa, hV_sRa, hX_new, hV_new] at o0 o1 o2 ⊢); omega)) (show us + 2 ≤ MS from (by have o0 := hm2.2; have o1 := hN; have o2 := hv; (try simp only [hX_sI, hX_sR, hX_sL, hX_sD, hX_sIa, hX_sRa, hV_sI, hV_sR, hV_sL, hV_sD, hV_sIa, hV_sRa, hX_new, hV_new] at o0 o1 o2 ⊢); omega)) ?_
  refine p_pick [0, 1] ?_
  exact wX8_withTaken_b3 X hG hnm hM hN (by have o0 := hu; (try simp only [hX_sI, hX_sR, hX_sL, hX_sD, hX_sIa, hX_sRa, hV_sI, hV_sR, hV_sL, hV_sD, hV_sIa, hV_sRa, hX_new, hV_new] at o0 ⊢); omega) (by have o0 := hv; (try simp only [hX_sI, hX_sR, hX_sL, hX_sD, hX_sIa, hX_sRa, hV_sI, hV_sR, hV_sL, hV_sD, hV_sIa, hV_sRa, hX_new, hV_new] at o0 ⊢); omega) hf 
noncomputable def fX8_withTaken (v0 : Nat) (v1 : Int32) (h : PH) : Option (Option Nat × PH) :=
  fX8_withTaken_b0 v0 v1 h
set_option maxRecDepth 100000 in
theorem mX8_withTaken {v0 : Nat} {v1 : Int32} {h : PH} {r : (Option Nat × PH)} (hf : fX8_withTaken v0 v1 h = some r) : lez h (hX r.2) (hV r.2) := by
  unfold fX8_withTaken at hf
  have hle := lez_rf h
  exact lez_rt (mX8_withTaken_b0 hf) hle
set_option maxRecDepth 100000 in
theorem wX8_withTaken {E : PE} {l : Launch} (hG : Gs E l) {v0 : Nat} {v1 : Int32} {h : PH} {r : (Option Nat × PH)} (hf : fX8_withTaken v0 v1 h = some r) : Ct E l 2 ((hX r.2) - hX h) ((hV r.2) - hV h) yX8_withTaken cX8_withTaken 4 (some (.object "WordFinder$Text")) [.ref v0, .int v1] h (fun v u => v = some (va_rf r.1) ∧ u = r.2) := by
  have hmm := mX8_withTaken hf
  refine ct_of hG (by decide) (Nat.le_of_ble_eq_true rfl) ?_
  intro p e s m args below meth c X hnm
  show PW E p l e _ s m args below meth c _ 0 0 _ h 0 [(0, some (.ref v0)), (1, some (.int v1))] []
  unfold fX8_withTaken at hf
  have hM := Nat.sub_add_cancel hmm.1
  have hN := Nat.sub_add_cancel hmm.2
  refine p_pick [0, 1] ?_
  exact wX8_withTaken_b0 X hG hnm hM hN (Nat.zero_add _) (Nat.zero_add _) hf
theorem dc_X8_withSet : decs cX8_withSet [(0, .new 9, 3), (3, .dup, 1), (4, .invokespecial 19, 3), (7, .astore_n 3, 1), (8, .iconst 0, 1), (9, .istore 4, 2), (11, .iload 4, 2), (13, .aload_n 0, 1), (14, .getfield 15, 3), (17, .if_icmp .ge 30, 3), (20, .aload_n 3, 1), (21, .iload 4, 2), (23, .iload_n 1, 1), (24, .if_icmp .ne 7, 3), (27, .iload_n 2, 1), (28, .goto 10, 3), (31, .aload_n 0, 1), (32, .getfield 11, 3), (35, .iload 4, 2), (37, .iaload, 1), (38, .invokevirtual 20, 3), (41, .iinc 4 1, 3), (44, .goto (-33), 3), (47, .aload_n 3, 1), (48, .areturn, 1)] = true := by decide +kernel
noncomputable def fX8_withSet_b38 (v0 : Nat) (v1 : Int32) (v2 : Int32) (v3 : Option Nat) (v4 : Int32) (t0 : Option Nat) (t1 : Int32) (h : PH) : Option ((Int32 × PH) ⊕ (Option Nat × PH)) :=
  gs t0 (fun a11 =>
  gd (hK h a11 = 8) (bd (fX8_add a11 t1 h) (fun z14 =>
  some (.inl ((v4 + 1), z14)))))
set_option maxRecDepth 100000 in
theorem mX8_withSet_b38 {v0 : Nat} {v1 : Int32} {v2 : Int32} {v3 : Option Nat} {v4 : Int32} {t0 : Option Nat} {t1 : Int32} {h : PH} {x : ((Int32 × PH) ⊕ (Option Nat × PH))} (hf : fX8_withSet_b38 v0 v1 v2 v3 v4 t0 t1 h = some x) : (∀ w9 : (Int32 × PH), x = .inl w9 → lez h (hX (w9.2)) (hV (w9.2))) ∧ (∀ w9 : (Option Nat × PH), x = .inr w9 → lez h (hX w9.2) (hV w9.2)) := by
  unfold fX8_withSet_b38 at hf
  have hle := lez_rf h
  obtain ⟨a11, e12, hf⟩ := gs_some hf
  obtain ⟨hk13, hf⟩ := gd_some hf
  obtain ⟨z14, hz14, hf⟩ := bd_some hf
  have hle := lez_rt (lez_eq (mX8_add hz14)) hle
  have ee := Option.some.inj hf; subst ee
  exact ⟨(fun z e => by have ee := Sum.inl.inj (e); subst ee; exact hle), (fun z e => nomatch e)⟩
set_option maxRecDepth 100000 in
theorem wX8_withSet_b38 {E : PE} {p : Program} {l : Launch} {e : Env} {s : State} {m : MethodId} {args : Array Value} {below : List Frame} {meth : Method} {c : Code} {X0 V0 MC MS uc us : Nat} (X : Cx E p l e (rmv 2 MC MS) s m args below meth c RX8 cX8_withSet 5 (some (.object "WordFinder$Text"))) (hG : Gs E l) (hnm : meth.name = yX8_withSet.name) {v0 : Nat} {v1 : Int32} {v2 : Int32} {v3 : Option Nat} {v4 : Int32} {t0 : Option Nat} {t1 : Int32} {h : PH} {r : (Option Nat × PH)} {x : ((Int32 × PH) ⊕ (Option Nat × PH))} (hM : MC + X0 = (hX r.2)) (hN : MS + V0 = (hV r.2)) (hu : uc + X0 = hX h) (hv : us + V0 = hV h) (hf : fX8_withSet_b38 v0 v1 v2 v3 v4 t0 t1 h = some x) (k0 : ∀ (z : (Int32 × PH)) (uc us : Nat), x = .inl z → uc + X0 = hX (z.2) → us + V0 = hV (z.2) → PW E p l e (rmv 2 MC MS) s m args below meth c 5 uc us (MQ below (QG E (fun v u => v = some (va_rf r.1) ∧ u = r.2)) args s MC MS (pA E)) (z.2) 11 [(0, some (.ref v0)), (1, some (.int v1)), (2, some (.int v2)), (3, some (va_rf v3)), (4, some (.int (z.1)))] []) (kl0 : ∀ z : (Int32 × PH), x = .inl z → lez (z.2) (hX r.2) (hV r.2)) (kf : ∀ z : (Option Nat × PH), x = .inr z → z = r) : PW E p l e (rmv 2 MC MS) s m args below meth c 5 uc us (MQ below (QG E (fun v u => v = some (va_rf r.1) ∧ u = r.2)) args s MC MS (pA E)) h 38 [(0, some (.ref v0)), (1, some (.int v1)), (2, some (.int v2)), (3, some (va_rf v3)), (4, some (.int v4))] [.int t1, va_rf t0] := by
  have hm1 : lez h (hX r.2) (hV r.2) := by
    obtain ⟨c0, cf⟩ := mX8_withSet_b38 hf
    rcases hxx : x with zz | zz
    · exact lez_tr (c0 zz hxx) (kl0 zz hxx)
    · have ee := kf zz hxx; subst ee; exact cf zz hxx
  have hcm : uc ≤ MC := (by have o0 := hm1.1; have o1 := hM; have o2 := hu; (try simp only [hX_sI, hX_sR, hX_sL, hX_sD, hX_sIa, hX_sRa, hV_sI, hV_sR, hV_sL, hV_sD, hV_sIa, hV_sRa, hX_new, hV_new] at o0 o1 o2 ⊢); omega)
  have hsm : us ≤ MS := (by have o0 := hm1.2; have o1 := hN; have o2 := hv; (try simp only [hX_sI, hX_sR, hX_sL, hX_sD, hX_sIa, hX_sRa, hV_sI, hV_sR, hV_sL, hV_sD, hV_sIa, hV_sRa, hX_new, hV_new] at o0 o1 o2 ⊢); omega)
  clear hm1
  unfold fX8_withSet_b38 at hf
  obtain ⟨a11, e12, hf⟩ := gs_some hf
  first | subst e12 | (try rw [e12])
  obtain ⟨hk13, hf⟩ := gd_some hf
  obtain ⟨z14, hz14, hf⟩ := bd_some hf
  refine p_callV (As := [_]) X ml_X8_20 (dcg dc_X8_withSet 20 rfl) rfl rfl hk13 (wX8_add hG hz14) (by decide) (room4 (Nat.le_of_ble_eq_true rfl)) hcm hsm ?_
  rintro _ u9 ⟨rfl, e9⟩; have e9 := e9.symm; subst e9
  have hu := hu.trans (mX8_add hz14).1
  have hv := hv.trans (mX8_add hz14).2
  refine p_iinc (v := 1) X (dcg dc_X8_withSet 21 rfl) rfl (by decide) (by decide) (nwq (k := 3) rfl) ?_
  refine p_goto (tgt := 11) X (dcg dc_X8_withSet 22 rfl) (by decide) ?_
  refine p_pick [0, 1, 2, 3, 4] ?_
  exact k0 _ _ _ (Option.some.inj hf).symm hu hv
noncomputable def fX8_withSet_c11 (v0 : Nat) (v1 : Int32) (v2 : Int32) (v3 : Option Nat) (v4 : Int32) (h : PH) : Option ((Int32 × PH) ⊕ (Option Nat × PH)) :=
  gd (hK h v0 = 8) (if ((hI h 8 v0 1) ≤ v4) then (mr (some ((v3, h)))) else
  if (¬ v4 = v1) then (gs (hR h 8 v0 0) (fun a7 =>
  gd (hK h a7 = 20 ∧ inb v4 (hN h a7)) (fX8_withSet_b38 v0 v1 v2 v3 v4 v3 (hI h 20 a7 (Int32.toNatClampNeg v4)) h))) else
  fX8_withSet_b38 v0 v1 v2 v3 v4 v3 v2 h)
set_option maxRecDepth 100000 in
theorem mX8_withSet_c11 {v0 : Nat} {v1 : Int32} {v2 : Int32} {v3 : Option Nat} {v4 : Int32} {h : PH} {x : ((Int32 × PH) ⊕ (Option Nat × PH))} (hf : fX8_withSet_c11 v0 v1 v2 v3 v4 h = some x) : (∀ w9 : (Int32 × PH), x = .inl w9 → lez h (hX (w9.2)) (hV (w9.2))) ∧ (∀ w9 : (Option Nat × PH), x = .inr w9 → lez h (hX w9.2) (hV w9.2)) := by
  unfold fX8_withSet_c11 at hf
  have hle := lez_rf h
  obtain ⟨hk4, hf⟩ := gd_some hf
  rcases ite_or hf with ⟨q, hf⟩ | ⟨q, hf⟩
  · have hf := if_t q hf
    obtain ⟨y5, hfm, rfl⟩ := mr_some hf; have hf := hfm; clear hfm
    have ee := Option.some.inj hf; subst ee
    exact ⟨(fun z e => nomatch e), (fun z e => by have ee := Sum.inr.inj (e); subst ee; exact hle)⟩
  · have hf := if_f q hf
    rcases ite_or hf with ⟨q, hf⟩ | ⟨q, hf⟩
    · have hf := if_t q hf
      obtain ⟨a7, e8, hf⟩ := gs_some hf
      obtain ⟨⟨hk10, hb9⟩, hf⟩ := gd_some hf
      obtain ⟨c0, cf⟩ := mX8_withSet_b38 hf
      exact ⟨fun z e => lez_rt (c0 z (e)) hle, fun z e => lez_rt (cf z (e)) hle⟩
    · have hf := if_f q hf
      obtain ⟨c0, cf⟩ := mX8_withSet_b38 hf
      exact ⟨fun z e => lez_rt (c0 z (e)) hle, fun z e => lez_rt (cf z (e)) hle⟩
set_option maxRecDepth 100000 in
theorem wX8_withSet_c11 {E : PE} {p : Program} {l : Launch} {e : Env} {s : State} {m : MethodId} {args : Array Value} {below : List Frame} {meth : Method} {c : Code} {X0 V0 MC MS uc us : Nat} (X : Cx E p l e (rmv 2 MC MS) s m args below meth c RX8 cX8_withSet 5 (some (.object "WordFinder$Text"))) (hG : Gs E l) (hnm : meth.name = yX8_withSet.name) {v0 : Nat} {v1 : Int32} {v2 : Int32} {v3 : Option Nat} {v4 : Int32} {h : PH} {r : (Option Nat × PH)} {x : ((Int32 × PH) ⊕ (Option Nat × PH))} (hM : MC + X0 = (hX r.2)) (hN : MS + V0 = (hV r.2)) (hu : uc + X0 = hX h) (hv : us + V0 = hV h) (hf : fX8_withSet_c11 v0 v1 v2 v3 v4 h = some x) (k0 : ∀ (z : (Int32 × PH)) (uc us : Nat), x = .inl z → uc + X0 = hX (z.2) → us + V0 = hV (z.2) → PW E p l e (rmv 2 MC MS) s m args below meth c 5 uc us (MQ below (QG E (fun v u => v = some (va_rf r.1) ∧ u = r.2)) args s MC MS (pA E)) (z.2) 11 [(0, some (.ref v0)), (1, some (.int v1)), (2, some (.int v2)), (3, some (va_rf v3)), (4, some (.int (z.1)))] []) (kl0 : ∀ z : (Int32 × PH), x = .inl z → lez (z.2) (hX r.2) (hV r.2)) (kf : ∀ z : (Option Nat × PH), x = .inr z → z = r) : PW E p l e (rmv 2 MC MS) s m args below meth c 5 uc us (MQ below (QG E (fun v u => v = some (va_rf r.1) ∧ u = r.2)) args s MC MS (pA E)) h 11 [(0, some (.ref v0)), (1, some (.int v1)), (2, some (.int v2)), (3, some (va_rf v3)), (4, some (.int v4))] [] := by
  have hm1 : lez h (hX r.2) (hV r.2) := by
    obtain ⟨c0, cf⟩ := mX8_withSet_c11 hf
    rcases hxx : x with zz | zz
    · exact lez_tr (c0 zz hxx) (kl0 zz hxx)
    · have ee := kf zz hxx; subst ee; exact cf zz hxx
  have hcm : uc ≤ MC := (by have o0 := hm1.1; have o1 := hM; have o2 := hu; (try simp only [hX_sI, hX_sR, hX_sL, hX_sD, hX_sIa, hX_sRa, hV_sI, hV_sR, hV_sL, hV_sD, hV_sIa, hV_sRa, hX_new, hV_new] at o0 o1 o2 ⊢); omega)
  have hsm : us ≤ MS := (by have o0 := hm1.2; have o1 := hN; have o2 := hv; (try simp only [hX_sI, hX_sR, hX_sL, hX_sD, hX_sIa, hX_sRa, hV_sI, hV_sR, hV_sL, hV_sD, hV_sIa, hV_sRa, hX_new, hV_new] at o0 o1 o2 ⊢); omega)
  clear hm1
  unfold fX8_withSet_c11 at hf
  refine p_iload X (dcg dc_X8_withSet 6 rfl) rfl ?_
  refine p_aload_n X (dcg dc_X8_withSet 7 rfl) rfl rfl ?_
  obtain ⟨hk4, hf⟩ := gd_some hf
  refine p_getI X fl_X8_15 rfl (by decide) (dcg dc_X8_withSet 8 rfl) hk4 ?_
  refine p_icmp_ge (tgt := 47) X (dcg dc_X8_withSet 9 rfl) (by decide) (fun q => ?_) (fun q => ?_)
  · have hf := if_t q hf
    obtain ⟨y5, hf, hy6⟩ := mr_some hf
    have hy6f := kf y5 hy6
    subst hy6f
    refine p_aloadq_n X (dcg dc_X8_withSet 23 rfl) rfl rfl ?_
    have er := Option.some.inj hf
    subst er
    exact p_aret X rfl (Or.inl ⟨_, rfl⟩) (dcg dc_X8_withSet 24 rfl) ⟨rfl, rfl⟩ hcm hsm
  · have hf := if_f q hf
    refine p_aloadq_n X (dcg dc_X8_withSet 10 rfl) rfl rfl ?_
    refine p_iload X (dcg dc_X8_withSet 11 rfl) rfl ?_
    refine p_iload_n X (dcg dc_X8_withSet 12 rfl) rfl rfl ?_
    refine p_icmp_ne (tgt := 31) X (dcg dc_X8_withSet 13 rfl) (by decide) (fun q => ?_) (fun q => ?_)
    · have hf := if_t q hf
      refine p_aload_n X (dcg dc_X8_withSet 16 rfl) rfl rfl ?_
      refine p_getR X fl_X8_11 rfl (by decide) (dcg dc_X8_withSet 17 rfl) hk4 ?_
      refine p_iload X (dcg dc_X8_withSet 18 rfl) rfl ?_
      obtain ⟨a7, e8, hf⟩ := gs_some hf
      first | subst e8 | (try rw [e8])
      obtain ⟨⟨hk10, hb9⟩, hf⟩ := gd_some hf
      refine p_iald X (dcg dc_X8_withSet 19 rfl) hk10 (vp_of_inb hb9) ?_
      refine p_pick [0, 1, 2, 3, 4] ?_
      exact wX8_withSet_b38 X hG hnm hM hN hu hv hf k0 kl0 kf
    · have hf := if_f q hf
      refine p_iload_n X (dcg dc_X8_withSet 14 rfl) rfl rfl ?_
      refine p_goto (tgt := 38) X (dcg dc_X8_withSet 15 rfl) (by decide) ?_
      refine p_pick [0, 1, 2, 3, 4] ?_
      exact wX8_withSet_b38 X hG hnm hM hN hu hv hf k0 kl0 kf
noncomputable def fX8_withSet_l11 (v0 : Nat) (v1 : Int32) (v2 : Int32) (v3 : Option Nat) (v4 : Int32) (h : PH) : Option (Option Nat × PH) := wh (fun z : (Int32 × PH) => fX8_withSet_c11 v0 v1 v2 v3 (z.1) (z.2)) (v4, h)
set_option maxRecDepth 100000 in
theorem mX8_withSet_l11 {v0 : Nat} {v1 : Int32} {v2 : Int32} {v3 : Option Nat} {v4 : Int32} {h : PH} {r : (Option Nat × PH)} (hf : fX8_withSet_l11 v0 v1 v2 v3 v4 h = some r) : lez h (hX r.2) (hV r.2) := by
  unfold fX8_withSet_l11 at hf
  refine wh_ind (P := fun z => lez (z.2) (hX r.2) (hV r.2)) (fun z x0 hs i1 i2 => ?_) _ hf
  obtain ⟨c0, cf⟩ := mX8_withSet_c11 (v0 := v0) (v1 := v1) (v2 := v2) (v3 := v3) (v4 := z.1) (h := z.2) hs
  rcases hxx : x0 with zz | zz
  · exact lez_tr (c0 zz hxx) (i1 zz hxx)
  · have ee := i2 zz hxx; subst ee; exact cf zz hxx
set_option maxRecDepth 100000 in
theorem wX8_withSet_l11 {E : PE} {p : Program} {l : Launch} {e : Env} {s : State} {m : MethodId} {args : Array Value} {below : List Frame} {meth : Method} {c : Code} {X0 V0 MC MS uc us : Nat} (X : Cx E p l e (rmv 2 MC MS) s m args below meth c RX8 cX8_withSet 5 (some (.object "WordFinder$Text"))) (hG : Gs E l) (hnm : meth.name = yX8_withSet.name) {v0 : Nat} {v1 : Int32} {v2 : Int32} {v3 : Option Nat} {v4 : Int32} {h : PH} {r : (Option Nat × PH)} (hM : MC + X0 = (hX r.2)) (hN : MS + V0 = (hV r.2)) (hu : uc + X0 = hX h) (hv : us + V0 = hV h) (hf : fX8_withSet_l11 v0 v1 v2 v3 v4 h = some r)  : PW E p l e (rmv 2 MC MS) s m args below meth c 5 uc us (MQ below (QG E (fun v u => v = some (va_rf r.1) ∧ u = r.2)) args s MC MS (pA E)) h 11 [(0, some (.ref v0)), (1, some (.int v1)), (2, some (.int v2)), (3, some (va_rf v3)), (4, some (.int v4))] [] := by
  unfold fX8_withSet_l11 at hf
  refine wh_ind2 (P := fun z => ∀ uc us : Nat, uc + X0 = hX (z.2) → us + V0 = hV (z.2) → PW E p l e (rmv 2 MC MS) s m args below meth c 5 uc us (MQ below (QG E (fun v u => v = some (va_rf r.1) ∧ u = r.2)) args s MC MS (pA E)) (z.2) 11 [(0, some (.ref v0)), (1, some (.int v1)), (2, some (.int v2)), (3, some (va_rf v3)), (4, some (.int (z.1)))] []) (fun z x0 hs i1 i2 uc us hu hv => ?_) _ hf uc us hu hv
  exact wX8_withSet_c11 (r := r) (v0 := v0) (v1 := v1) (v2 := v2) (v3 := v3) (v4 := z.1) (h := z.2) X hG hnm hM hN hu hv hs (fun z1 uc1 us1 e1 e2 e3 => (i1 z1 e1).1 uc1 us1 e2 e3) (fun z1 e1 => mX8_withSet_l11 (v0 := v0) (v1 := v1) (v2 := v2) (v3 := v3) (v4 := z1.1) (h := z1.2) (by unfold fX8_withSet_l11; exact (i1 z1 e1).2))  i2
noncomputable def fX8_withSet_b7 (v0 : Nat) (v1 : Int32) (v2 : Int32) (t0 : Option Nat) (h : PH) : Option (Option Nat × PH) :=
  fX8_withSet_l11 v0 v1 v2 t0 (0 : Int32) h
set_option maxRecDepth 100000 in
theorem mX8_withSet_b7 {v0 : Nat} {v1 : Int32} {v2 : Int32} {t0 : Option Nat} {h : PH} {r : (Option Nat × PH)} (hf : fX8_withSet_b7 v0 v1 v2 t0 h = some r) : lez h (hX r.2) (hV r.2) := by
  unfold fX8_withSet_b7 at hf
  have hle := lez_rf h
  exact lez_rt (mX8_withSet_l11 hf) hle
set_option maxRecDepth 100000 in
theorem wX8_withSet_b7 {E : PE} {p : Program} {l : Launch} {e : Env} {s : State} {m : MethodId} {args : Array Value} {below : List Frame} {meth : Method} {c : Code} {X0 V0 MC MS uc us : Nat} (X : Cx E p l e (rmv 2 MC MS) s m args below meth c RX8 cX8_withSet 5 (some (.object "WordFinder$Text"))) (hG : Gs E l) (hnm : meth.name = yX8_withSet.name) {v0 : Nat} {v1 : Int32} {v2 : Int32} {t0 : Option Nat} {h : PH} {r : (Option Nat × PH)} (hM : MC + X0 = (hX r.2)) (hN : MS + V0 = (hV r.2)) (hu : uc + X0 = hX h) (hv : us + V0 = hV h) (hf : fX8_withSet_b7 v0 v1 v2 t0 h = some r)  : PW E p l e (rmv 2 MC MS) s m args below meth c 5 uc us (MQ below (QG E (fun v u => v = some (va_rf r.1) ∧ u = r.2)) args s MC MS (pA E)) h 7 [(0, some (.ref v0)), (1, some (.int v1)), (2, some (.int v2))] [va_rf t0] := by
  have hm1 : lez h (hX r.2) (hV r.2) := mX8_withSet_b7 hf
  have hcm : uc ≤ MC := (by have o0 := hm1.1; have o1 := hM; have o2 := hu; (try simp only [hX_sI, hX_sR, hX_sL, hX_sD, hX_sIa, hX_sRa, hV_sI, hV_sR, hV_sL, hV_sD, hV_sIa, hV_sRa, hX_new, hV_new] at o0 o1 o2 ⊢); omega)
  have hsm : us ≤ MS := (by have o0 := hm1.2; have o1 := hN; have o2 := hv; (try simp only [hX_sI, hX_sR, hX_sL, hX_sD, hX_sIa, hX_sRa, hV_sI, hV_sR, hV_sL, hV_sD, hV_sIa, hV_sRa, hX_new, hV_new] at o0 o1 o2 ⊢); omega)
  clear hm1
  unfold fX8_withSet_b7 at hf
  refine p_astoreq_n X (dcg dc_X8_withSet 3 rfl) rfl (by decide) rfl ?_
  refine p_iconst (v := 0) X (dcg dc_X8_withSet 4 rfl) (by decide) ?_
  refine p_istore X (dcg dc_X8_withSet 5 rfl) (by decide) (nwq (k := 3) rfl) ?_
  refine p_pick [0, 1, 2, 3, 4] ?_
  exact wX8_withSet_l11 X hG hnm hM hN hu hv hf 
noncomputable def fX8_withSet_b3 (v0 : Nat) (v1 : Int32) (v2 : Int32) (t0 : Option Nat) (h : PH) : Option (Option Nat × PH) :=
  gs t0 (fun a1 =>
  bd (fX8_init a1 h) (fun z3 =>
  fX8_withSet_b7 v0 v1 v2 (some a1) z3))
set_option maxRecDepth 100000 in
theorem mX8_withSet_b3 {v0 : Nat} {v1 : Int32} {v2 : Int32} {t0 : Option Nat} {h : PH} {r : (Option Nat × PH)} (hf : fX8_withSet_b3 v0 v1 v2 t0 h = some r) : lez h (hX r.2) (hV r.2) := by
  unfold fX8_withSet_b3 at hf
  have hle := lez_rf h
  obtain ⟨a1, e2, hf⟩ := gs_some hf
  obtain ⟨z3, hz3, hf⟩ := bd_some hf
  have hle := lez_rt (mX8_init hz3) hle
  exact lez_rt (mX8_withSet_b7 hf) hle
set_option maxRecDepth 100000 in
theorem wX8_withSet_b3 {E : PE} {p : Program} {l : Launch} {e : Env} {s : State} {m : MethodId} {args : Array Value} {below : List Frame} {meth : Method} {c : Code} {X0 V0 MC MS uc us : Nat} (X : Cx E p l e (rmv 2 MC MS) s m args below meth c RX8 cX8_withSet 5 (some (.object "WordFinder$Text"))) (hG : Gs E l) (hnm : meth.name = yX8_withSet.name) {v0 : Nat} {v1 : Int32} {v2 : Int32} {t0 : Option Nat} {h : PH} {r : (Option Nat × PH)} (hM : MC + X0 = (hX r.2)) (hN : MS + V0 = (hV r.2)) (hu : uc + X0 = hX h) (hv : us + V0 = hV h) (hf : fX8_withSet_b3 v0 v1 v2 t0 h = some r)  : PW E p l e (rmv 2 MC MS) s m args below meth c 5 uc us (MQ below (QG E (fun v u => v = some (va_rf r.1) ∧ u = r.2)) args s MC MS (pA E)) h 3 [(0, some (.ref v0)), (1, some (.int v1)), (2, some (.int v2))] [va_rf t0] := by
  have hm1 : lez h (hX r.2) (hV r.2) := mX8_withSet_b3 hf
  have hcm : uc ≤ MC := (by have o0 := hm1.1; have o1 := hM; have o2 := hu; (try simp only [hX_sI, hX_sR, hX_sL, hX_sD, hX_sIa, hX_sRa, hV_sI, hV_sR, hV_sL, hV_sD, hV_sIa, hV_sRa, hX_new, hV_new] at o0 o1 o2 ⊢); omega)
  have hsm : us ≤ MS := (by have o0 := hm1.2; have o1 := hN; have o2 := hv; (try simp only [hX_sI, hX_sR, hX_sL, hX_sD, hX_sIa, hX_sRa, hV_sI, hV_sR, hV_sL, hV_sD, hV_sIa, hV_sRa, hX_new, hV_new] at o0 o1 o2 ⊢); omega)
  clear hm1
  unfold fX8_withSet_b3 at hf
  refine p_dup X (dcg dc_X8_withSet 1 rfl) (cat_rf _) ?_
  obtain ⟨a1, e2, hf⟩ := gs_some hf
  first | subst e2 | (try rw [e2])
  obtain ⟨z3, hz3, hf⟩ := bd_some hf
  have hc1 := mX8_init hz3
  have hm1 : lez _ (hX r.2) (hV r.2) := mX8_withSet_b7 hf
  refine p_callI (As := []) (ret1 := none) X ml_X8_19 (dcg dc_X8_withSet 2 rfl) rfl rfl  (wX8_init hG hz3) (by decide) (room4 (Nat.le_of_ble_eq_true rfl)) (by have o0 := hm1.1; have o1 := hc1.1; have o2 := hM; have o3 := hu; (try simp only [hX_sI, hX_sR, hX_sL, hX_sD, hX_sIa, hX_sRa, hV_sI, hV_sR, hV_sL, hV_sD, hV_sIa, hV_sRa, hX_new, hV_new] at o0 o1 o2 o3 ⊢); omega) (by have o0 := hm1.2; have o1 := hc1.2; have o2 := hN; have o3 := hv; (try simp only [hX_sI, hX_sR, hX_sL, hX_sD, hX_sIa, hX_sRa, hV_sI, hV_sR, hV_sL, hV_sD, hV_sIa, hV_sRa, hX_new, hV_new] at o0 o1 o2 o3 ⊢); omega) ?_
  rintro _ u9 ⟨rfl, e9⟩; have e9 := e9.symm; subst e9
  refine p_pick [0, 1, 2] ?_
  exact wX8_withSet_b7 X hG hnm hM hN (by have o0 := hc1.1; have o1 := hu; (try simp only [hX_sI, hX_sR, hX_sL, hX_sD, hX_sIa, hX_sRa, hV_sI, hV_sR, hV_sL, hV_sD, hV_sIa, hV_sRa, hX_new, hV_new] at o0 o1 ⊢); omega) (by have o0 := hc1.2; have o1 := hv; (try simp only [hX_sI, hX_sR, hX_sL, hX_sD, hX_sIa, hX_sRa, hV_sI, hV_sR, hV_sL, hV_sD, hV_sIa, hV_sRa, hX_new, hV_new] at o0 o1 ⊢); omega) hf 
noncomputable def fX8_withSet_b0 (v0 : Nat) (v1 : Int32) (v2 : Int32) (h : PH) : Option (Option Nat × PH) :=
  fX8_withSet_b3 v0 v1 v2 (some (hX h)) (hnew h 8 2)
set_option maxRecDepth 100000 in
theorem mX8_withSet_b0 {v0 : Nat} {v1 : Int32} {v2 : Int32} {h : PH} {r : (Option Nat × PH)} (hf : fX8_withSet_b0 v0 v1 v2 h = some r) : lez h (hX r.2) (hV r.2) := by
  unfold fX8_withSet_b0 at hf
  have hle := lez_rf h
  have hle := lez_nw (c := 8) (n := 2) hle
  exact lez_rt (mX8_withSet_b3 hf) hle
set_option maxRecDepth 100000 in
theorem wX8_withSet_b0 {E : PE} {p : Program} {l : Launch} {e : Env} {s : State} {m : MethodId} {args : Array Value} {below : List Frame} {meth : Method} {c : Code} {X0 V0 MC MS uc us : Nat} (X : Cx E p l e (rmv 2 MC MS) s m args below meth c RX8 cX8_withSet 5 (some (.object "WordFinder$Text"))) (hG : Gs E l) (hnm : meth.name = yX8_withSet.name) {v0 : Nat} {v1 : Int32} {v2 : Int32} {h : PH} {r : (Option Nat × PH)} (hM : MC + X0 = (hX r.2)) (hN : MS + V0 = (hV r.2)) (hu : uc + X0 = hX h) (hv : us + V0 = hV h) (hf : fX8_withSet_b0 v0 v1 v2 h = some r)  : PW E p l e (rmv 2 MC MS) s m args below meth c 5 uc us (MQ below (QG E (fun v u => v = some (va_rf r.1) ∧ u = r.2)) args s MC MS (pA E)) h 0 [(0, some (.ref v0)), (1, some (.int v1)), (2, some (.int v2))] [] := by
  have hm1 : lez h (hX r.2) (hV r.2) := mX8_withSet_b0 hf
  have hcm : uc ≤ MC := (by have o0 := hm1.1; have o1 := hM; have o2 := hu; (try simp only [hX_sI, hX_sR, hX_sL, hX_sD, hX_sIa, hX_sRa, hV_sI, hV_sR, hV_sL, hV_sD, hV_sIa, hV_sRa, hX_new, hV_new] at o0 o1 o2 ⊢); omega)
  have hsm : us ≤ MS := (by have o0 := hm1.2; have o1 := hN; have o2 := hv; (try simp only [hX_sI, hX_sR, hX_sL, hX_sD, hX_sIa, hX_sRa, hV_sI, hV_sR, hV_sL, hV_sD, hV_sIa, hV_sRa, hX_new, hV_new] at o0 o1 o2 ⊢); omega)
  clear hm1
  unfold fX8_withSet_b0 at hf
  have hm1 : lez _ (hX r.2) (hV r.2) := mX8_withSet_b3 hf
  have hm2 := lez_new hm1
  refine p_newN (ci := 8) (q := (RX8, TX8, 2)) (n := 2) X rfl rfl (by decide) tw_1234 tw_328 tw_112 (dcg dc_X8_withSet 0 rfl) (show uc + 1 ≤ MC from (by have o0 := hm2.1; have o1 := hM; have o2 := hu; (try simp only [hX_sI, hX_sR, hX_sL, hX_sD, hX_sIa, hX_sRa, hV_sI, hV_sR, hV_sL, hV_sD, hV_sIa, hV_sRa, hX_new, hV_new] at o0 o1 o2 ⊢); omega)) (show us + 2 ≤ MS from (by have o0 := hm2.2; have o1 := hN; have o2 := hv; (try simp only [hX_sI, hX_sR, hX_sL, hX_sD, hX_sIa, hX_sRa, hV_sI, hV_sR, hV_sL, hV_sD, hV_sIa, hV_sRa, hX_new, hV_new] at o0 o1 o2 ⊢); omega)) ?_
  refine p_pick [0, 1, 2] ?_
  exact wX8_withSet_b3 X hG hnm hM hN (by have o0 := hu; (try simp only [hX_sI, hX_sR, hX_sL, hX_sD, hX_sIa, hX_sRa, hV_sI, hV_sR, hV_sL, hV_sD, hV_sIa, hV_sRa, hX_new, hV_new] at o0 ⊢); omega) (by have o0 := hv; (try simp only [hX_sI, hX_sR, hX_sL, hX_sD, hX_sIa, hX_sRa, hV_sI, hV_sR, hV_sL, hV_sD, hV_sIa, hV_sRa, hX_new, hV_new] at o0 ⊢); omega) hf 
noncomputable def fX8_withSet (v0 : Nat) (v1 : Int32) (v2 : Int32) (h : PH) : Option (Option Nat × PH) :=
  fX8_withSet_b0 v0 v1 v2 h
set_option maxRecDepth 100000 in
theorem mX8_withSet {v0 : Nat} {v1 : Int32} {v2 : Int32} {h : PH} {r : (Option Nat × PH)} (hf : fX8_withSet v0 v1 v2 h = some r) : lez h (hX r.2) (hV r.2) := by
  unfold fX8_withSet at hf
  have hle := lez_rf h
  exact lez_rt (mX8_withSet_b0 hf) hle
set_option maxRecDepth 100000 in
theorem wX8_withSet {E : PE} {l : Launch} (hG : Gs E l) {v0 : Nat} {v1 : Int32} {v2 : Int32} {h : PH} {r : (Option Nat × PH)} (hf : fX8_withSet v0 v1 v2 h = some r) : Ct E l 2 ((hX r.2) - hX h) ((hV r.2) - hV h) yX8_withSet cX8_withSet 5 (some (.object "WordFinder$Text")) [.ref v0, .int v1, .int v2] h (fun v u => v = some (va_rf r.1) ∧ u = r.2) := by
  have hmm := mX8_withSet hf
  refine ct_of hG (by decide) (Nat.le_of_ble_eq_true rfl) ?_
  intro p e s m args below meth c X hnm
  show PW E p l e _ s m args below meth c _ 0 0 _ h 0 [(0, some (.ref v0)), (1, some (.int v1)), (2, some (.int v2))] []
  unfold fX8_withSet at hf
  have hM := Nat.sub_add_cancel hmm.1
  have hN := Nat.sub_add_cancel hmm.2
  refine p_pick [0, 1, 2] ?_
  exact wX8_withSet_b0 X hG hnm hM hN (Nat.zero_add _) (Nat.zero_add _) hf
theorem dc_X8_countUnlike : decs cX8_countUnlike [(0, .iconst 0, 1), (1, .istore_n 1, 1), (2, .iconst 0, 1), (3, .istore_n 2, 1), (4, .iload_n 2, 1), (5, .aload_n 0, 1), (6, .getfield 15, 3), (9, .if_icmp .ge 27, 3), (12, .aload_n 0, 1), (13, .aload_n 0, 1), (14, .getfield 11, 3), (17, .iload_n 2, 1), (18, .iaload, 1), (19, .iconst 0, 1), (20, .invokevirtual 24, 3), (23, .iload_n 2, 1), (24, .if_icmp .ne 6, 3), (27, .iinc 1 1, 3), (30, .iinc 2 1, 3), (33, .goto (-29), 3), (36, .iload_n 1, 1), (37, .ireturn, 1)] = true := by decide +kernel
noncomputable def fX8_countUnlike_b30 (v0 : Nat) (v1 : Int32) (v2 : Int32) (h : PH) : Option ((Int32 × Int32) ⊕ Int32) :=
  some (.inl (v1, (v2 + 1)))
set_option maxRecDepth 100000 in
theorem wX8_countUnlike_b30 {E : PE} {p : Program} {l : Launch} {e : Env} {s : State} {m : MethodId} {args : Array Value} {below : List Frame} {meth : Method} {c : Code} (X : Cx E p l e (rmv 1 0 0) s m args below meth c RX8 cX8_countUnlike 3 (some .int)) (hG : Gs E l) (hnm : meth.name = yX8_countUnlike.name) {v0 : Nat} {v1 : Int32} {v2 : Int32} {h : PH} {r : Int32} {x : ((Int32 × Int32) ⊕ Int32)} (hf : fX8_countUnlike_b30 v0 v1 v2 h = some x) (k0 : ∀ z : (Int32 × Int32), x = .inl z → PW E p l e (rmv 1 0 0) s m args below meth c 3 0 0 (MQ below (QG E (fun v u => v = some (.int r) ∧ u = h)) args s 0 0 (pA E)) h 4 [(0, some (.ref v0)), (1, some (.int (z.1))), (2, some (.int (z.2)))] []) (kf : ∀ z : Int32, x = .inr z → z = r) : PW E p l e (rmv 1 0 0) s m args below meth c 3 0 0 (MQ below (QG E (fun v u => v = some (.int r) ∧ u = h)) args s 0 0 (pA E)) h 30 [(0, some (.ref v0)), (1, some (.int v1)), (2, some (.int v2))] [] := by
  unfold fX8_countUnlike_b30 at hf
  refine p_iinc (v := 1) X (dcg dc_X8_countUnlike 18 rfl) rfl (by decide) (by decide) rfl ?_
  refine p_goto (tgt := 4) X (dcg dc_X8_countUnlike 19 rfl) (by decide) ?_
  refine p_pick [0, 1, 2] ?_
  exact k0 _ (Option.some.inj hf).symm
noncomputable def fX8_countUnlike_c4 (v0 : Nat) (v1 : Int32) (v2 : Int32) (h : PH) : Option ((Int32 × Int32) ⊕ Int32) :=
  gd (hK h v0 = 8) (if ((hI h 8 v0 1) ≤ v2) then (mr (some (v1))) else
  gs (hR h 8 v0 0) (fun a4 =>
  gd (hK h a4 = 20 ∧ inb v2 (hN h a4)) (bd (fX8_placeOf v0 (hI h 20 a4 (Int32.toNatClampNeg v2)) (0 : Int32) h) (fun z8 =>
  if (¬ z8 = v2) then (fX8_countUnlike_b30 v0 v1 v2 h) else
  fX8_countUnlike_b30 v0 (v1 + 1) v2 h))))
set_option maxRecDepth 100000 in
theorem wX8_countUnlike_c4 {E : PE} {p : Program} {l : Launch} {e : Env} {s : State} {m : MethodId} {args : Array Value} {below : List Frame} {meth : Method} {c : Code} (X : Cx E p l e (rmv 1 0 0) s m args below meth c RX8 cX8_countUnlike 3 (some .int)) (hG : Gs E l) (hnm : meth.name = yX8_countUnlike.name) {v0 : Nat} {v1 : Int32} {v2 : Int32} {h : PH} {r : Int32} {x : ((Int32 × Int32) ⊕ Int32)} (hf : fX8_countUnlike_c4 v0 v1 v2 h = some x) (k0 : ∀ z : (Int32 × Int32), x = .inl z → PW E p l e (rmv 1 0 0) s m args below meth c 3 0 0 (MQ below (QG E (fun v u => v = some (.int r) ∧ u = h)) args s 0 0 (pA E)) h 4 [(0, some (.ref v0)), (1, some (.int (z.1))), (2, some (.int (z.2)))] []) (kf : ∀ z : Int32, x = .inr z → z = r) : PW E p l e (rmv 1 0 0) s m args below meth c 3 0 0 (MQ below (QG E (fun v u => v = some (.int r) ∧ u = h)) args s 0 0 (pA E)) h 4 [(0, some (.ref v0)), (1, some (.int v1)), (2, some (.int v2))] [] := by
  unfold fX8_countUnlike_c4 at hf
  refine p_iload_n X (dcg dc_X8_countUnlike 4 rfl) rfl rfl ?_
  refine p_aload_n X (dcg dc_X8_countUnlike 5 rfl) rfl rfl ?_
  obtain ⟨hk1, hf⟩ := gd_some hf
  refine p_getI X fl_X8_15 rfl (by decide) (dcg dc_X8_countUnlike 6 rfl) hk1 ?_
  refine p_icmp_ge (tgt := 36) X (dcg dc_X8_countUnlike 7 rfl) (by decide) (fun q => ?_) (fun q => ?_)
  · have hf := if_t q hf
    obtain ⟨y2, hf, hy3⟩ := mr_some hf
    have hy3f := kf y2 hy3
    subst hy3f
    refine p_iload_n X (dcg dc_X8_countUnlike 20 rfl) rfl rfl ?_
    have er := Option.some.inj hf
    subst er
    exact p_iret X rfl (dcg dc_X8_countUnlike 21 rfl) ⟨rfl, rfl⟩ (Nat.le_refl _) (Nat.le_refl _)
  · have hf := if_f q hf
    refine p_aload_n X (dcg dc_X8_countUnlike 8 rfl) rfl rfl ?_
    refine p_aload_n X (dcg dc_X8_countUnlike 9 rfl) rfl rfl ?_
    refine p_getR X fl_X8_11 rfl (by decide) (dcg dc_X8_countUnlike 10 rfl) hk1 ?_
    refine p_iload_n X (dcg dc_X8_countUnlike 11 rfl) rfl rfl ?_
    obtain ⟨a4, e5, hf⟩ := gs_some hf
    first | subst e5 | (try rw [e5])
    obtain ⟨⟨hk7, hb6⟩, hf⟩ := gd_some hf
    refine p_iald X (dcg dc_X8_countUnlike 12 rfl) hk7 (vp_of_inb hb6) ?_
    refine p_iconst (v := 0) X (dcg dc_X8_countUnlike 13 rfl) (by decide) ?_
    obtain ⟨z8, hz8, hf⟩ := bd_some hf
    refine p_callV (As := [_, _]) X ml_X8_24 (dcg dc_X8_countUnlike 14 rfl) rfl rfl hk1 (wX8_placeOf hG hz8) (by decide) (room4 (Nat.le_of_ble_eq_true rfl)) (Nat.le_refl _) (Nat.le_refl _) ?_
    rintro _ u9 ⟨rfl, e9⟩; have e9 := e9.symm; subst e9
    refine p_iload_n X (dcg dc_X8_countUnlike 15 rfl) rfl rfl ?_
    refine p_icmp_ne (tgt := 30) X (dcg dc_X8_countUnlike 16 rfl) (by decide) (fun q => ?_) (fun q => ?_)
    · have hf := if_t q hf
      refine p_pick [0, 1, 2] ?_
      exact wX8_countUnlike_b30 X hG hnm hf k0 kf
    · have hf := if_f q hf
      refine p_iinc (v := 1) X (dcg dc_X8_countUnlike 17 rfl) rfl (by decide) (by decide) rfl ?_
      refine p_pick [0, 1, 2] ?_
      exact wX8_countUnlike_b30 X hG hnm hf k0 kf
noncomputable def fX8_countUnlike_l4 (v0 : Nat) (v1 : Int32) (v2 : Int32) (h : PH) : Option Int32 := wh (fun z : (Int32 × Int32) => fX8_countUnlike_c4 v0 (z.1) (z.2) h) (v1, v2)
set_option maxRecDepth 100000 in
theorem wX8_countUnlike_l4 {E : PE} {p : Program} {l : Launch} {e : Env} {s : State} {m : MethodId} {args : Array Value} {below : List Frame} {meth : Method} {c : Code} (X : Cx E p l e (rmv 1 0 0) s m args below meth c RX8 cX8_countUnlike 3 (some .int)) (hG : Gs E l) (hnm : meth.name = yX8_countUnlike.name) {v0 : Nat} {v1 : Int32} {v2 : Int32} {h : PH} {r : Int32} (hf : fX8_countUnlike_l4 v0 v1 v2 h = some r)  : PW E p l e (rmv 1 0 0) s m args below meth c 3 0 0 (MQ below (QG E (fun v u => v = some (.int r) ∧ u = h)) args s 0 0 (pA E)) h 4 [(0, some (.ref v0)), (1, some (.int v1)), (2, some (.int v2))] [] := by
  unfold fX8_countUnlike_l4 at hf
  refine wh_ind (P := fun z => PW E p l e (rmv 1 0 0) s m args below meth c 3 0 0 (MQ below (QG E (fun v u => v = some (.int r) ∧ u = h)) args s 0 0 (pA E)) h 4 [(0, some (.ref v0)), (1, some (.int (z.1))), (2, some (.int (z.2)))] []) (fun z x0 hs i1 i2 => ?_) _ hf
  exact wX8_countUnlike_c4 (r := r) (v0 := v0) (v1 := z.1) (v2 := z.2) (h := h) X hG hnm hs i1  i2
noncomputable def fX8_countUnlike (v0 : Nat) (h : PH) : Option Int32 :=
  fX8_countUnlike_l4 v0 (0 : Int32) (0 : Int32) h
set_option maxRecDepth 100000 in
theorem wX8_countUnlike {E : PE} {l : Launch} (hG : Gs E l) {v0 : Nat} {h : PH} {r : Int32} (hf : fX8_countUnlike v0 h = some r) : Ct E l 1 0 0 yX8_countUnlike cX8_countUnlike 3 (some .int) [.ref v0] h (fun v u => v = some (.int r) ∧ u = h) := by
  refine ct_of hG (by decide) (Nat.le_of_ble_eq_true rfl) ?_
  intro p e s m args below meth c X hnm
  show PW E p l e _ s m args below meth c _ 0 0 _ h 0 [(0, some (.ref v0))] []
  unfold fX8_countUnlike at hf
  refine p_iconst (v := 0) X (dcg dc_X8_countUnlike 0 rfl) (by decide) ?_
  refine p_istore_n X (dcg dc_X8_countUnlike 1 rfl) rfl (by decide) rfl ?_
  refine p_iconst (v := 0) X (dcg dc_X8_countUnlike 2 rfl) (by decide) ?_
  refine p_istore_n X (dcg dc_X8_countUnlike 3 rfl) rfl (by decide) rfl ?_
  refine p_pick [0, 1, 2] ?_
  exact wX8_countUnlike_l4 X hG hnm hf 
theorem dc_X8_countCommon : decs cX8_countCommon [(0, .iconst 0, 1), (1, .istore_n 2, 1), (2, .iconst 0, 1), (3, .istore_n 3, 1), (4, .iload_n 3, 1), (5, .aload_n 0, 1), (6, .getfield 15, 3), (9, .if_icmp .ge 40, 3), (12, .aload_n 0, 1), (13, .aload_n 0, 1), (14, .getfield 11, 3), (17, .iload_n 3, 1), (18, .iaload, 1), (19, .iconst 0, 1), (20, .invokevirtual 24, 3), (23, .iload_n 3, 1), (24, .if_icmp .ne 19, 3), (27, .aload_n 1, 1), (28, .aload_n 0, 1), (29, .getfield 11, 3), (32, .iload_n 3, 1), (33, .iaload, 1), (34, .invokevirtual 44, 3), (37, .ifCond .eq 6, 3), (40, .iinc 2 1, 3), (43, .iinc 3 1, 3), (46, .goto (-42), 3), (49, .iload_n 2, 1), (50, .ireturn, 1)] = true := by decide +kernel
noncomputable def fX8_countCommon_b43 (v0 : Nat) (v1 : Option Nat) (v2 : Int32) (v3 : Int32) (h : PH) : Option ((Int32 × Int32) ⊕ Int32) :=
  some (.inl (v2, (v3 + 1)))
set_option maxRecDepth 100000 in
theorem wX8_countCommon_b43 {E : PE} {p : Program} {l : Launch} {e : Env} {s : State} {m : MethodId} {args : Array Value} {below : List Frame} {meth : Method} {c : Code} (X : Cx E p l e (rmv 2 0 0) s m args below meth c RX8 cX8_countCommon 4 (some .int)) (hG : Gs E l) (hnm : meth.name = yX8_countCommon.name) {v0 : Nat} {v1 : Option Nat} {v2 : Int32} {v3 : Int32} {h : PH} {r : Int32} {x : ((Int32 × Int32) ⊕ Int32)} (hf : fX8_countCommon_b43 v0 v1 v2 v3 h = some x) (k0 : ∀ z : (Int32 × Int32), x = .inl z → PW E p l e (rmv 2 0 0) s m args below meth c 4 0 0 (MQ below (QG E (fun v u => v = some (.int r) ∧ u = h)) args s 0 0 (pA E)) h 4 [(0, some (.ref v0)), (1, some (va_rf v1)), (2, some (.int (z.1))), (3, some (.int (z.2)))] []) (kf : ∀ z : Int32, x = .inr z → z = r) : PW E p l e (rmv 2 0 0) s m args below meth c 4 0 0 (MQ below (QG E (fun v u => v = some (.int r) ∧ u = h)) args s 0 0 (pA E)) h 43 [(0, some (.ref v0)), (1, some (va_rf v1)), (2, some (.int v2)), (3, some (.int v3))] [] := by
  unfold fX8_countCommon_b43 at hf
  refine p_iinc (v := 1) X (dcg dc_X8_countCommon 25 rfl) rfl (by decide) (by decide) rfl ?_
  refine p_goto (tgt := 4) X (dcg dc_X8_countCommon 26 rfl) (by decide) ?_
  refine p_pick [0, 1, 2, 3] ?_
  exact k0 _ (Option.some.inj hf).symm
noncomputable def fX8_countCommon_c4 (v0 : Nat) (v1 : Option Nat) (v2 : Int32) (v3 : Int32) (h : PH) : Option ((Int32 × Int32) ⊕ Int32) :=
  gd (hK h v0 = 8) (if ((hI h 8 v0 1) ≤ v3) then (mr (some (v2))) else
  gs (hR h 8 v0 0) (fun a4 =>
  gd (hK h a4 = 20 ∧ inb v3 (hN h a4)) (bd (fX8_placeOf v0 (hI h 20 a4 (Int32.toNatClampNeg v3)) (0 : Int32) h) (fun z8 =>
  if (¬ z8 = v3) then (fX8_countCommon_b43 v0 v1 v2 v3 h) else
  gs (hR h 8 v0 0) (fun a9 =>
  gd (hK h a9 = 20 ∧ inb v3 (hN h a9)) (gs v1 (fun a13 =>
  gd (hK h a13 = 8) (bd (fX8_has a13 (hI h 20 a9 (Int32.toNatClampNeg v3)) h) (fun z16 =>
  if (z16 = 0) then (fX8_countCommon_b43 v0 (some a13) v2 v3 h) else
  fX8_countCommon_b43 v0 (some a13) (v2 + 1) v3 h)))))))))
set_option maxRecDepth 100000 in
theorem wX8_countCommon_c4 {E : PE} {p : Program} {l : Launch} {e : Env} {s : State} {m : MethodId} {args : Array Value} {below : List Frame} {meth : Method} {c : Code} (X : Cx E p l e (rmv 2 0 0) s m args below meth c RX8 cX8_countCommon 4 (some .int)) (hG : Gs E l) (hnm : meth.name = yX8_countCommon.name) {v0 : Nat} {v1 : Option Nat} {v2 : Int32} {v3 : Int32} {h : PH} {r : Int32} {x : ((Int32 × Int32) ⊕ Int32)} (hf : fX8_countCommon_c4 v0 v1 v2 v3 h = some x) (k0 : ∀ z : (Int32 × Int32), x = .inl z → PW E p l e (rmv 2 0 0) s m args below meth c 4 0 0 (MQ below (QG E (fun v u => v = some (.int r) ∧ u = h)) args s 0 0 (pA E)) h 4 [(0, some (.ref v0)), (1, some (va_rf v1)), (2, some (.int (z.1))), (3, some (.int (z.2)))] []) (kf : ∀ z : Int32, x = .inr z → z = r) : PW E p l e (rmv 2 0 0) s m args below meth c 4 0 0 (MQ below (QG E (fun v u => v = some (.int r) ∧ u = h)) args s 0 0 (pA E)) h 4 [(0, some (.ref v0)), (1, some (va_rf v1)), (2, some (.int v2)), (3, some (.int v3))] [] := by
  unfold fX8_countCommon_c4 at hf
  refine p_iload_n X (dcg dc_X8_countCommon 4 rfl) rfl rfl ?_
  refine p_aload_n X (dcg dc_X8_countCommon 5 rfl) rfl rfl ?_
  obtain ⟨hk1, hf⟩ := gd_some hf
  refine p_getI X fl_X8_15 rfl (by decide) (dcg dc_X8_countCommon 6 rfl) hk1 ?_
  refine p_icmp_ge (tgt := 49) X (dcg dc_X8_countCommon 7 rfl) (by decide) (fun q => ?_) (fun q => ?_)
  · have hf := if_t q hf
    obtain ⟨y2, hf, hy3⟩ := mr_some hf
    have hy3f := kf y2 hy3
    subst hy3f
    refine p_iload_n X (dcg dc_X8_countCommon 27 rfl) rfl rfl ?_
    have er := Option.some.inj hf
    subst er
    exact p_iret X rfl (dcg dc_X8_countCommon 28 rfl) ⟨rfl, rfl⟩ (Nat.le_refl _) (Nat.le_refl _)
  · have hf := if_f q hf
    refine p_aload_n X (dcg dc_X8_countCommon 8 rfl) rfl rfl ?_
    refine p_aload_n X (dcg dc_X8_countCommon 9 rfl) rfl rfl ?_
    refine p_getR X fl_X8_11 rfl (by decide) (dcg dc_X8_countCommon 10 rfl) hk1 ?_
    refine p_iload_n X (dcg dc_X8_countCommon 11 rfl) rfl rfl ?_
    obtain ⟨a4, e5, hf⟩ := gs_some hf
    first | subst e5 | (try rw [e5])
    obtain ⟨⟨hk7, hb6⟩, hf⟩ := gd_some hf
    refine p_iald X (dcg dc_X8_countCommon 12 rfl) hk7 (vp_of_inb hb6) ?_
    refine p_iconst (v := 0) X (dcg dc_X8_countCommon 13 rfl) (by decide) ?_
    obtain ⟨z8, hz8, hf⟩ := bd_some hf
    refine p_callV (As := [_, _]) X ml_X8_24 (dcg dc_X8_countCommon 14 rfl) rfl rfl hk1 (wX8_placeOf hG hz8) (by decide) (room4 (Nat.le_of_ble_eq_true rfl)) (Nat.le_refl _) (Nat.le_refl _) ?_
    rintro _ u9 ⟨rfl, e9⟩; have e9 := e9.symm; subst e9
    refine p_iload_n X (dcg dc_X8_countCommon 15 rfl) rfl rfl ?_
    refine p_icmp_ne (tgt := 43) X (dcg dc_X8_countCommon 16 rfl) (by decide) (fun q => ?_) (fun q => ?_)
    · have hf := if_t q hf
      refine p_pick [0, 1, 2, 3] ?_
      exact wX8_countCommon_b43 X hG hnm hf k0 kf
    · have hf := if_f q hf
      refine p_aloadq_n X (dcg dc_X8_countCommon 17 rfl) rfl rfl ?_
      refine p_aload_n X (dcg dc_X8_countCommon 18 rfl) rfl rfl ?_
      refine p_getR X fl_X8_11 rfl (by decide) (dcg dc_X8_countCommon 19 rfl) hk1 ?_
      refine p_iload_n X (dcg dc_X8_countCommon 20 rfl) rfl rfl ?_
      obtain ⟨a9, e10, hf⟩ := gs_some hf
      first | subst e10 | (try rw [e10])
      obtain ⟨⟨hk12, hb11⟩, hf⟩ := gd_some hf
      refine p_iald X (dcg dc_X8_countCommon 21 rfl) hk12 (vp_of_inb hb11) ?_
      obtain ⟨a13, e14, hf⟩ := gs_some hf
      first | subst e14 | (try rw [e14])
      obtain ⟨hk15, hf⟩ := gd_some hf
      obtain ⟨z16, hz16, hf⟩ := bd_some hf
      refine p_callV (As := [_]) X ml_X8_44 (dcg dc_X8_countCommon 22 rfl) rfl rfl hk15 (wX8_has hG hz16) (by decide) (room4 (Nat.le_of_ble_eq_true rfl)) (Nat.le_refl _) (Nat.le_refl _) ?_
      rintro _ u9 ⟨rfl, e9⟩; have e9 := e9.symm; subst e9
      refine p_if_eq (tgt := 43) X (dcg dc_X8_countCommon 23 rfl) (by decide) (fun q => ?_) (fun q => ?_)
      · have hf := if_t q hf
        refine p_pick [0, 1, 2, 3] ?_
        exact wX8_countCommon_b43 X hG hnm hf k0 kf
      · have hf := if_f q hf
        refine p_iinc (v := 1) X (dcg dc_X8_countCommon 24 rfl) rfl (by decide) (by decide) rfl ?_
        refine p_pick [0, 1, 2, 3] ?_
        exact wX8_countCommon_b43 X hG hnm hf k0 kf
noncomputable def fX8_countCommon_l4 (v0 : Nat) (v1 : Option Nat) (v2 : Int32) (v3 : Int32) (h : PH) : Option Int32 := wh (fun z : (Int32 × Int32) => fX8_countCommon_c4 v0 v1 (z.1) (z.2) h) (v2, v3)
set_option maxRecDepth 100000 in
theorem wX8_countCommon_l4 {E : PE} {p : Program} {l : Launch} {e : Env} {s : State} {m : MethodId} {args : Array Value} {below : List Frame} {meth : Method} {c : Code} (X : Cx E p l e (rmv 2 0 0) s m args below meth c RX8 cX8_countCommon 4 (some .int)) (hG : Gs E l) (hnm : meth.name = yX8_countCommon.name) {v0 : Nat} {v1 : Option Nat} {v2 : Int32} {v3 : Int32} {h : PH} {r : Int32} (hf : fX8_countCommon_l4 v0 v1 v2 v3 h = some r)  : PW E p l e (rmv 2 0 0) s m args below meth c 4 0 0 (MQ below (QG E (fun v u => v = some (.int r) ∧ u = h)) args s 0 0 (pA E)) h 4 [(0, some (.ref v0)), (1, some (va_rf v1)), (2, some (.int v2)), (3, some (.int v3))] [] := by
  unfold fX8_countCommon_l4 at hf
  refine wh_ind (P := fun z => PW E p l e (rmv 2 0 0) s m args below meth c 4 0 0 (MQ below (QG E (fun v u => v = some (.int r) ∧ u = h)) args s 0 0 (pA E)) h 4 [(0, some (.ref v0)), (1, some (va_rf v1)), (2, some (.int (z.1))), (3, some (.int (z.2)))] []) (fun z x0 hs i1 i2 => ?_) _ hf
  exact wX8_countCommon_c4 (r := r) (v0 := v0) (v1 := v1) (v2 := z.1) (v3 := z.2) (h := h) X hG hnm hs i1  i2
noncomputable def fX8_countCommon (v0 : Nat) (v1 : Option Nat) (h : PH) : Option Int32 :=
  fX8_countCommon_l4 v0 v1 (0 : Int32) (0 : Int32) h
set_option maxRecDepth 100000 in
theorem wX8_countCommon {E : PE} {l : Launch} (hG : Gs E l) {v0 : Nat} {v1 : Option Nat} {h : PH} {r : Int32} (hf : fX8_countCommon v0 v1 h = some r) : Ct E l 2 0 0 yX8_countCommon cX8_countCommon 4 (some .int) [.ref v0, va_rf v1] h (fun v u => v = some (.int r) ∧ u = h) := by
  refine ct_of hG (by decide) (by simp [lg_sl, cat_rf, cat_r, cat_i, cat_l, cat_d, cat_f]) ?_
  intro p e s m args below meth c X hnm
  rw [show pargs 0 [.ref v0, va_rf v1] = [(0, some (.ref v0)), (1, some (va_rf v1))] from by simp [pargs, cat_rf, cat_r, cat_i, cat_l, cat_d, cat_f]]
  unfold fX8_countCommon at hf
  refine p_iconst (v := 0) X (dcg dc_X8_countCommon 0 rfl) (by decide) ?_
  refine p_istore_n X (dcg dc_X8_countCommon 1 rfl) rfl (by decide) (nwq (k := 1) rfl) ?_
  refine p_iconst (v := 0) X (dcg dc_X8_countCommon 2 rfl) (by decide) ?_
  refine p_istore_n X (dcg dc_X8_countCommon 3 rfl) rfl (by decide) rfl ?_
  refine p_pick [0, 1, 2, 3] ?_
  exact wX8_countCommon_l4 X hG hnm hf 
theorem dc_X9_turn : decs cX9_turn [(0, .aload_n 0, 1), (1, .iload_n 1, 1), (2, .invokevirtual 20, 3), (5, .iload_n 2, 1), (6, .if_icmp .ne 5, 3), (9, .iconst 0, 1), (10, .ireturn, 1), (11, .iload_n 2, 1), (12, .ifCond .eq 11, 3), (15, .aload_n 0, 1), (16, .iload_n 1, 1), (17, .invokevirtual 24, 3), (20, .goto 8, 3), (23, .aload_n 0, 1), (24, .iload_n 1, 1), (25, .invokevirtual 28, 3), (28, .iconst 1, 1), (29, .ireturn, 1)] = true := by decide +kernel
noncomputable def fX9_turn_b28  (h : PH) : Option (Int32 × PH) :=
  some (((1 : Int32), h))
set_option maxRecDepth 100000 in
theorem mX9_turn_b28  {h : PH} {r : (Int32 × PH)} (hf : fX9_turn_b28  h = some r) : eqz h (hX r.2) (hV r.2) := by
  unfold fX9_turn_b28 at hf
  have hle := eqz_rf h
  have ee := Option.some.inj hf; subst ee; exact hle
set_option maxRecDepth 100000 in
theorem wX9_turn_b28 {E : PE} {p : Program} {l : Launch} {e : Env} {s : State} {m : MethodId} {args : Array Value} {below : List Frame} {meth : Method} {c : Code} (X : Cx E p l e (rmv 1 0 0) s m args below meth c RX9 cX9_turn 3 (some .boolean)) (hG : Gs E l) (hnm : meth.name = yX9_turn.name)  {h : PH} {r : (Int32 × PH)} (hf : fX9_turn_b28  h = some r)  : PW E p l e (rmv 1 0 0) s m args below meth c 3 0 0 (MQ below (QG E (fun v u => v = some (.int r.1) ∧ u = r.2)) args s 0 0 (pA E)) h 28 [] [] := by
  unfold fX9_turn_b28 at hf
  refine p_iconst (v := 1) X (dcg dc_X9_turn 16 rfl) (by decide) ?_
  have er := Option.some.inj hf
  subst er
  exact p_zret X rfl rfl (dcg dc_X9_turn 17 rfl) ⟨rfl, rfl⟩ (Nat.le_refl _) (Nat.le_refl _)
noncomputable def fX9_turn (v0 : Nat) (v1 : Int32) (v2 : Int32) (h : PH) : Option (Int32 × PH) :=
  gd (hK h v0 = 9) (bd (fX9_has v0 v1 h) (fun z2 =>
  if (¬ z2 = v2) then (if (v2 = 0) then (bd (fX9_take v0 v1 h) (fun z3 =>
  fX9_turn_b28  z3)) else
  bd (fX9_put v0 v1 h) (fun z4 =>
  fX9_turn_b28  z4)) else
  some (((0 : Int32), h))))
set_option maxRecDepth 100000 in
theorem mX9_turn {v0 : Nat} {v1 : Int32} {v2 : Int32} {h : PH} {r : (Int32 × PH)} (hf : fX9_turn v0 v1 v2 h = some r) : eqz h (hX r.2) (hV r.2) := by
  unfold fX9_turn at hf
  have hle := eqz_rf h
  obtain ⟨hk1, hf⟩ := gd_some hf
  obtain ⟨z2, hz2, hf⟩ := bd_some hf
  rcases ite_or hf with ⟨q, hf⟩ | ⟨q, hf⟩
  · have hf := if_t q hf
    rcases ite_or hf with ⟨q, hf⟩ | ⟨q, hf⟩
    · have hf := if_t q hf
      obtain ⟨z3, hz3, hf⟩ := bd_some hf
      have hle := eqz_rt (mX9_take hz3) hle
      exact eqz_rt (mX9_turn_b28 hf) hle
    · have hf := if_f q hf
      obtain ⟨z4, hz4, hf⟩ := bd_some hf
      have hle := eqz_rt (mX9_put hz4) hle
      exact eqz_rt (mX9_turn_b28 hf) hle
  · have hf := if_f q hf
    have ee := Option.some.inj hf; subst ee; exact hle
set_option maxRecDepth 100000 in
theorem wX9_turn {E : PE} {l : Launch} (hG : Gs E l) {v0 : Nat} {v1 : Int32} {v2 : Int32} {h : PH} {r : (Int32 × PH)} (hf : fX9_turn v0 v1 v2 h = some r) : Ct E l 1 0 0 yX9_turn cX9_turn 3 (some .boolean) [.ref v0, .int v1, .int v2] h (fun v u => v = some (.int r.1) ∧ u = r.2) := by
  refine ct_of hG (by decide) (Nat.le_of_ble_eq_true rfl) ?_
  intro p e s m args below meth c X hnm
  show PW E p l e _ s m args below meth c _ 0 0 _ h 0 [(0, some (.ref v0)), (1, some (.int v1)), (2, some (.int v2))] []
  unfold fX9_turn at hf
  refine p_aload_n X (dcg dc_X9_turn 0 rfl) rfl rfl ?_
  refine p_iload_n X (dcg dc_X9_turn 1 rfl) rfl rfl ?_
  obtain ⟨hk1, hf⟩ := gd_some hf
  obtain ⟨z2, hz2, hf⟩ := bd_some hf
  refine p_callV (As := [_]) X ml_X9_20 (dcg dc_X9_turn 2 rfl) rfl rfl hk1 (wX9_has hG hz2) (by decide) (room4 (Nat.le_of_ble_eq_true rfl)) (Nat.le_refl _) (Nat.le_refl _) ?_
  rintro _ u9 ⟨rfl, e9⟩; have e9 := e9.symm; subst e9
  refine p_iload_n X (dcg dc_X9_turn 3 rfl) rfl rfl ?_
  refine p_icmp_ne (tgt := 11) X (dcg dc_X9_turn 4 rfl) (by decide) (fun q => ?_) (fun q => ?_)
  · have hf := if_t q hf
    refine p_iload_n X (dcg dc_X9_turn 7 rfl) rfl rfl ?_
    refine p_if_eq (tgt := 23) X (dcg dc_X9_turn 8 rfl) (by decide) (fun q => ?_) (fun q => ?_)
    · have hf := if_t q hf
      refine p_aload_n X (dcg dc_X9_turn 13 rfl) rfl rfl ?_
      refine p_iload_n X (dcg dc_X9_turn 14 rfl) rfl rfl ?_
      obtain ⟨z3, hz3, hf⟩ := bd_some hf
      refine p_callV (As := [_]) X ml_X9_28 (dcg dc_X9_turn 15 rfl) rfl rfl hk1 (wX9_take hG hz3) (by decide) (room4 (Nat.le_of_ble_eq_true rfl)) (Nat.le_refl _) (Nat.le_refl _) ?_
      rintro _ u9 ⟨rfl, e9⟩; have e9 := e9.symm; subst e9
      refine p_pick [] ?_
      exact wX9_turn_b28 X hG hnm hf 
    · have hf := if_f q hf
      refine p_aload_n X (dcg dc_X9_turn 9 rfl) rfl rfl ?_
      refine p_iload_n X (dcg dc_X9_turn 10 rfl) rfl rfl ?_
      obtain ⟨z4, hz4, hf⟩ := bd_some hf
      refine p_callV (As := [_]) X ml_X9_24 (dcg dc_X9_turn 11 rfl) rfl rfl hk1 (wX9_put hG hz4) (by decide) (room4 (Nat.le_of_ble_eq_true rfl)) (Nat.le_refl _) (Nat.le_refl _) ?_
      rintro _ u9 ⟨rfl, e9⟩; have e9 := e9.symm; subst e9
      refine p_goto (tgt := 28) X (dcg dc_X9_turn 12 rfl) (by decide) ?_
      refine p_pick [] ?_
      exact wX9_turn_b28 X hG hnm hf 
  · have hf := if_f q hf
    refine p_iconst (v := 0) X (dcg dc_X9_turn 5 rfl) (by decide) ?_
    have er := Option.some.inj hf
    subst er
    exact p_zret X rfl rfl (dcg dc_X9_turn 6 rfl) ⟨rfl, rfl⟩ (Nat.le_refl _) (Nat.le_refl _)
theorem dc_X9_clear : decs cX9_clear [(0, .aload_n 0, 1), (1, .lconst 0, 1), (2, .putfield 11, 3), (5, .aload_n 0, 1), (6, .lconst 0, 1), (7, .putfield 15, 3), (10, .return_, 1)] = true := by decide +kernel
noncomputable def fX9_clear (v0 : Nat) (h : PH) : Option PH :=
  gd (hK h v0 = 9) (lt (sL h 9 v0 0 (0 : Int64)) (fun h2 =>
  lt (sL h2 9 v0 1 (0 : Int64)) (fun h3 =>
  some (h3))))
set_option maxRecDepth 100000 in
theorem mX9_clear {v0 : Nat} {h : PH} {r : PH} (hf : fX9_clear v0 h = some r) : eqz h (hX r) (hV r) := by
  unfold fX9_clear at hf
  have hle := eqz_rf h
  obtain ⟨hk1, hf⟩ := gd_some hf
  obtain ⟨h2, rfl, hf⟩ := lt_some hf
  obtain ⟨h3, rfl, hf⟩ := lt_some hf
  have ee := Option.some.inj hf; subst ee; exact hle
set_option maxRecDepth 100000 in
theorem wX9_clear {E : PE} {l : Launch} (hG : Gs E l) {v0 : Nat} {h : PH} {r : PH} (hf : fX9_clear v0 h = some r) : Ct E l 0 0 0 yX9_clear cX9_clear 1 (none) [.ref v0] h (fun v u => v = none ∧ u = r) := by
  refine ct_of hG (by decide) (Nat.le_of_ble_eq_true rfl) ?_
  intro p e s m args below meth c X hnm
  show PW E p l e _ s m args below meth c _ 0 0 _ h 0 [(0, some (.ref v0))] []
  unfold fX9_clear at hf
  refine p_aload_n X (dcg dc_X9_clear 0 rfl) rfl rfl ?_
  refine p_lconst (v := 0) X (dcg dc_X9_clear 1 rfl) (by decide) ?_
  obtain ⟨hk1, hf⟩ := gd_some hf
  refine p_putL X fl_X9_11 rfl (by decide) (fun q hq => by cases hq; rfl) rfl rfl (dcg dc_X9_clear 2 rfl) hk1 ?_
  obtain ⟨h2, rfl, hf⟩ := lt_some hf
  refine p_aload_n X (dcg dc_X9_clear 3 rfl) rfl rfl ?_
  refine p_lconst (v := 0) X (dcg dc_X9_clear 4 rfl) (by decide) ?_
  refine p_putL X fl_X9_15 rfl (by decide) (fun q hq => by cases hq; rfl) rfl rfl (dcg dc_X9_clear 5 rfl) hk1 ?_
  obtain ⟨h3, rfl, hf⟩ := lt_some hf
  have er := Option.some.inj hf
  subst er
  exact p_vret X rfl (dcg dc_X9_clear 6 rfl) ⟨rfl, rfl⟩ (Nat.le_refl _) (Nat.le_refl _)
theorem dc_X9_next : decs cX9_next [(0, .iload_n 1, 1), (1, .istore_n 2, 1), (2, .iload_n 2, 1), (3, .bipush 100, 2), (5, .if_icmp .ge 19, 3), (8, .aload_n 0, 1), (9, .iload_n 2, 1), (10, .invokevirtual 20, 3), (13, .ifCond .eq 5, 3), (16, .iload_n 2, 1), (17, .ireturn, 1), (18, .iinc 2 1, 3), (21, .goto (-19), 3), (24, .iconst (-1), 1), (25, .ireturn, 1)] = true := by decide +kernel
noncomputable def fX9_next_c2 (v0 : Nat) (v2 : Int32) (h : PH) : Option ((Int32) ⊕ Int32) :=
  if ((100 : Int32) ≤ v2) then (mr (some ((-1 : Int32)))) else
  gd (hK h v0 = 9) (bd (fX9_has v0 v2 h) (fun z4 =>
  if (z4 = 0) then (some (.inl ((v2 + 1)))) else
  mr (some (v2))))
set_option maxRecDepth 100000 in
theorem wX9_next_c2 {E : PE} {p : Program} {l : Launch} {e : Env} {s : State} {m : MethodId} {args : Array Value} {below : List Frame} {meth : Method} {c : Code} (X : Cx E p l e (rmv 1 0 0) s m args below meth c RX9 cX9_next 3 (some .int)) (hG : Gs E l) (hnm : meth.name = yX9_next.name) {v0 : Nat} {v2 : Int32} {h : PH} {r : Int32} {x : ((Int32) ⊕ Int32)} (hf : fX9_next_c2 v0 v2 h = some x) (k0 : ∀ z : (Int32), x = .inl z → PW E p l e (rmv 1 0 0) s m args below meth c 3 0 0 (MQ below (QG E (fun v u => v = some (.int r) ∧ u = h)) args s 0 0 (pA E)) h 2 [(0, some (.ref v0)), (2, some (.int (z)))] []) (kf : ∀ z : Int32, x = .inr z → z = r) : PW E p l e (rmv 1 0 0) s m args below meth c 3 0 0 (MQ below (QG E (fun v u => v = some (.int r) ∧ u = h)) args s 0 0 (pA E)) h 2 [(0, some (.ref v0)), (2, some (.int v2))] [] := by
  unfold fX9_next_c2 at hf
  refine p_iload_n X (dcg dc_X9_next 2 rfl) rfl rfl ?_
  refine p_bipush (v := 100) X (dcg dc_X9_next 3 rfl) (by decide) ?_
  refine p_icmp_ge (tgt := 24) X (dcg dc_X9_next 4 rfl) (by decide) (fun q => ?_) (fun q => ?_)
  · have hf := if_t q hf
    obtain ⟨y1, hf, hy2⟩ := mr_some hf
    have hy2f := kf y1 hy2
    subst hy2f
    refine p_iconst (v := -1) X (dcg dc_X9_next 13 rfl) (by decide) ?_
    have er := Option.some.inj hf
    subst er
    exact p_iret X rfl (dcg dc_X9_next 14 rfl) ⟨rfl, rfl⟩ (Nat.le_refl _) (Nat.le_refl _)
  · have hf := if_f q hf
    refine p_aload_n X (dcg dc_X9_next 5 rfl) rfl rfl ?_
    refine p_iload_n X (dcg dc_X9_next 6 rfl) rfl rfl ?_
    obtain ⟨hk3, hf⟩ := gd_some hf
    obtain ⟨z4, hz4, hf⟩ := bd_some hf
    refine p_callV (As := [_]) X ml_X9_20 (dcg dc_X9_next 7 rfl) rfl rfl hk3 (wX9_has hG hz4) (by decide) (room4 (Nat.le_of_ble_eq_true rfl)) (Nat.le_refl _) (Nat.le_refl _) ?_
    rintro _ u9 ⟨rfl, e9⟩; have e9 := e9.symm; subst e9
    refine p_if_eq (tgt := 18) X (dcg dc_X9_next 8 rfl) (by decide) (fun q => ?_) (fun q => ?_)
    · have hf := if_t q hf
      refine p_iinc (v := 1) X (dcg dc_X9_next 11 rfl) rfl (by decide) (by decide) rfl ?_
      refine p_goto (tgt := 2) X (dcg dc_X9_next 12 rfl) (by decide) ?_
      refine p_pick [0, 2] ?_
      exact k0 _ (Option.some.inj hf).symm
    · have hf := if_f q hf
      obtain ⟨y5, hf, hy6⟩ := mr_some hf
      have hy6f := kf y5 hy6
      subst hy6f
      refine p_iload_n X (dcg dc_X9_next 9 rfl) rfl rfl ?_
      have er := Option.some.inj hf
      subst er
      exact p_iret X rfl (dcg dc_X9_next 10 rfl) ⟨rfl, rfl⟩ (Nat.le_refl _) (Nat.le_refl _)
noncomputable def fX9_next_l2 (v0 : Nat) (v2 : Int32) (h : PH) : Option Int32 := wh (fun z : (Int32) => fX9_next_c2 v0 (z) h) (v2)
set_option maxRecDepth 100000 in
theorem wX9_next_l2 {E : PE} {p : Program} {l : Launch} {e : Env} {s : State} {m : MethodId} {args : Array Value} {below : List Frame} {meth : Method} {c : Code} (X : Cx E p l e (rmv 1 0 0) s m args below meth c RX9 cX9_next 3 (some .int)) (hG : Gs E l) (hnm : meth.name = yX9_next.name) {v0 : Nat} {v2 : Int32} {h : PH} {r : Int32} (hf : fX9_next_l2 v0 v2 h = some r)  : PW E p l e (rmv 1 0 0) s m args below meth c 3 0 0 (MQ below (QG E (fun v u => v = some (.int r) ∧ u = h)) args s 0 0 (pA E)) h 2 [(0, some (.ref v0)), (2, some (.int v2))] [] := by
  unfold fX9_next_l2 at hf
  refine wh_ind (P := fun z => PW E p l e (rmv 1 0 0) s m args below meth c 3 0 0 (MQ below (QG E (fun v u => v = some (.int r) ∧ u = h)) args s 0 0 (pA E)) h 2 [(0, some (.ref v0)), (2, some (.int (z)))] []) (fun z x0 hs i1 i2 => ?_) _ hf
  exact wX9_next_c2 (r := r) (v0 := v0) (v2 := z) (h := h) X hG hnm hs i1  i2
noncomputable def fX9_next (v0 : Nat) (v1 : Int32) (h : PH) : Option Int32 :=
  fX9_next_l2 v0 v1 h
set_option maxRecDepth 100000 in
theorem wX9_next {E : PE} {l : Launch} (hG : Gs E l) {v0 : Nat} {v1 : Int32} {h : PH} {r : Int32} (hf : fX9_next v0 v1 h = some r) : Ct E l 1 0 0 yX9_next cX9_next 3 (some .int) [.ref v0, .int v1] h (fun v u => v = some (.int r) ∧ u = h) := by
  refine ct_of hG (by decide) (Nat.le_of_ble_eq_true rfl) ?_
  intro p e s m args below meth c X hnm
  show PW E p l e _ s m args below meth c _ 0 0 _ h 0 [(0, some (.ref v0)), (1, some (.int v1))] []
  unfold fX9_next at hf
  refine p_iload_n X (dcg dc_X9_next 0 rfl) rfl rfl ?_
  refine p_istore_n X (dcg dc_X9_next 1 rfl) rfl (by decide) rfl ?_
  refine p_pick [0, 2] ?_
  exact wX9_next_l2 X hG hnm hf 
