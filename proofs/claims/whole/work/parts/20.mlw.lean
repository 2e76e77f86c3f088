/-! methods of the program (by program: wip/whole/gen2.py) -/
theorem dc_X12_common : decs cX12_common [(0, .aload_n 0, 1), (1, .iconst 0, 1), (2, .putfield 1, 3), (5, .aload_n 0, 1), (6, .iload_n 1, 1), (7, .invokevirtual 212, 3), (10, .ifCond .ne 11, 3), (13, .aload_n 0, 1), (14, .iload_n 2, 1), (15, .invokevirtual 212, 3), (18, .ifCond .eq 7, 3), (21, .iconst 0, 1), (22, .goto 9, 3), (25, .aload_n 0, 1), (26, .iload_n 1, 1), (27, .iload_n 2, 1), (28, .invokevirtual 418, 3), (31, .ireturn, 1)] = true := by decide +kernel
noncomputable def fX12_common_b31 (t0 : Int32) (h : PH) : Option (Int32 × PH) :=
  some ((t0, h))
set_option maxRecDepth 100000 in
theorem mX12_common_b31 {t0 : Int32} {h : PH} {r : (Int32 × PH)} (hf : fX12_common_b31 t0 h = some r) : eqz h (hX r.2) (hV r.2) := by
  unfold fX12_common_b31 at hf
  have hle := eqz_rf h
  have ee := Option.some.inj hf; subst ee; exact hle
set_option maxRecDepth 100000 in
theorem wX12_common_b31 {E : PE} {p : Program} {l : Launch} {e : Env} {s : State} {m : MethodId} {args : Array Value} {below : List Frame} {meth : Method} {c : Code} (X : Cx E p l e (rmv 3 0 0) s m args below meth c RX12 cX12_common 3 (some .int)) (hG : Gs E l) (hnm : meth.name = yX12_common.name) {t0 : Int32} {h : PH} {r : (Int32 × PH)} (hf : fX12_common_b31 t0 h = some r)  : PW E p l e (rmv 3 0 0) s m args below meth c 3 0 0 (MQ below (QG E (fun v u => v = some (.int r.1) ∧ u = r.2)) args s 0 0 (pA E)) h 31 [] [.int t0] := by
  unfold fX12_common_b31 at hf
  have er := Option.some.inj hf
  subst er
  exact p_iret X rfl (dcg dc_X12_common 17 rfl) ⟨rfl, rfl⟩ (Nat.le_refl _) (Nat.le_refl _)
noncomputable def fX12_common_b21  (h : PH) : Option (Int32 × PH) :=
  fX12_common_b31 (0 : Int32) h
set_option maxRecDepth 100000 in
theorem mX12_common_b21  {h : PH} {r : (Int32 × PH)} (hf : fX12_common_b21  h = some r) : eqz h (hX r.2) (hV r.2) := by
  unfold fX12_common_b21 at hf
  have hle := eqz_rf h
  exact eqz_rt (mX12_common_b31 hf) hle
set_option maxRecDepth 100000 in
theorem wX12_common_b21 {E : PE} {p : Program} {l : Launch} {e : Env} {s : State} {m : MethodId} {args : Array Value} {below : List Frame} {meth : Method} {c : Code} (X : Cx E p l e (rmv 3 0 0) s m args below meth c RX12 cX12_common 3 (some .int)) (hG : Gs E l) (hnm : meth.name = yX12_common.name)  {h : PH} {r : (Int32 × PH)} (hf : fX12_common_b21  h = some r)  : PW E p l e (rmv 3 0 0) s m args below meth c 3 0 0 (MQ below (QG E (fun v u => v = some (.int r.1) ∧ u = r.2)) args s 0 0 (pA E)) h 21 [] [] := by
  unfold fX12_common_b21 at hf
  refine p_iconst (v := 0) X (dcg dc_X12_common 11 rfl) (by decide) ?_
  refine p_goto (tgt := 31) X (dcg dc_X12_common 12 rfl) (by decide) ?_
  refine p_pick [] ?_
  exact wX12_common_b31 X hG hnm hf 
noncomputable def fX12_common (v0 : Nat) (v1 : Int32) (v2 : Int32) (h : PH) : Option (Int32 × PH) :=
  gd (hK h v0 = 12) (lt (sI h 12 v0 0 (0 : Int32)) (fun h2 =>
  bd (fX12_noText v0 v1 h2) (fun z3 =>
  if (¬ z3.1 = 0) then (fX12_common_b21  z3.2) else
  gd (hK z3.2 v0 = 12) (bd (fX12_noText v0 v2 z3.2) (fun z5 =>
  if (z5.1 = 0) then (gd (hK z5.2 v0 = 12) (bd (fX12_shared v0 v1 v2 z5.2) (fun z7 =>
  fX12_common_b31 z7 z5.2))) else
  fX12_common_b21  z5.2)))))
set_option maxRecDepth 100000 in
theorem mX12_common {v0 : Nat} {v1 : Int32} {v2 : Int32} {h : PH} {r : (Int32 × PH)} (hf : fX12_common v0 v1 v2 h = some r) : eqz h (hX r.2) (hV r.2) := by
  unfold fX12_common at hf
  have hle := eqz_rf h
  obtain ⟨hk1, hf⟩ := gd_some hf
  obtain ⟨h2, rfl, hf⟩ := lt_some hf
  obtain ⟨z3, hz3, hf⟩ := bd_some hf
  have hle := eqz_rt (mX12_noText hz3) hle
  rcases ite_or hf with ⟨q, hf⟩ | ⟨q, hf⟩
  · have hf := if_t q hf
    exact eqz_rt (mX12_common_b21 hf) hle
  · have hf := if_f q hf
    obtain ⟨hk4, hf⟩ := gd_some hf
    obtain ⟨z5, hz5, hf⟩ := bd_some hf
    have hle := eqz_rt (mX12_noText hz5) hle
    rcases ite_or hf with ⟨q, hf⟩ | ⟨q, hf⟩
    · have hf := if_t q hf
      obtain ⟨hk6, hf⟩ := gd_some hf
      obtain ⟨z7, hz7, hf⟩ := bd_some hf
      exact eqz_rt (mX12_common_b31 hf) hle
    · have hf := if_f q hf
      exact eqz_rt (mX12_common_b21 hf) hle
set_option maxRecDepth 100000 in
theorem wX12_common {E : PE} {l : Launch} (hG : Gs E l) {v0 : Nat} {v1 : Int32} {v2 : Int32} {h : PH} {r : (Int32 × PH)} (hf : fX12_common v0 v1 v2 h = some r) : Ct E l 3 0 0 yX12_common cX12_common 3 (some .int) [.ref v0, .int v1, .int v2] h (fun v u => v = some (.int r.1) ∧ u = r.2) := by
  refine ct_of hG (by decide) (Nat.le_of_ble_eq_true rfl) ?_
  intro p e s m args below meth c X hnm
  show PW E p l e _ s m args below meth c _ 0 0 _ h 0 [(0, some (.ref v0)), (1, some (.int v1)), (2, some (.int v2))] []
  unfold fX12_common at hf
  refine p_aload_n X (dcg dc_X12_common 0 rfl) rfl rfl ?_
  refine p_iconst (v := 0) X (dcg dc_X12_common 1 rfl) (by decide) ?_
  obtain ⟨hk1, hf⟩ := gd_some hf
  refine p_putI X fl_X12_1 rfl (by decide) (fun q hq => by cases hq; rfl) rfl rfl (dcg dc_X12_common 2 rfl) hk1 ?_
  obtain ⟨h2, rfl, hf⟩ := lt_some hf
  refine p_aload_n X (dcg dc_X12_common 3 rfl) rfl rfl ?_
  refine p_iload_n X (dcg dc_X12_common 4 rfl) rfl rfl ?_
  obtain ⟨z3, hz3, hf⟩ := bd_some hf
  refine p_callV (As := [_]) X ml_X12_212 (dcg dc_X12_common 5 rfl) rfl rfl hk1 (wX12_noText hG hz3) (by decide) (room4 (Nat.le_of_ble_eq_true rfl)) (Nat.le_refl _) (Nat.le_refl _) ?_
  rintro _ u9 ⟨rfl, e9⟩; have e9 := e9.symm; subst e9
  refine p_if_ne (tgt := 21) X (dcg dc_X12_common 6 rfl) (by decide) (fun q => ?_) (fun q => ?_)
  · have hf := if_t q hf
    refine p_pick [] ?_
    exact wX12_common_b21 X hG hnm hf 
  · have hf := if_f q hf
    refine p_aload_n X (dcg dc_X12_common 7 rfl) rfl rfl ?_
    refine p_iload_n X (dcg dc_X12_common 8 rfl) rfl rfl ?_
    obtain ⟨hk4, hf⟩ := gd_some hf
    obtain ⟨z5, hz5, hf⟩ := bd_some hf
    refine p_callV (As := [_]) X ml_X12_212 (dcg dc_X12_common 9 rfl) rfl rfl hk4 (wX12_noText hG hz5) (by decide) (room4 (Nat.le_of_ble_eq_true rfl)) (Nat.le_refl _) (Nat.le_refl _) ?_
    rintro _ u9 ⟨rfl, e9⟩; have e9 := e9.symm; subst e9
    refine p_if_eq (tgt := 25) X (dcg dc_X12_common 10 rfl) (by decide) (fun q => ?_) (fun q => ?_)
    · have hf := if_t q hf
      refine p_aload_n X (dcg dc_X12_common 13 rfl) rfl rfl ?_
      refine p_iload_n X (dcg dc_X12_common 14 rfl) rfl rfl ?_
      refine p_iload_n X (dcg dc_X12_common 15 rfl) rfl rfl ?_
      obtain ⟨hk6, hf⟩ := gd_some hf
      obtain ⟨z7, hz7, hf⟩ := bd_some hf
      refine p_callV (As := [_, _]) X ml_X12_418 (dcg dc_X12_common 16 rfl) rfl rfl hk6 (wX12_shared hG hz7) (by decide) (room4 (Nat.le_of_ble_eq_true rfl)) (Nat.le_refl _) (Nat.le_refl _) ?_
      rintro _ u9 ⟨rfl, e9⟩; have e9 := e9.symm; subst e9
      refine p_pick [] ?_
      exact wX12_common_b31 X hG hnm hf 
    · have hf := if_f q hf
      refine p_pick [] ?_
      exact wX12_common_b21 X hG hnm hf 
theorem dc_X12_nearest : decs cX12_nearest [(0, .aload_n 0, 1), (1, .iconst 0, 1), (2, .putfield 1, 3), (5, .aload_n 0, 1), (6, .iload_n 1, 1), (7, .invokevirtual 212, 3), (10, .ifCond .eq 5, 3), (13, .iconst 0, 1), (14, .ireturn, 1), (15, .iconst (-1), 1), (16, .istore_n 2, 1), (17, .iconst 0, 1), (18, .istore_n 3, 1), (19, .iconst 1, 1), (20, .istore 4, 2), (22, .iconst 0, 1), (23, .istore 5, 2), (25, .iload 5, 2), (27, .bipush 100, 2), (29, .if_icmp .ge 95, 3), (32, .aload_n 0, 1), (33, .getfield 20, 3), (36, .iload 5, 2), (38, .baload, 1), (39, .ifCond .eq 79, 3), (42, .iload 5, 2), (44, .iload_n 1, 1), (45, .if_icmp .ne 6, 3), (48, .goto 70, 3), (51, .aload_n 0, 1), (52, .iload_n 1, 1), (53, .iload 5, 2), (55, .invokevirtual 418, 3), (58, .istore 6, 2), (60, .aload_n 0, 1), (61, .iload_n 1, 1), (62, .iload_n 1, 1), (63, .invokevirtual 418, 3), (66, .aload_n 0, 1), (67, .iload 5, 2), (69, .iload 5, 2), (71, .invokevirtual 418, 3), (74, .iadd, 1), (75, .iload 6, 2), (77, .isub, 1), (78, .istore 7, 2), (80, .iload 7, 2), (82, .ifCond .ne 6, 3), (85, .iconst 1, 1), (86, .istore 7, 2), (88, .iload_n 2, 1), (89, .iconst (-1), 1), (90, .if_icmp .eq 18, 3), (93, .iload 6, 2), (95, .iload 4, 2), (97, .imul, 1), (98, .iload_n 3, 1), (99, .iload 7, 2), (101, .imul, 1), (102, .if_icmp .gt 6, 3), (105, .goto 13, 3), (108, .iload 5, 2), (110, .istore_n 2, 1), (111, .iload 6, 2), (113, .istore_n 3, 1), (114, .iload 7, 2), (116, .istore 4, 2), (118, .iinc 5 1, 3), (121, .goto (-96), 3), (124, .iload_n 2, 1), (125, .ireturn, 1)] = true := by decide +kernel
noncomputable def fX12_nearest_b118 (v0 : Nat) (v1 : Int32) (v2 : Int32) (v3 : Int32) (v4 : Int32) (v5 : Int32) (h : PH) : Option ((Int32 × Int32 × Int32 × Int32) ⊕ (Int32 × PH)) :=
  some (.inl (v2, v3, v4, (v5 + 1)))
set_option maxRecDepth 100000 in
theorem mX12_nearest_b118 {v0 : Nat} {v1 : Int32} {v2 : Int32} {v3 : Int32} {v4 : Int32} {v5 : Int32} {h : PH} {x : ((Int32 × Int32 × Int32 × Int32) ⊕ (Int32 × PH))} (hf : fX12_nearest_b118 v0 v1 v2 v3 v4 v5 h = some x) : (∀ w9 : (Int32 × PH), x = .inr w9 → eqz h (hX w9.2) (hV w9.2)) := by
  unfold fX12_nearest_b118 at hf
  have hle := eqz_rf h
  have ee := Option.some.inj hf; subst ee
  exact (fun z e => nomatch e)
set_option maxRecDepth 100000 in
theorem wX12_nearest_b118 {E : PE} {p : Program} {l : Launch} {e : Env} {s : State} {m : MethodId} {args : Array Value} {below : List Frame} {meth : Method} {c : Code} (X : Cx E p l e (rmv 3 0 0) s m args below meth c RX12 cX12_nearest 8 (some .int)) (hG : Gs E l) (hnm : meth.name = yX12_nearest.name) {v0 : Nat} {v1 : Int32} {v2 : Int32} {v3 : Int32} {v4 : Int32} {v5 : Int32} {h : PH} {r : (Int32 × PH)} {x : ((Int32 × Int32 × Int32 × Int32) ⊕ (Int32 × PH))} (hf : fX12_nearest_b118 v0 v1 v2 v3 v4 v5 h = some x) (k0 : ∀ z : (Int32 × Int32 × Int32 × Int32), x = .inl z → PW E p l e (rmv 3 0 0) s m args below meth c 8 0 0 (MQ below (QG E (fun v u => v = some (.int r.1) ∧ u = r.2)) args s 0 0 (pA E)) h 25 [(0, some (.ref v0)), (1, some (.int v1)), (2, some (.int (z.1))), (3, some (.int (z.2.1))), (4, some (.int (z.2.2.1))), (5, some (.int (z.2.2.2)))] []) (kf : ∀ z : (Int32 × PH), x = .inr z → z = r) : PW E p l e (rmv 3 0 0) s m args below meth c 8 0 0 (MQ below (QG E (fun v u => v = some (.int r.1) ∧ u = r.2)) args s 0 0 (pA E)) h 118 [(0, some (.ref v0)), (1, some (.int v1)), (2, some (.int v2)), (3, some (.int v3)), (4, some (.int v4)), (5, some (.int v5))] [] := by
  unfold fX12_nearest_b118 at hf
  refine p_iinc (v := 1) X (dcg dc_X12_nearest 67 rfl) rfl (by decide) (by decide) rfl ?_
  refine p_goto (tgt := 25) X (dcg dc_X12_nearest 68 rfl) (by decide) ?_
  refine p_pick [0, 1, 2, 3, 4, 5] ?_
  exact k0 _ (Option.some.inj hf).symm
noncomputable def fX12_nearest_b108 (v0 : Nat) (v1 : Int32) (v5 : Int32) (v6 : Int32) (v7 : Int32) (h : PH) : Option ((Int32 × Int32 × Int32 × Int32) ⊕ (Int32 × PH)) :=
  fX12_nearest_b118 v0 v1 v5 v6 v7 v5 h
set_option maxRecDepth 100000 in
theorem mX12_nearest_b108 {v0 : Nat} {v1 : Int32} {v5 : Int32} {v6 : Int32} {v7 : Int32} {h : PH} {x : ((Int32 × Int32 × Int32 × Int32) ⊕ (Int32 × PH))} (hf : fX12_nearest_b108 v0 v1 v5 v6 v7 h = some x) : (∀ w9 : (Int32 × PH), x = .inr w9 → eqz h (hX w9.2) (hV w9.2)) := by
  unfold fX12_nearest_b108 at hf
  have hle := eqz_rf h
  obtain cf := mX12_nearest_b118 hf
  exact fun z e => eqz_rt (cf z (e)) hle
set_option maxRecDepth 100000 in
theorem wX12_nearest_b108 {E : PE} {p : Program} {l : Launch} {e : Env} {s : State} {m : MethodId} {args : Array Value} {below : List Frame} {meth : Method} {c : Code} (X : Cx E p l e (rmv 3 0 0) s m args below meth c RX12 cX12_nearest 8 (some .int)) (hG : Gs E l) (hnm : meth.name = yX12_nearest.name) {v0 : Nat} {v1 : Int32} {v5 : Int32} {v6 : Int32} {v7 : Int32} {h : PH} {r : (Int32 × PH)} {x : ((Int32 × Int32 × Int32 × Int32) ⊕ (Int32 × PH))} (hf : fX12_nearest_b108 v0 v1 v5 v6 v7 h = some x) (k0 : ∀ z : (Int32 × Int32 × Int32 × Int32), x = .inl z → PW E p l e (rmv 3 0 0) s m args below meth c 8 0 0 (MQ below (QG E (fun v u => v = some (.int r.1) ∧ u = r.2)) args s 0 0 (pA E)) h 25 [(0, some (.ref v0)), (1, some (.int v1)), (2, some (.int (z.1))), (3, some (.int (z.2.1))), (4, some (.int (z.2.2.1))), (5, some (.int (z.2.2.2)))] []) (kf : ∀ z : (Int32 × PH), x = .inr z → z = r) : PW E p l e (rmv 3 0 0) s m args below meth c 8 0 0 (MQ below (QG E (fun v u => v = some (.int r.1) ∧ u = r.2)) args s 0 0 (pA E)) h 108 [(0, some (.ref v0)), (1, some (.int v1)), (5, some (.int v5)), (6, some (.int v6)), (7, some (.int v7))] [] := by
  unfold fX12_nearest_b108 at hf
  refine p_iload X (dcg dc_X12_nearest 61 rfl) rfl ?_
  refine p_istore_n X (dcg dc_X12_nearest 62 rfl) rfl (by decide) rfl ?_
  refine p_iload X (dcg dc_X12_nearest 63 rfl) rfl ?_
  refine p_istore_n X (dcg dc_X12_nearest 64 rfl) rfl (by decide) rfl ?_
  refine p_iload X (dcg dc_X12_nearest 65 rfl) rfl ?_
  refine p_istore X (dcg dc_X12_nearest 66 rfl) (by decide) rfl ?_
  refine p_pick [0, 1, 2, 3, 4, 5] ?_
  exact wX12_nearest_b118 X hG hnm hf k0 kf
noncomputable def fX12_nearest_b88 (v0 : Nat) (v1 : Int32) (v2 : Int32) (v3 : Int32) (v4 : Int32) (v5 : Int32) (v6 : Int32) (v7 : Int32) (h : PH) : Option ((Int32 × Int32 × Int32 × Int32) ⊕ (Int32 × PH)) :=
  if (v2 = (-1 : Int32)) then (fX12_nearest_b108 v0 v1 v5 v6 v7 h) else
  if ((v3 * v7) < (v6 * v4)) then (fX12_nearest_b108 v0 v1 v5 v6 v7 h) else
  fX12_nearest_b118 v0 v1 v2 v3 v4 v5 h
set_option maxRecDepth 100000 in
theorem mX12_nearest_b88 {v0 : Nat} {v1 : Int32} {v2 : Int32} {v3 : Int32} {v4 : Int32} {v5 : Int32} {v6 : Int32} {v7 : Int32} {h : PH} {x : ((Int32 × Int32 × Int32 × Int32) ⊕ (Int32 × PH))} (hf : fX12_nearest_b88 v0 v1 v2 v3 v4 v5 v6 v7 h = some x) : (∀ w9 : (Int32 × PH), x = .inr w9 → eqz h (hX w9.2) (hV w9.2)) := by
  unfold fX12_nearest_b88 at hf
  have hle := eqz_rf h
  rcases ite_or hf with ⟨q, hf⟩ | ⟨q, hf⟩
  · have hf := if_t q hf
    obtain cf := mX12_nearest_b108 hf
    exact fun z e => eqz_rt (cf z (e)) hle
  · have hf := if_f q hf
    rcases ite_or hf with ⟨q, hf⟩ | ⟨q, hf⟩
    · have hf := if_t q hf
      obtain cf := mX12_nearest_b108 hf
      exact fun z e => eqz_rt (cf z (e)) hle
    · have hf := if_f q hf
      obtain cf := mX12_nearest_b118 hf
      exact fun z e => eqz_rt (cf z (e)) hle
set_option maxRecDepth 100000 in
theorem wX12_nearest_b88 {E : PE} {p : Program} {l : Launch} {e : Env} {s : State} {m : MethodId} {args : Array Value} {below : List Frame} {meth : Method} {c : Code} (X : Cx E p l e (rmv 3 0 0) s m args below meth c RX12 cX12_nearest 8 (some .int)) (hG : Gs E l) (hnm : meth.name = yX12_nearest.name) {v0 : Nat} {v1 : Int32} {v2 : Int32} {v3 : Int32} {v4 : Int32} {v5 : Int32} {v6 : Int32} {v7 : Int32} {h : PH} {r : (Int32 × PH)} {x : ((Int32 × Int32 × Int32 × Int32) ⊕ (Int32 × PH))} (hf : fX12_nearest_b88 v0 v1 v2 v3 v4 v5 v6 v7 h = some x) (k0 : ∀ z : (Int32 × Int32 × Int32 × Int32), x = .inl z → PW E p l e (rmv 3 0 0) s m args below meth c 8 0 0 (MQ below (QG E (fun v u => v = some (.int r.1) ∧ u = r.2)) args s 0 0 (pA E)) h 25 [(0, some (.ref v0)), (1, some (.int v1)), (2, some (.int (z.1))), (3, some (.int (z.2.1))), (4, some (.int (z.2.2.1))), (5, some (.int (z.2.2.2)))] []) (kf : ∀ z : (Int32 × PH), x = .inr z → z = r) : PW E p l e (rmv 3 0 0) s m args below meth c 8 0 0 (MQ below (QG E (fun v u => v = some (.int r.1) ∧ u = r.2)) args s 0 0 (pA E)) h 88 [(0, some (.ref v0)), (1, some (.int v1)), (2, some (.int v2)), (3, some (.int v3)), (4, some (.int v4)), (5, some (.int v5)), (6, some (.int v6)), (7, some (.int v7))] [] := by
  unfold fX12_nearest_b88 at hf
  refine p_iload_n X (dcg dc_X12_nearest 50 rfl) rfl rfl ?_
  refine p_iconst (v := -1) X (dcg dc_X12_nearest 51 rfl) (by decide) ?_
  refine p_icmp_eq (tgt := 108) X (dcg dc_X12_nearest 52 rfl) (by decide) (fun q => ?_) (fun q => ?_)
  · have hf := if_t q hf
    refine p_pick [0, 1, 5, 6, 7] ?_
    exact wX12_nearest_b108 X hG hnm hf k0 kf
  · have hf := if_f q hf
    refine p_iload X (dcg dc_X12_nearest 53 rfl) rfl ?_
    refine p_iload X (dcg dc_X12_nearest 54 rfl) rfl ?_
    refine p_imul X (dcg dc_X12_nearest 55 rfl) ?_
    refine p_iload_n X (dcg dc_X12_nearest 56 rfl) rfl rfl ?_
    refine p_iload X (dcg dc_X12_nearest 57 rfl) rfl ?_
    refine p_imul X (dcg dc_X12_nearest 58 rfl) ?_
    refine p_icmp_gt (tgt := 108) X (dcg dc_X12_nearest 59 rfl) (by decide) (fun q => ?_) (fun q => ?_)
    · have hf := if_t q hf
      refine p_pick [0, 1, 5, 6, 7] ?_
      exact wX12_nearest_b108 X hG hnm hf k0 kf
    · have hf := if_f q hf
      refine p_goto (tgt := 118) X (dcg dc_X12_nearest 60 rfl) (by decide) ?_
      refine p_pick [0, 1, 2, 3, 4, 5] ?_
      exact wX12_nearest_b118 X hG hnm hf k0 kf
noncomputable def fX12_nearest_c25 (v0 : Nat) (v1 : Int32) (v2 : Int32) (v3 : Int32) (v4 : Int32) (v5 : Int32) (h : PH) : Option ((Int32 × Int32 × Int32 × Int32) ⊕ (Int32 × PH)) :=
  if ((100 : Int32) ≤ v5) then (mr (some ((v2, h)))) else
  gd (hK h v0 = 12) (gs (hR h 12 v0 4) (fun a7 =>
  gd (hK h a7 = 21 ∧ inb v5 (hN h a7)) (if ((hI h 21 a7 (Int32.toNatClampNeg v5)) = 0) then (fX12_nearest_b118 v0 v1 v2 v3 v4 v5 h) else
  if (¬ v5 = v1) then (bd (fX12_shared v0 v1 v5 h) (fun z11 =>
  bd (fX12_shared v0 v1 v1 h) (fun z12 =>
  bd (fX12_shared v0 v5 v5 h) (fun z13 =>
  if (¬ ((z12 + z13) - z11) = 0) then (fX12_nearest_b88 v0 v1 v2 v3 v4 v5 z11 ((z12 + z13) - z11) h) else
  fX12_nearest_b88 v0 v1 v2 v3 v4 v5 z11 (1 : Int32) h)))) else
  fX12_nearest_b118 v0 v1 v2 v3 v4 v5 h)))
set_option maxRecDepth 100000 in
theorem mX12_nearest_c25 {v0 : Nat} {v1 : Int32} {v2 : Int32} {v3 : Int32} {v4 : Int32} {v5 : Int32} {h : PH} {x : ((Int32 × Int32 × Int32 × Int32) ⊕ (Int32 × PH))} (hf : fX12_nearest_c25 v0 v1 v2 v3 v4 v5 h = some x) : (∀ w9 : (Int32 × PH), x = .inr w9 → eqz h (hX w9.2) (hV w9.2)) := by
  unfold fX12_nearest_c25 at hf
  have hle := eqz_rf h
  rcases ite_or hf with ⟨q, hf⟩ | ⟨q, hf⟩
  · have hf := if_t q hf
    obtain ⟨y4, hfm, rfl⟩ := mr_some hf; have hf := hfm; clear hfm
    have ee := Option.some.inj hf; subst ee
    exact (fun z e => by have ee := Sum.inr.inj (e); subst ee; exact hle)
  · have hf := if_f q hf
    obtain ⟨hk6, hf⟩ := gd_some hf
    obtain ⟨a7, e8, hf⟩ := gs_some hf
    obtain ⟨⟨hk10, hb9⟩, hf⟩ := gd_some hf
    rcases ite_or hf with ⟨q, hf⟩ | ⟨q, hf⟩
    · have hf := if_t q hf
      obtain cf := mX12_nearest_b118 hf
      exact fun z e => eqz_rt (cf z (e)) hle
    · have hf := if_f q hf
      rcases ite_or hf with ⟨q, hf⟩ | ⟨q, hf⟩
      · have hf := if_t q hf
        obtain ⟨z11, hz11, hf⟩ := bd_some hf
        obtain ⟨z12, hz12, hf⟩ := bd_some hf
        obtain ⟨z13, hz13, hf⟩ := bd_some hf
        rcases ite_or hf with ⟨q, hf⟩ | ⟨q, hf⟩
        · have hf := if_t q hf
          obtain cf := mX12_nearest_b88 hf
          exact fun z e => eqz_rt (cf z (e)) hle
        · have hf := if_f q hf
          obtain cf := mX12_nearest_b88 hf
          exact fun z e => eqz_rt (cf z (e)) hle
      · have hf := if_f q hf
        obtain cf := mX12_nearest_b118 hf
        exact fun z e => eqz_rt (cf z (e)) hle
set_option maxRecDepth 100000 in
theorem wX12_nearest_c25 {E : PE} {p : Program} {l : Launch} {e : Env} {s : State} {m : MethodId} {args : Array Value} {below : List Frame} {meth : Method} {c : Code} (X : Cx E p l e (rmv 3 0 0) s m args below meth c RX12 cX12_nearest 8 (some .int)) (hG : Gs E l) (hnm : meth.name = yX12_nearest.name) {v0 : Nat} {v1 : Int32} {v2 : Int32} {v3 : Int32} {v4 : Int32} {v5 : Int32} {h : PH} {r : (Int32 × PH)} {x : ((Int32 × Int32 × Int32 × Int32) ⊕ (Int32 × PH))} (hf : fX12_nearest_c25 v0 v1 v2 v3 v4 v5 h = some x) (k0 : ∀ z : (Int32 × Int32 × Int32 × Int32), x = .inl z → PW E p l e (rmv 3 0 0) s m args below meth c 8 0 0 (MQ below (QG E (fun v u => v = some (.int r.1) ∧ u = r.2)) args s 0 0 (pA E)) h 25 [(0, some (.ref v0)), (1, some (.int v1)), (2, some (.int (z.1))), (3, some (.int (z.2.1))), (4, some (.int (z.2.2.1))), (5, some (.int (z.2.2.2)))] []) (kf : ∀ z : (Int32 × PH), x = .inr z → z = r) : PW E p l e (rmv 3 0 0) s m args below meth c 8 0 0 (MQ below (QG E (fun v u => v = some (.int r.1) ∧ u = r.2)) args s 0 0 (pA E)) h 25 [(0, some (.ref v0)), (1, some (.int v1)), (2, some (.int v2)), (3, some (.int v3)), (4, some (.int v4)), (5, some (.int v5))] [] := by
  unfold fX12_nearest_c25 at hf
  refine p_iload X (dcg dc_X12_nearest 17 rfl) rfl ?_
  refine p_bipush (v := 100) X (dcg dc_X12_nearest 18 rfl) (by decide) ?_
  refine p_icmp_ge (tgt := 124) X (dcg dc_X12_nearest 19 rfl) (by decide) (fun q => ?_) (fun q => ?_)
  · have hf := if_t q hf
    obtain ⟨y4, hf, hy5⟩ := mr_some hf
    have hy5f := kf y4 hy5
    subst hy5f
    refine p_iload_n X (dcg dc_X12_nearest 69 rfl) rfl rfl ?_
    have er := Option.some.inj hf
    subst er
    exact p_iret X rfl (dcg dc_X12_nearest 70 rfl) ⟨rfl, rfl⟩ (Nat.le_refl _) (Nat.le_refl _)
  · have hf := if_f q hf
    refine p_aload_n X (dcg dc_X12_nearest 20 rfl) rfl rfl ?_
    obtain ⟨hk6, hf⟩ := gd_some hf
    refine p_getR X fl_X12_20 rfl (by decide) (dcg dc_X12_nearest 21 rfl) hk6 ?_
    refine p_iload X (dcg dc_X12_nearest 22 rfl) rfl ?_
    obtain ⟨a7, e8, hf⟩ := gs_some hf
    first | subst e8 | (try rw [e8])
    obtain ⟨⟨hk10, hb9⟩, hf⟩ := gd_some hf
    refine p_zald X (dcg dc_X12_nearest 23 rfl) hk10 (vp_of_inb hb9) ?_
    refine p_if_eq (tgt := 118) X (dcg dc_X12_nearest 24 rfl) (by decide) (fun q => ?_) (fun q => ?_)
    · have hf := if_t q hf
      refine p_pick [0, 1, 2, 3, 4, 5] ?_
      exact wX12_nearest_b118 X hG hnm hf k0 kf
    · have hf := if_f q hf
      refine p_iload X (dcg dc_X12_nearest 25 rfl) rfl ?_
      refine p_iload_n X (dcg dc_X12_nearest 26 rfl) rfl rfl ?_
      refine p_icmp_ne (tgt := 51) X (dcg dc_X12_nearest 27 rfl) (by decide) (fun q => ?_) (fun q => ?_)
      · have hf := if_t q hf
        refine p_aload_n X (dcg dc_X12_nearest 29 rfl) rfl rfl ?_
        refine p_iload_n X (dcg dc_X12_nearest 30 rfl) rfl rfl ?_
        refine p_iload X (dcg dc_X12_nearest 31 rfl) rfl ?_
        obtain ⟨z11, hz11, hf⟩ := bd_some hf
        refine p_callV (As := [_, _]) X ml_X12_418 (dcg dc_X12_nearest 32 rfl) rfl rfl hk6 (wX12_shared hG hz11) (by decide) (room4 (Nat.le_of_ble_eq_true rfl)) (Nat.le_refl _) (Nat.le_refl _) ?_
        rintro _ u9 ⟨rfl, e9⟩; have e9 := e9.symm; subst e9
        refine p_istore X (dcg dc_X12_nearest 33 rfl) (by decide) rfl ?_
        refine p_aload_n X (dcg dc_X12_nearest 34 rfl) rfl rfl ?_
        refine p_iload_n X (dcg dc_X12_nearest 35 rfl) rfl rfl ?_
        refine p_iload_n X (dcg dc_X12_nearest 36 rfl) rfl rfl ?_
        obtain ⟨z12, hz12, hf⟩ := bd_some hf
        refine p_callV (As := [_, _]) X ml_X12_418 (dcg dc_X12_nearest 37 rfl) rfl rfl hk6 (wX12_shared hG hz12) (by decide) (room4 (Nat.le_of_ble_eq_true rfl)) (Nat.le_refl _) (Nat.le_refl _) ?_
        rintro _ u9 ⟨rfl, e9⟩; have e9 := e9.symm; subst e9
        refine p_aload_n X (dcg dc_X12_nearest 38 rfl) rfl rfl ?_
        refine p_iload X (dcg dc_X12_nearest 39 rfl) rfl ?_
        refine p_iload X (dcg dc_X12_nearest 40 rfl) rfl ?_
        obtain ⟨z13, hz13, hf⟩ := bd_some hf
        refine p_callV (As := [_, _]) X ml_X12_418 (dcg dc_X12_nearest 41 rfl) rfl rfl hk6 (wX12_shared hG hz13) (by decide) (room4 (Nat.le_of_ble_eq_true rfl)) (Nat.le_refl _) (Nat.le_refl _) ?_
        rintro _ u9 ⟨rfl, e9⟩; have e9 := e9.symm; subst e9
        refine p_iadd X (dcg dc_X12_nearest 42 rfl) ?_
        refine p_iload X (dcg dc_X12_nearest 43 rfl) rfl ?_
        refine p_isub X (dcg dc_X12_nearest 44 rfl) ?_
        refine p_istore X (dcg dc_X12_nearest 45 rfl) (by decide) rfl ?_
        refine p_iload X (dcg dc_X12_nearest 46 rfl) rfl ?_
        refine p_if_ne (tgt := 88) X (dcg dc_X12_nearest 47 rfl) (by decide) (fun q => ?_) (fun q => ?_)
        · have hf := if_t q hf
          refine p_pick [0, 1, 2, 3, 4, 5, 6, 7] ?_
          exact wX12_nearest_b88 X hG hnm hf k0 kf
        · have hf := if_f q hf
          refine p_iconst (v := 1) X (dcg dc_X12_nearest 48 rfl) (by decide) ?_
          refine p_istore X (dcg dc_X12_nearest 49 rfl) (by decide) rfl ?_
          refine p_pick [0, 1, 2, 3, 4, 5, 6, 7] ?_
          exact wX12_nearest_b88 X hG hnm hf k0 kf
      · have hf := if_f q hf
        refine p_goto (tgt := 118) X (dcg dc_X12_nearest 28 rfl) (by decide) ?_
        refine p_pick [0, 1, 2, 3, 4, 5] ?_
        exact wX12_nearest_b118 X hG hnm hf k0 kf
noncomputable def fX12_nearest_l25 (v0 : Nat) (v1 : Int32) (v2 : Int32) (v3 : Int32) (v4 : Int32) (v5 : Int32) (h : PH) : Option (Int32 × PH) := wh (fun z : (Int32 × Int32 × Int32 × Int32) => fX12_nearest_c25 v0 v1 (z.1) (z.2.1) (z.2.2.1) (z.2.2.2) h) (v2, v3, v4, v5)
set_option maxRecDepth 100000 in
theorem mX12_nearest_l25 {v0 : Nat} {v1 : Int32} {v2 : Int32} {v3 : Int32} {v4 : Int32} {v5 : Int32} {h : PH} {r : (Int32 × PH)} (hf : fX12_nearest_l25 v0 v1 v2 v3 v4 v5 h = some r) : eqz h (hX r.2) (hV r.2) := by
  unfold fX12_nearest_l25 at hf
  refine wh_ind (P := fun z => eqz h (hX r.2) (hV r.2)) (fun z x0 hs i1 i2 => ?_) _ hf
  obtain cf := mX12_nearest_c25 (v0 := v0) (v1 := v1) (v2 := z.1) (v3 := z.2.1) (v4 := z.2.2.1) (v5 := z.2.2.2) (h := h) hs
  rcases hxx : x0 with zz | zz
  · exact (i1 zz hxx)
  · have ee := i2 zz hxx; subst ee; exact cf zz hxx
set_option maxRecDepth 100000 in
theorem wX12_nearest_l25 {E : PE} {p : Program} {l : Launch} {e : Env} {s : State} {m : MethodId} {args : Array Value} {below : List Frame} {meth : Method} {c : Code} (X : Cx E p l e (rmv 3 0 0) s m args below meth c RX12 cX12_nearest 8 (some .int)) (hG : Gs E l) (hnm : meth.name = yX12_nearest.name) {v0 : Nat} {v1 : Int32} {v2 : Int32} {v3 : Int32} {v4 : Int32} {v5 : Int32} {h : PH} {r : (Int32 × PH)} (hf : fX12_nearest_l25 v0 v1 v2 v3 v4 v5 h = some r)  : PW E p l e (rmv 3 0 0) s m args below meth c 8 0 0 (MQ below (QG E (fun v u => v = some (.int r.1) ∧ u = r.2)) args s 0 0 (pA E)) h 25 [(0, some (.ref v0)), (1, some (.int v1)), (2, some (.int v2)), (3, some (.int v3)), (4, some (.int v4)), (5, some (.int v5))] [] := by
  unfold fX12_nearest_l25 at hf
  refine wh_ind (P := fun z => PW E p l e (rmv 3 0 0) s m args below meth c 8 0 0 (MQ below (QG E (fun v u => v = some (.int r.1) ∧ u = r.2)) args s 0 0 (pA E)) h 25 [(0, some (.ref v0)), (1, some (.int v1)), (2, some (.int (z.1))), (3, some (.int (z.2.1))), (4, some (.int (z.2.2.1))), (5, some (.int (z.2.2.2)))] []) (fun z x0 hs i1 i2 => ?_) _ hf
  exact wX12_nearest_c25 (r := r) (v0 := v0) (v1 := v1) (v2 := z.1) (v3 := z.2.1) (v4 := z.2.2.1) (v5 := z.2.2.2) (h := h) X hG hnm hs i1  i2
noncomputable def fX12_nearest (v0 : Nat) (v1 : Int32) (h : PH) : Option (Int32 × PH) :=
  gd (hK h v0 = 12) (lt (sI h 12 v0 0 (0 : Int32)) (fun h2 =>
  bd (fX12_noText v0 v1 h2) (fun z3 =>
  if (z3.1 = 0) then (fX12_nearest_l25 v0 v1 (-1 : Int32) (0 : Int32) (1 : Int32) (0 : Int32) z3.2) else
  some (((0 : Int32), z3.2)))))
set_option maxRecDepth 100000 in
theorem mX12_nearest {v0 : Nat} {v1 : Int32} {h : PH} {r : (Int32 × PH)} (hf : fX12_nearest v0 v1 h = some r) : eqz h (hX r.2) (hV r.2) := by
  unfold fX12_nearest at hf
  have hle := eqz_rf h
  obtain ⟨hk1, hf⟩ := gd_some hf
  obtain ⟨h2, rfl, hf⟩ := lt_some hf
  obtain ⟨z3, hz3, hf⟩ := bd_some hf
  have hle := eqz_rt (mX12_noText hz3) hle
  rcases ite_or hf with ⟨q, hf⟩ | ⟨q, hf⟩
  · have hf := if_t q hf
    exact eqz_rt (mX12_nearest_l25 hf) hle
  · have hf := if_f q hf
    have ee := Option.some.inj hf; subst ee; exact hle
set_option maxRecDepth 100000 in
theorem wX12_nearest {E : PE} {l : Launch} (hG : Gs E l) {v0 : Nat} {v1 : Int32} {h : PH} {r : (Int32 × PH)} (hf : fX12_nearest v0 v1 h = some r) : Ct E l 3 0 0 yX12_nearest cX12_nearest 8 (some .int) [.ref v0, .int v1] h (fun v u => v = some (.int r.1) ∧ u = r.2) := by
  refine ct_of hG (by decide) (Nat.le_of_ble_eq_true rfl) ?_
  intro p e s m args below meth c X hnm
  show PW E p l e _ s m args below meth c _ 0 0 _ h 0 [(0, some (.ref v0)), (1, some (.int v1))] []
  unfold fX12_nearest at hf
  refine p_aload_n X (dcg dc_X12_nearest 0 rfl) rfl rfl ?_
  refine p_iconst (v := 0) X (dcg dc_X12_nearest 1 rfl) (by decide) ?_
  obtain ⟨hk1, hf⟩ := gd_some hf
  refine p_putI X fl_X12_1 rfl (by decide) (fun q hq => by cases hq; rfl) rfl rfl (dcg dc_X12_nearest 2 rfl) hk1 ?_
  obtain ⟨h2, rfl, hf⟩ := lt_some hf
  refine p_aload_n X (dcg dc_X12_nearest 3 rfl) rfl rfl ?_
  refine p_iload_n X (dcg dc_X12_nearest 4 rfl) rfl rfl ?_
  obtain ⟨z3, hz3, hf⟩ := bd_some hf
  refine p_callV (As := [_]) X ml_X12_212 (dcg dc_X12_nearest 5 rfl) rfl rfl hk1 (wX12_noText hG hz3) (by decide) (room4 (Nat.le_of_ble_eq_true rfl)) (Nat.le_refl _) (Nat.le_refl _) ?_
  rintro _ u9 ⟨rfl, e9⟩; have e9 := e9.symm; subst e9
  refine p_if_eq (tgt := 15) X (dcg dc_X12_nearest 6 rfl) (by decide) (fun q => ?_) (fun q => ?_)
  · have hf := if_t q hf
    refine p_iconst (v := -1) X (dcg dc_X12_nearest 9 rfl) (by decide) ?_
    refine p_istore_n X (dcg dc_X12_nearest 10 rfl) rfl (by decide) rfl ?_
    refine p_iconst (v := 0) X (dcg dc_X12_nearest 11 rfl) (by decide) ?_
    refine p_istore_n X (dcg dc_X12_nearest 12 rfl) rfl (by decide) rfl ?_
    refine p_iconst (v := 1) X (dcg dc_X12_nearest 13 rfl) (by decide) ?_
    refine p_istore X (dcg dc_X12_nearest 14 rfl) (by decide) rfl ?_
    refine p_iconst (v := 0) X (dcg dc_X12_nearest 15 rfl) (by decide) ?_
    refine p_istore X (dcg dc_X12_nearest 16 rfl) (by decide) rfl ?_
    refine p_pick [0, 1, 2, 3, 4, 5] ?_
    exact wX12_nearest_l25 X hG hnm hf 
  · have hf := if_f q hf
    refine p_iconst (v := 0) X (dcg dc_X12_nearest 7 rfl) (by decide) ?_
    have er := Option.some.inj hf
    subst er
    exact p_iret X rfl (dcg dc_X12_nearest 8 rfl) ⟨rfl, rfl⟩ (Nat.le_refl _) (Nat.le_refl _)
theorem dc_X12_meanLength : decs cX12_meanLength [(0, .aload_n 0, 1), (1, .iconst 0, 1), (2, .putfield 1, 3), (5, .iconst 0, 1), (6, .istore_n 1, 1), (7, .iconst 0, 1), (8, .istore_n 2, 1), (9, .iload_n 2, 1), (10, .bipush 100, 2), (12, .if_icmp .ge 31, 3), (15, .iload_n 1, 1), (16, .aload_n 0, 1), (17, .getfield 20, 3), (20, .iload_n 2, 1), (21, .baload, 1), (22, .ifCond .eq 12, 3), (25, .aload_n 0, 1), (26, .getfield 27, 3), (29, .iload_n 2, 1), (30, .iaload, 1), (31, .goto 4, 3), (34, .iconst 0, 1), (35, .iadd, 1), (36, .istore_n 1, 1), (37, .iinc 2 1, 3), (40, .goto (-31), 3), (43, .aload_n 0, 1), (44, .invokevirtual 218, 3), (47, .ifCond .ne 7, 3), (50, .dconst 0, 1), (51, .goto 11, 3), (54, .iload_n 1, 1), (55, .i2d, 1), (56, .aload_n 0, 1), (57, .invokevirtual 218, 3), (60, .i2d, 1), (61, .ddiv, 1), (62, .dreturn, 1)] = true := by decide +kernel
noncomputable def fX12_meanLength_b62 (t0 : UInt64) (h : PH) : Option (UInt64 × PH) :=
  some ((t0, h))
set_option maxRecDepth 100000 in
theorem mX12_meanLength_b62 {t0 : UInt64} {h : PH} {r : (UInt64 × PH)} (hf : fX12_meanLength_b62 t0 h = some r) : eqz h (hX r.2) (hV r.2) := by
  unfold fX12_meanLength_b62 at hf
  have hle := eqz_rf h
  have ee := Option.some.inj hf; subst ee; exact hle
set_option maxRecDepth 100000 in
theorem wX12_meanLength_b62 {E : PE} {p : Program} {l : Launch} {e : Env} {s : State} {m : MethodId} {args : Array Value} {below : List Frame} {meth : Method} {c : Code} (X : Cx E p l e (rmv 1 0 0) s m args below meth c RX12 cX12_meanLength 3 (some .double)) (hG : Gs E l) (hnm : meth.name = yX12_meanLength.name) {t0 : UInt64} {h : PH} {r : (UInt64 × PH)} (hf : fX12_meanLength_b62 t0 h = some r)  : PW E p l e (rmv 1 0 0) s m args below meth c 3 0 0 (MQ below (QG E (fun v u => v = some (.double r.1) ∧ u = r.2)) args s 0 0 (pA E)) h 62 [] [.double t0] := by
  unfold fX12_meanLength_b62 at hf
  have er := Option.some.inj hf
  subst er
  exact p_dret X rfl (dcg dc_X12_meanLength 37 rfl) ⟨rfl, rfl⟩ (Nat.le_refl _) (Nat.le_refl _)
noncomputable def fX12_meanLength_b35 (v0 : Nat) (v2 : Int32) (t0 : Int32) (t1 : Int32) (h : PH) : Option ((Int32 × Int32) ⊕ (UInt64 × PH)) :=
  some (.inl ((t0 + t1), (v2 + 1)))
set_option maxRecDepth 100000 in
theorem mX12_meanLength_b35 {v0 : Nat} {v2 : Int32} {t0 : Int32} {t1 : Int32} {h : PH} {x : ((Int32 × Int32) ⊕ (UInt64 × PH))} (hf : fX12_meanLength_b35 v0 v2 t0 t1 h = some x) : (∀ w9 : (UInt64 × PH), x = .inr w9 → eqz h (hX w9.2) (hV w9.2)) := by
  unfold fX12_meanLength_b35 at hf
  have hle := eqz_rf h
  have ee := Option.some.inj hf; subst ee
  exact (fun z e => nomatch e)
set_option maxRecDepth 100000 in
theorem wX12_meanLength_b35 {E : PE} {p : Program} {l : Launch} {e : Env} {s : State} {m : MethodId} {args : Array Value} {below : List Frame} {meth : Method} {c : Code} (X : Cx E p l e (rmv 1 0 0) s m args below meth c RX12 cX12_meanLength 3 (some .double)) (hG : Gs E l) (hnm : meth.name = yX12_meanLength.name) {v0 : Nat} {v2 : Int32} {t0 : Int32} {t1 : Int32} {h : PH} {r : (UInt64 × PH)} {x : ((Int32 × Int32) ⊕ (UInt64 × PH))} (hf : fX12_meanLength_b35 v0 v2 t0 t1 h = some x) (k0 : ∀ z : (Int32 × Int32), x = .inl z → PW E p l e (rmv 1 0 0) s m args below meth c 3 0 0 (MQ below (QG E (fun v u => v = some (.double r.1) ∧ u = r.2)) args s 0 0 (pA E)) h 9 [(0, some (.ref v0)), (1, some (.int (z.1))), (2, some (.int (z.2)))] []) (kf : ∀ z : (UInt64 × PH), x = .inr z → z = r) : PW E p l e (rmv 1 0 0) s m args below meth c 3 0 0 (MQ below (QG E (fun v u => v = some (.double r.1) ∧ u = r.2)) args s 0 0 (pA E)) h 35 [(0, some (.ref v0)), (2, some (.int v2))] [.int t1, .int t0] := by
  unfold fX12_meanLength_b35 at hf
  refine p_iadd X (dcg dc_X12_meanLength 22 rfl) ?_
  refine p_istore_n X (dcg dc_X12_meanLength 23 rfl) rfl (by decide) rfl ?_
  refine p_iinc (v := 1) X (dcg dc_X12_meanLength 24 rfl) rfl (by decide) (by decide) rfl ?_
  refine p_goto (tgt := 9) X (dcg dc_X12_meanLength 25 rfl) (by decide) ?_
  refine p_pick [0, 1, 2] ?_
  exact k0 _ (Option.some.inj hf).symm
noncomputable def fX12_meanLength_c9 (v0 : Nat) (v1 : Int32) (v2 : Int32) (h : PH) : Option ((Int32 × Int32) ⊕ (UInt64 × PH)) :=
  if ((100 : Int32) ≤ v2) then (mr (gd (hK h v0 = 12) (bd (fX12_countTexts v0 h) (fun z6 =>
  if (¬ z6 = 0) then (bd (fX12_countTexts v0 h) (fun z7 =>
  gd (n64 (FP.ddiv ((FP.i2d v1)) ((FP.i2d z7)))) (fX12_meanLength_b62 (FP.ddiv ((FP.i2d v1)) ((FP.i2d z7))) h))) else
  fX12_meanLength_b62 (dcn 0) h)))) else
  gd (hK h v0 = 12) (gs (hR h 12 v0 4) (fun a10 =>
  gd (hK h a10 = 21 ∧ inb v2 (hN h a10)) (if ((hI h 21 a10 (Int32.toNatClampNeg v2)) = 0) then (fX12_meanLength_b35 v0 v2 v1 (0 : Int32) h) else
  gs (hR h 12 v0 6) (fun a14 =>
  gd (hK h a14 = 20 ∧ inb v2 (hN h a14)) (fX12_meanLength_b35 v0 v2 v1 (hI h 20 a14 (Int32.toNatClampNeg v2)) h)))))
set_option maxRecDepth 100000 in
theorem mX12_meanLength_c9 {v0 : Nat} {v1 : Int32} {v2 : Int32} {h : PH} {x : ((Int32 × Int32) ⊕ (UInt64 × PH))} (hf : fX12_meanLength_c9 v0 v1 v2 h = some x) : (∀ w9 : (UInt64 × PH), x = .inr w9 → eqz h (hX w9.2) (hV w9.2)) := by
  unfold fX12_meanLength_c9 at hf
  have hle := eqz_rf h
  rcases ite_or hf with ⟨q, hf⟩ | ⟨q, hf⟩
  · have hf := if_t q hf
    obtain ⟨y3, hfm, rfl⟩ := mr_some hf; have hf := hfm; clear hfm
    obtain ⟨hk5, hf⟩ := gd_some hf
    obtain ⟨z6, hz6, hf⟩ := bd_some hf
    rcases ite_or hf with ⟨q, hf⟩ | ⟨q, hf⟩
    · have hf := if_t q hf
      obtain ⟨z7, hz7, hf⟩ := bd_some hf
      obtain ⟨hg8, hf⟩ := gd_some hf
      have cf := mX12_meanLength_b62 hf
      exact (fun z e => by cases e <;> exact eqz_rt cf hle)
    · have hf := if_f q hf
      have cf := mX12_meanLength_b62 hf
      exact (fun z e => by cases e <;> exact eqz_rt cf hle)
  · have hf := if_f q hf
    obtain ⟨hk9, hf⟩ := gd_some hf
    obtain ⟨a10, e11, hf⟩ := gs_some hf
    obtain ⟨⟨hk13, hb12⟩, hf⟩ := gd_some hf
    rcases ite_or hf with ⟨q, hf⟩ | ⟨q, hf⟩
    · have hf := if_t q hf
      obtain cf := mX12_meanLength_b35 hf
      exact fun z e => eqz_rt (cf z (e)) hle
    · have hf := if_f q hf
      obtain ⟨a14, e15, hf⟩ := gs_some hf
      obtain ⟨⟨hk17, hb16⟩, hf⟩ := gd_some hf
      obtain cf := mX12_meanLength_b35 hf
      exact fun z e => eqz_rt (cf z (e)) hle
set_option maxRecDepth 100000 in
theorem wX12_meanLength_c9 {E : PE} {p : Program} {l : Launch} {e : Env} {s : State} {m : MethodId} {args : Array Value} {below : List Frame} {meth : Method} {c : Code} (X : Cx E p l e (rmv 1 0 0) s m args below meth c RX12 cX12_meanLength 3 (some .double)) (hG : Gs E l) (hnm : meth.name = yX12_meanLength.name) {v0 : Nat} {v1 : Int32} {v2 : Int32} {h : PH} {r : (UInt64 × PH)} {x : ((Int32 × Int32) ⊕ (UInt64 × PH))} (hf : fX12_meanLength_c9 v0 v1 v2 h = some x) (k0 : ∀ z : (Int32 × Int32), x = .inl z → PW E p l e (rmv 1 0 0) s m args below meth c 3 0 0 (MQ below (QG E (fun v u => v = some (.double r.1) ∧ u = r.2)) args s 0 0 (pA E)) h 9 [(0, some (.ref v0)), (1, some (.int (z.1))), (2, some (.int (z.2)))] []) (kf : ∀ z : (UInt64 × PH), x = .inr z → z = r) : PW E p l e (rmv 1 0 0) s m args below meth c 3 0 0 (MQ below (QG E (fun v u => v = some (.double r.1) ∧ u = r.2)) args s 0 0 (pA E)) h 9 [(0, some (.ref v0)), (1, some (.int v1)), (2, some (.int v2))] [] := by
  unfold fX12_meanLength_c9 at hf
  refine p_iload_n X (dcg dc_X12_meanLength 7 rfl) rfl rfl ?_
  refine p_bipush (v := 100) X (dcg dc_X12_meanLength 8 rfl) (by decide) ?_
  refine p_icmp_ge (tgt := 43) X (dcg dc_X12_meanLength 9 rfl) (by decide) (fun q => ?_) (fun q => ?_)
  · have hf := if_t q hf
    obtain ⟨y3, hf, hy4⟩ := mr_some hf
    have hy4f := kf y3 hy4
    subst hy4f
    refine p_aload_n X (dcg dc_X12_meanLength 26 rfl) rfl rfl ?_
    obtain ⟨hk5, hf⟩ := gd_some hf
    obtain ⟨z6, hz6, hf⟩ := bd_some hf
    refine p_callV (As := []) X ml_X12_218 (dcg dc_X12_meanLength 27 rfl) rfl rfl hk5 (wX12_countTexts hG hz6) (by decide) (room4 (Nat.le_of_ble_eq_true rfl)) (Nat.le_refl _) (Nat.le_refl _) ?_
    rintro _ u9 ⟨rfl, e9⟩; have e9 := e9.symm; subst e9
    refine p_if_ne (tgt := 54) X (dcg dc_X12_meanLength 28 rfl) (by decide) (fun q => ?_) (fun q => ?_)
    · have hf := if_t q hf
      refine p_iload_n X (dcg dc_X12_meanLength 31 rfl) rfl rfl ?_
      refine p_i2d X (dcg dc_X12_meanLength 32 rfl) ?_
      refine p_aload_n X (dcg dc_X12_meanLength 33 rfl) rfl rfl ?_
      obtain ⟨z7, hz7, hf⟩ := bd_some hf
      refine p_callV (As := []) X ml_X12_218 (dcg dc_X12_meanLength 34 rfl) rfl rfl hk5 (wX12_countTexts hG hz7) (by decide) (room4 (Nat.le_of_ble_eq_true rfl)) (Nat.le_refl _) (Nat.le_refl _) ?_
      rintro _ u9 ⟨rfl, e9⟩; have e9 := e9.symm; subst e9
      refine p_i2d X (dcg dc_X12_meanLength 35 rfl) ?_
      obtain ⟨hg8, hf⟩ := gd_some hf
      refine p_ddiv X (dcg dc_X12_meanLength 36 rfl) hg8 ?_
      refine p_pick [] ?_
      exact wX12_meanLength_b62 X hG hnm hf 
    · have hf := if_f q hf
      refine p_dconst X (dcg dc_X12_meanLength 29 rfl) ?_
      refine p_goto (tgt := 62) X (dcg dc_X12_meanLength 30 rfl) (by decide) ?_
      refine p_pick [] ?_
      exact wX12_meanLength_b62 X hG hnm hf 
  · have hf := if_f q hf
    refine p_iload_n X (dcg dc_X12_meanLength 10 rfl) rfl rfl ?_
    refine p_aload_n X (dcg dc_X12_meanLength 11 rfl) rfl rfl ?_
    obtain ⟨hk9, hf⟩ := gd_some hf
    refine p_getR X fl_X12_20 rfl (by decide) (dcg dc_X12_meanLength 12 rfl) hk9 ?_
    refine p_iload_n X (dcg dc_X12_meanLength 13 rfl) rfl rfl ?_
    obtain ⟨a10, e11, hf⟩ := gs_some hf
    first | subst e11 | (try rw [e11])
    obtain ⟨⟨hk13, hb12⟩, hf⟩ := gd_some hf
    refine p_zald X (dcg dc_X12_meanLength 14 rfl) hk13 (vp_of_inb hb12) ?_
    refine p_if_eq (tgt := 34) X (dcg dc_X12_meanLength 15 rfl) (by decide) (fun q => ?_) (fun q => ?_)
    · have hf := if_t q hf
      refine p_iconst (v := 0) X (dcg dc_X12_meanLength 21 rfl) (by decide) ?_
      refine p_pick [0, 2] ?_
      exact wX12_meanLength_b35 X hG hnm hf k0 kf
    · have hf := if_f q hf
      refine p_aload_n X (dcg dc_X12_meanLength 16 rfl) rfl rfl ?_
      refine p_getR X fl_X12_27 rfl (by decide) (dcg dc_X12_meanLength 17 rfl) hk9 ?_
      refine p_iload_n X (dcg dc_X12_meanLength 18 rfl) rfl rfl ?_
      obtain ⟨a14, e15, hf⟩ := gs_some hf
      first | subst e15 | (try rw [e15])
      obtain ⟨⟨hk17, hb16⟩, hf⟩ := gd_some hf
      refine p_iald X (dcg dc_X12_meanLength 19 rfl) hk17 (vp_of_inb hb16) ?_
      refine p_goto (tgt := 35) X (dcg dc_X12_meanLength 20 rfl) (by decide) ?_
      refine p_pick [0, 2] ?_
      exact wX12_meanLength_b35 X hG hnm hf k0 kf
noncomputable def fX12_meanLength_l9 (v0 : Nat) (v1 : Int32) (v2 : Int32) (h : PH) : Option (UInt64 × PH) := wh (fun z : (Int32 × Int32) => fX12_meanLength_c9 v0 (z.1) (z.2) h) (v1, v2)
set_option maxRecDepth 100000 in
theorem mX12_meanLength_l9 {v0 : Nat} {v1 : Int32} {v2 : Int32} {h : PH} {r : (UInt64 × PH)} (hf : fX12_meanLength_l9 v0 v1 v2 h = some r) : eqz h (hX r.2) (hV r.2) := by
  unfold fX12_meanLength_l9 at hf
  refine wh_ind (P := fun z => eqz h (hX r.2) (hV r.2)) (fun z x0 hs i1 i2 => ?_) _ hf
  obtain cf := mX12_meanLength_c9 (v0 := v0) (v1 := z.1) (v2 := z.2) (h := h) hs
  rcases hxx : x0 with zz | zz
  · exact (i1 zz hxx)
  · have ee := i2 zz hxx; subst ee; exact cf zz hxx
set_option maxRecDepth 100000 in
theorem wX12_meanLength_l9 {E : PE} {p : Program} {l : Launch} {e : Env} {s : State} {m : MethodId} {args : Array Value} {below : List Frame} {meth : Method} {c : Code} (X : Cx E p l e (rmv 1 0 0) s m args below meth c RX12 cX12_meanLength 3 (some .double)) (hG : Gs E l) (hnm : meth.name = yX12_meanLength.name) {v0 : Nat} {v1 : Int32} {v2 : Int32} {h : PH} {r : (UInt64 × PH)} (hf : fX12_meanLength_l9 v0 v1 v2 h = some r)  : PW E p l e (rmv 1 0 0) s m args below meth c 3 0 0 (MQ below (QG E (fun v u => v = some (.double r.1) ∧ u = r.2)) args s 0 0 (pA E)) h 9 [(0, some (.ref v0)), (1, some (.int v1)), (2, some (.int v2))] [] := by
  unfold fX12_meanLength_l9 at hf
  refine wh_ind (P := fun z => PW E p l e (rmv 1 0 0) s m args below meth c 3 0 0 (MQ below (QG E (fun v u => v = some (.double r.1) ∧ u = r.2)) args s 0 0 (pA E)) h 9 [(0, some (.ref v0)), (1, some (.int (z.1))), (2, some (.int (z.2)))] []) (fun z x0 hs i1 i2 => ?_) _ hf
  exact wX12_meanLength_c9 (r := r) (v0 := v0) (v1 := z.1) (v2 := z.2) (h := h) X hG hnm hs i1  i2
noncomputable def fX12_meanLength (v0 : Nat) (h : PH) : Option (UInt64 × PH) :=
  gd (hK h v0 = 12) (lt (sI h 12 v0 0 (0 : Int32)) (fun h2 =>
  fX12_meanLength_l9 v0 (0 : Int32) (0 : Int32) h2))
set_option maxRecDepth 100000 in
theorem mX12_meanLength {v0 : Nat} {h : PH} {r : (UInt64 × PH)} (hf : fX12_meanLength v0 h = some r) : eqz h (hX r.2) (hV r.2) := by
  unfold fX12_meanLength at hf
  have hle := eqz_rf h
  obtain ⟨hk1, hf⟩ := gd_some hf
  obtain ⟨h2, rfl, hf⟩ := lt_some hf
  exact eqz_rt (mX12_meanLength_l9 hf) hle
set_option maxRecDepth 100000 in
theorem wX12_meanLength {E : PE} {l : Launch} (hG : Gs E l) {v0 : Nat} {h : PH} {r : (UInt64 × PH)} (hf : fX12_meanLength v0 h = some r) : Ct E l 1 0 0 yX12_meanLength cX12_meanLength 3 (some .double) [.ref v0] h (fun v u => v = some (.double r.1) ∧ u = r.2) := by
  refine ct_of hG (by decide) (Nat.le_of_ble_eq_true rfl) ?_
  intro p e s m args below meth c X hnm
  show PW E p l e _ s m args below meth c _ 0 0 _ h 0 [(0, some (.ref v0))] []
  unfold fX12_meanLength at hf
  refine p_aload_n X (dcg dc_X12_meanLength 0 rfl) rfl rfl ?_
  refine p_iconst (v := 0) X (dcg dc_X12_meanLength 1 rfl) (by decide) ?_
  obtain ⟨hk1, hf⟩ := gd_some hf
  refine p_putI X fl_X12_1 rfl (by decide) (fun q hq => by cases hq; rfl) rfl rfl (dcg dc_X12_meanLength 2 rfl) hk1 ?_
  obtain ⟨h2, rfl, hf⟩ := lt_some hf
  refine p_iconst (v := 0) X (dcg dc_X12_meanLength 3 rfl) (by decide) ?_
  refine p_istore_n X (dcg dc_X12_meanLength 4 rfl) rfl (by decide) rfl ?_
  refine p_iconst (v := 0) X (dcg dc_X12_meanLength 5 rfl) (by decide) ?_
  refine p_istore_n X (dcg dc_X12_meanLength 6 rfl) rfl (by decide) rfl ?_
  refine p_pick [0, 1, 2] ?_
  exact wX12_meanLength_l9 X hG hnm hf 
theorem dc_X12_share : decs cX12_share [(0, .aload_n 0, 1), (1, .iconst 0, 1), (2, .putfield 1, 3), (5, .aload_n 0, 1), (6, .iload_n 1, 1), (7, .invokevirtual 240, 3), (10, .ifCond .eq 5, 3), (13, .fconst 0, 1), (14, .freturn, 1), (15, .aload_n 0, 1), (16, .invokevirtual 218, 3), (19, .ifCond .ne 7, 3), (22, .fconst 0, 1), (23, .goto 15, 3), (26, .aload_n 0, 1), (27, .iload_n 1, 1), (28, .invokevirtual 246, 3), (31, .i2f, 1), (32, .aload_n 0, 1), (33, .invokevirtual 218, 3), (36, .i2f, 1), (37, .fdiv, 1), (38, .freturn, 1)] = true := by decide +kernel
noncomputable def fX12_share_b38 (t0 : UInt32) (h : PH) : Option (UInt32 × PH) :=
  some ((t0, h))
set_option maxRecDepth 100000 in
theorem mX12_share_b38 {t0 : UInt32} {h : PH} {r : (UInt32 × PH)} (hf : fX12_share_b38 t0 h = some r) : eqz h (hX r.2) (hV r.2) := by
  unfold fX12_share_b38 at hf
  have hle := eqz_rf h
  have ee := Option.some.inj hf; subst ee; exact hle
set_option maxRecDepth 100000 in
theorem wX12_share_b38 {E : PE} {p : Program} {l : Launch} {e : Env} {s : State} {m : MethodId} {args : Array Value} {below : List Frame} {meth : Method} {c : Code} (X : Cx E p l e (rmv 3 0 0) s m args below meth c RX12 cX12_share 2 (some .float)) (hG : Gs E l) (hnm : meth.name = yX12_share.name) {t0 : UInt32} {h : PH} {r : (UInt32 × PH)} (hf : fX12_share_b38 t0 h = some r)  : PW E p l e (rmv 3 0 0) s m args below meth c 2 0 0 (MQ below (QG E (fun v u => v = some (.float r.1) ∧ u = r.2)) args s 0 0 (pA E)) h 38 [] [.float t0] := by
  unfold fX12_share_b38 at hf
  have er := Option.some.inj hf
  subst er
  exact p_fret X rfl (dcg dc_X12_share 22 rfl) ⟨rfl, rfl⟩ (Nat.le_refl _) (Nat.le_refl _)
noncomputable def fX12_share (v0 : Nat) (v1 : Int32) (h : PH) : Option (UInt32 × PH) :=
  gd (hK h v0 = 12) (lt (sI h 12 v0 0 (0 : Int32)) (fun h2 =>
  bd (fX12_noWord v0 v1 h2) (fun z3 =>
  if (z3.1 = 0) then (gd (hK z3.2 v0 = 12) (bd (fX12_countTexts v0 z3.2) (fun z5 =>
  if (¬ z5 = 0) then (bd (fX12_manyWith v0 v1 z3.2) (fun z6 =>
  bd (fX12_countTexts v0 z3.2) (fun z7 =>
  gd (n32 (FP.fdiv ((FP.i2f z6)) ((FP.i2f z7)))) (fX12_share_b38 (FP.fdiv ((FP.i2f z6)) ((FP.i2f z7))) z3.2)))) else
  fX12_share_b38 (fcn 0) z3.2))) else
  some (((fcn 0), z3.2)))))
set_option maxRecDepth 100000 in
theorem mX12_share {v0 : Nat} {v1 : Int32} {h : PH} {r : (UInt32 × PH)} (hf : fX12_share v0 v1 h = some r) : eqz h (hX r.2) (hV r.2) := by
  unfold fX12_share at hf
  have hle := eqz_rf h
  obtain ⟨hk1, hf⟩ := gd_some hf
  obtain ⟨h2, rfl, hf⟩ := lt_some hf
  obtain ⟨z3, hz3, hf⟩ := bd_some hf
  have hle := eqz_rt (mX12_noWord hz3) hle
  rcases ite_or hf with ⟨q, hf⟩ | ⟨q, hf⟩
  · have hf := if_t q hf
    obtain ⟨hk4, hf⟩ := gd_some hf
    obtain ⟨z5, hz5, hf⟩ := bd_some hf
    rcases ite_or hf with ⟨q, hf⟩ | ⟨q, hf⟩
    · have hf := if_t q hf
      obtain ⟨z6, hz6, hf⟩ := bd_some hf
      obtain ⟨z7, hz7, hf⟩ := bd_some hf
      obtain ⟨hg8, hf⟩ := gd_some hf
      exact eqz_rt (mX12_share_b38 hf) hle
    · have hf := if_f q hf
      exact eqz_rt (mX12_share_b38 hf) hle
  · have hf := if_f q hf
    have ee := Option.some.inj hf; subst ee; exact hle
set_option maxRecDepth 100000 in
theorem wX12_share {E : PE} {l : Launch} (hG : Gs E l) {v0 : Nat} {v1 : Int32} {h : PH} {r : (UInt32 × PH)} (hf : fX12_share v0 v1 h = some r) : Ct E l 3 0 0 yX12_share cX12_share 2 (some .float) [.ref v0, .int v1] h (fun v u => v = some (.float r.1) ∧ u = r.2) := by
  refine ct_of hG (by decide) (Nat.le_of_ble_eq_true rfl) ?_
  intro p e s m args below meth c X hnm
  show PW E p l e _ s m args below meth c _ 0 0 _ h 0 [(0, some (.ref v0)), (1, some (.int v1))] []
  unfold fX12_share at hf
  refine p_aload_n X (dcg dc_X12_share 0 rfl) rfl rfl ?_
  refine p_iconst (v := 0) X (dcg dc_X12_share 1 rfl) (by decide) ?_
  obtain ⟨hk1, hf⟩ := gd_some hf
  refine p_putI X fl_X12_1 rfl (by decide) (fun q hq => by cases hq; rfl) rfl rfl (dcg dc_X12_share 2 rfl) hk1 ?_
  obtain ⟨h2, rfl, hf⟩ := lt_some hf
  refine p_aload_n X (dcg dc_X12_share 3 rfl) rfl rfl ?_
  refine p_iload_n X (dcg dc_X12_share 4 rfl) rfl rfl ?_
  obtain ⟨z3, hz3, hf⟩ := bd_some hf
  refine p_callV (As := [_]) X ml_X12_240 (dcg dc_X12_share 5 rfl) rfl rfl hk1 (wX12_noWord hG hz3) (by decide) (room4 (Nat.le_of_ble_eq_true rfl)) (Nat.le_refl _) (Nat.le_refl _) ?_
  rintro _ u9 ⟨rfl, e9⟩; have e9 := e9.symm; subst e9
  refine p_if_eq (tgt := 15) X (dcg dc_X12_share 6 rfl) (by decide) (fun q => ?_) (fun q => ?_)
  · have hf := if_t q hf
    refine p_aload_n X (dcg dc_X12_share 9 rfl) rfl rfl ?_
    obtain ⟨hk4, hf⟩ := gd_some hf
    obtain ⟨z5, hz5, hf⟩ := bd_some hf
    refine p_callV (As := []) X ml_X12_218 (dcg dc_X12_share 10 rfl) rfl rfl hk4 (wX12_countTexts hG hz5) (by decide) (room4 (Nat.le_of_ble_eq_true rfl)) (Nat.le_refl _) (Nat.le_refl _) ?_
    rintro _ u9 ⟨rfl, e9⟩; have e9 := e9.symm; subst e9
    refine p_if_ne (tgt := 26) X (dcg dc_X12_share 11 rfl) (by decide) (fun q => ?_) (fun q => ?_)
    · have hf := if_t q hf
      refine p_aload_n X (dcg dc_X12_share 14 rfl) rfl rfl ?_
      refine p_iload_n X (dcg dc_X12_share 15 rfl) rfl rfl ?_
      obtain ⟨z6, hz6, hf⟩ := bd_some hf
      refine p_callV (As := [_]) X ml_X12_246 (dcg dc_X12_share 16 rfl) rfl rfl hk4 (wX12_manyWith hG hz6) (by decide) (room4 (Nat.le_of_ble_eq_true rfl)) (Nat.le_refl _) (Nat.le_refl _) ?_
      rintro _ u9 ⟨rfl, e9⟩; have e9 := e9.symm; subst e9
      refine p_i2f X (dcg dc_X12_share 17 rfl) ?_
      refine p_aload_n X (dcg dc_X12_share 18 rfl) rfl rfl ?_
      obtain ⟨z7, hz7, hf⟩ := bd_some hf
      refine p_callV (As := []) X ml_X12_218 (dcg dc_X12_share 19 rfl) rfl rfl hk4 (wX12_countTexts hG hz7) (by decide) (room4 (Nat.le_of_ble_eq_true rfl)) (Nat.le_refl _) (Nat.le_refl _) ?_
      rintro _ u9 ⟨rfl, e9⟩; have e9 := e9.symm; subst e9
      refine p_i2f X (dcg dc_X12_share 20 rfl) ?_
      obtain ⟨hg8, hf⟩ := gd_some hf
      refine p_fdiv X (dcg dc_X12_share 21 rfl) hg8 ?_
      refine p_pick [] ?_
      exact wX12_share_b38 X hG hnm hf 
    · have hf := if_f q hf
      refine p_fconst X (dcg dc_X12_share 12 rfl) ?_
      refine p_goto (tgt := 38) X (dcg dc_X12_share 13 rfl) (by decide) ?_
      refine p_pick [] ?_
      exact wX12_share_b38 X hG hnm hf 
  · have hf := if_f q hf
    refine p_fconst X (dcg dc_X12_share 7 rfl) ?_
    have er := Option.some.inj hf
    subst er
    exact p_fret X rfl (dcg dc_X12_share 8 rfl) ⟨rfl, rfl⟩ (Nat.le_refl _) (Nat.le_refl _)
theorem dc_X12_errors : decs cX12_errors [(0, .aload_n 0, 1), (1, .iconst 0, 1), (2, .putfield 1, 3), (5, .iconst 0, 1), (6, .ireturn, 1)] = true := by decide +kernel
noncomputable def fX12_errors (v0 : Nat) (h : PH) : Option (Int32 × PH) :=
  gd (hK h v0 = 12) (lt (sI h 12 v0 0 (0 : Int32)) (fun h2 =>
  some (((0 : Int32), h2))))
set_option maxRecDepth 100000 in
theorem mX12_errors {v0 : Nat} {h : PH} {r : (Int32 × PH)} (hf : fX12_errors v0 h = some r) : eqz h (hX r.2) (hV r.2) := by
  unfold fX12_errors at hf
  have hle := eqz_rf h
  obtain ⟨hk1, hf⟩ := gd_some hf
  obtain ⟨h2, rfl, hf⟩ := lt_some hf
  have ee := Option.some.inj hf; subst ee; exact hle
set_option maxRecDepth 100000 in
theorem wX12_errors {E : PE} {l : Launch} (hG : Gs E l) {v0 : Nat} {h : PH} {r : (Int32 × PH)} (hf : fX12_errors v0 h = some r) : Ct E l 0 0 0 yX12_errors cX12_errors 1 (some .int) [.ref v0] h (fun v u => v = some (.int r.1) ∧ u = r.2) := by
  refine ct_of hG (by decide) (Nat.le_of_ble_eq_true rfl) ?_
  intro p e s m args below meth c X hnm
  show PW E p l e _ s m args below meth c _ 0 0 _ h 0 [(0, some (.ref v0))] []
  unfold fX12_errors at hf
  refine p_aload_n X (dcg dc_X12_errors 0 rfl) rfl rfl ?_
  refine p_iconst (v := 0) X (dcg dc_X12_errors 1 rfl) (by decide) ?_
  obtain ⟨hk1, hf⟩ := gd_some hf
  refine p_putI X fl_X12_1 rfl (by decide) (fun q hq => by cases hq; rfl) rfl rfl (dcg dc_X12_errors 2 rfl) hk1 ?_
  obtain ⟨h2, rfl, hf⟩ := lt_some hf
  refine p_iconst (v := 0) X (dcg dc_X12_errors 3 rfl) (by decide) ?_
  have er := Option.some.inj hf
  subst er
  exact p_iret X rfl (dcg dc_X12_errors 4 rfl) ⟨rfl, rfl⟩ (Nat.le_refl _) (Nat.le_refl _)
