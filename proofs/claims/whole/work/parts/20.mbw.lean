/-! methods of the program (by program: wip/whole/gen2.py) -/
theorem dc_X12_errorPosition : decs cX12_errorPosition [(0, .aload_n 0, 1), (1, .iconst 0, 1), (2, .putfield 1, 3), (5, .aload_n 0, 1), (6, .getfield 17, 3), (9, .ireturn, 1)] = true := by decide +kernel
noncomputable def fX12_errorPosition (v0 : Nat) (h : PH) : Option (Int32 × PH) :=
  gd (hK h v0 = 12) (lt (sI h 12 v0 0 (0 : Int32)) (fun h2 =>
  some (((hI h2 12 v0 3), h2))))
set_option maxRecDepth 100000 in
theorem mX12_errorPosition {v0 : Nat} {h : PH} {r : (Int32 × PH)} (hf : fX12_errorPosition v0 h = some r) : eqz h (hX r.2) (hV r.2) := by
  unfold fX12_errorPosition at hf
  have hle := eqz_rf h
  obtain ⟨hk1, hf⟩ := gd_some hf
  obtain ⟨h2, rfl, hf⟩ := lt_some hf
  have ee := Option.some.inj hf; subst ee; exact hle
set_option maxRecDepth 100000 in
theorem wX12_errorPosition {E : PE} {l : Launch} (hG : Gs E l) {v0 : Nat} {h : PH} {r : (Int32 × PH)} (hf : fX12_errorPosition v0 h = some r) : Ct E l 0 0 0 yX12_errorPosition cX12_errorPosition 1 (some .int) [.ref v0] h (fun v u => v = some (.int r.1) ∧ u = r.2) := by
  refine ct_of hG (by decide) (Nat.le_of_ble_eq_true rfl) ?_
  intro p e s m args below meth c X hnm
  show PW E p l e _ s m args below meth c _ 0 0 _ h 0 [(0, some (.ref v0))] []
  unfold fX12_errorPosition at hf
  refine p_aload_n X (dcg dc_X12_errorPosition 0 rfl) rfl rfl ?_
  refine p_iconst (v := 0) X (dcg dc_X12_errorPosition 1 rfl) (by decide) ?_
  obtain ⟨hk1, hf⟩ := gd_some hf
  refine p_putI X fl_X12_1 rfl (by decide) (fun q hq => by cases hq; rfl) rfl rfl (dcg dc_X12_errorPosition 2 rfl) hk1 ?_
  obtain ⟨h2, rfl, hf⟩ := lt_some hf
  refine p_aload_n X (dcg dc_X12_errorPosition 3 rfl) rfl rfl ?_
  refine p_getI X fl_X12_17 rfl (by decide) (dcg dc_X12_errorPosition 4 rfl) hk1 ?_
  have er := Option.some.inj hf
  subst er
  exact p_iret X rfl (dcg dc_X12_errorPosition 5 rfl) ⟨rfl, rfl⟩ (Nat.le_refl _) (Nat.le_refl _)
theorem dc_X12_letterOfByte : decs cX12_letterOfByte [(0, .iload_n 0, 1), (1, .bipush 97, 2), (3, .bipush 122, 2), (5, .invokestatic 148, 3), (8, .ifCond .eq 12, 3), (11, .iload_n 0, 1), (12, .bipush 97, 2), (14, .isub, 1), (15, .iconst 1, 1), (16, .iadd, 1), (17, .goto 24, 3), (20, .iload_n 0, 1), (21, .bipush 65, 2), (23, .bipush 90, 2), (25, .invokestatic 148, 3), (28, .ifCond .eq 12, 3), (31, .iload_n 0, 1), (32, .bipush 65, 2), (34, .isub, 1), (35, .iconst 1, 1), (36, .iadd, 1), (37, .goto 4, 3), (40, .iconst 0, 1), (41, .ireturn, 1)] = true := by decide +kernel
noncomputable def fX12_letterOfByte_b41 (t0 : Int32) : Option Int32 :=
  some (t0)
set_option maxRecDepth 100000 in
theorem wX12_letterOfByte_b41 {E : PE} {p : Program} {l : Launch} {e : Env} {s : State} {m : MethodId} {args : Array Value} {below : List Frame} {meth : Method} {c : Code} (X : Cx E p l e (rmv 1 0 0) s m args below meth c RX12 cX12_letterOfByte 1 (some .int)) (hG : Gs E l) (hnm : meth.name = yX12_letterOfByte.name) {t0 : Int32} {h : PH} {r : Int32} (hf : fX12_letterOfByte_b41 t0 = some r)  : PW E p l e (rmv 1 0 0) s m args below meth c 1 0 0 (MQ below (QG E (fun v u => v = some (.int r) ∧ u = h)) args s 0 0 (pA E)) h 41 [] [.int t0] := by
  unfold fX12_letterOfByte_b41 at hf
  have er := Option.some.inj hf
  subst er
  exact p_iret X rfl (dcg dc_X12_letterOfByte 23 rfl) ⟨rfl, rfl⟩ (Nat.le_refl _) (Nat.le_refl _)
noncomputable def fX12_letterOfByte (v0 : Int32) : Option Int32 :=
  bd (fX12_in v0 (97 : Int32) (122 : Int32)) (fun z1 =>
  if (z1 = 0) then (bd (fX12_in v0 (65 : Int32) (90 : Int32)) (fun z2 =>
  if (z2 = 0) then (fX12_letterOfByte_b41 (0 : Int32)) else
  fX12_letterOfByte_b41 ((v0 - (65 : Int32)) + (1 : Int32)))) else
  fX12_letterOfByte_b41 ((v0 - (97 : Int32)) + (1 : Int32)))
set_option maxRecDepth 100000 in
theorem wX12_letterOfByte {E : PE} {l : Launch} (hG : Gs E l) {v0 : Int32} {h : PH} {r : Int32} (hf : fX12_letterOfByte v0 = some r) : Ct E l 1 0 0 yX12_letterOfByte cX12_letterOfByte 1 (some .int) [.int v0] h (fun v u => v = some (.int r) ∧ u = h) := by
  refine ct_of hG (by decide) (Nat.le_of_ble_eq_true rfl) ?_
  intro p e s m args below meth c X hnm
  show PW E p l e _ s m args below meth c _ 0 0 _ h 0 [(0, some (.int v0))] []
  unfold fX12_letterOfByte at hf
  refine p_iload_n X (dcg dc_X12_letterOfByte 0 rfl) rfl rfl ?_
  refine p_bipush (v := 97) X (dcg dc_X12_letterOfByte 1 rfl) (by decide) ?_
  refine p_bipush (v := 122) X (dcg dc_X12_letterOfByte 2 rfl) (by decide) ?_
  obtain ⟨z1, hz1, hf⟩ := bd_some hf
  refine p_callS (As := [_, _, _]) X ml_X12_148 (dcg dc_X12_letterOfByte 3 rfl) rfl rfl  (wX12_in hG hz1) (by decide) (room4 (Nat.le_of_ble_eq_true rfl)) (Nat.le_refl _) (Nat.le_refl _) ?_
  rintro _ u9 ⟨rfl, e9⟩; have e9 := e9.symm; subst e9
  refine p_if_eq (tgt := 20) X (dcg dc_X12_letterOfByte 4 rfl) (by decide) (fun q => ?_) (fun q => ?_)
  · have hf := if_t q hf
    refine p_iload_n X (dcg dc_X12_letterOfByte 11 rfl) rfl rfl ?_
    refine p_bipush (v := 65) X (dcg dc_X12_letterOfByte 12 rfl) (by decide) ?_
    refine p_bipush (v := 90) X (dcg dc_X12_letterOfByte 13 rfl) (by decide) ?_
    obtain ⟨z2, hz2, hf⟩ := bd_some hf
    refine p_callS (As := [_, _, _]) X ml_X12_148 (dcg dc_X12_letterOfByte 14 rfl) rfl rfl  (wX12_in hG hz2) (by decide) (room4 (Nat.le_of_ble_eq_true rfl)) (Nat.le_refl _) (Nat.le_refl _) ?_
    rintro _ u9 ⟨rfl, e9⟩; have e9 := e9.symm; subst e9
    refine p_if_eq (tgt := 40) X (dcg dc_X12_letterOfByte 15 rfl) (by decide) (fun q => ?_) (fun q => ?_)
    · have hf := if_t q hf
      refine p_iconst (v := 0) X (dcg dc_X12_letterOfByte 22 rfl) (by decide) ?_
      refine p_pick [] ?_
      exact wX12_letterOfByte_b41 X hG hnm hf 
    · have hf := if_f q hf
      refine p_iload_n X (dcg dc_X12_letterOfByte 16 rfl) rfl rfl ?_
      refine p_bipush (v := 65) X (dcg dc_X12_letterOfByte 17 rfl) (by decide) ?_
      refine p_isub X (dcg dc_X12_letterOfByte 18 rfl) ?_
      refine p_iconst (v := 1) X (dcg dc_X12_letterOfByte 19 rfl) (by decide) ?_
      refine p_iadd X (dcg dc_X12_letterOfByte 20 rfl) ?_
      refine p_goto (tgt := 41) X (dcg dc_X12_letterOfByte 21 rfl) (by decide) ?_
      refine p_pick [] ?_
      exact wX12_letterOfByte_b41 X hG hnm hf 
  · have hf := if_f q hf
    refine p_iload_n X (dcg dc_X12_letterOfByte 5 rfl) rfl rfl ?_
    refine p_bipush (v := 97) X (dcg dc_X12_letterOfByte 6 rfl) (by decide) ?_
    refine p_isub X (dcg dc_X12_letterOfByte 7 rfl) ?_
    refine p_iconst (v := 1) X (dcg dc_X12_letterOfByte 8 rfl) (by decide) ?_
    refine p_iadd X (dcg dc_X12_letterOfByte 9 rfl) ?_
    refine p_goto (tgt := 41) X (dcg dc_X12_letterOfByte 10 rfl) (by decide) ?_
    refine p_pick [] ?_
    exact wX12_letterOfByte_b41 X hG hnm hf 
theorem dc_X12_readsText : decs cX12_readsText [(0, .aload_n 0, 1), (1, .iconst 0, 1), (2, .putfield 173, 3), (5, .aload_n 0, 1), (6, .iconst (-1), 1), (7, .putfield 17, 3), (10, .iconst 0, 1), (11, .istore_n 1, 1), (12, .iload_n 1, 1), (13, .aload_n 0, 1), (14, .getfield 163, 3), (17, .if_icmp .ge 128, 3), (20, .aload_n 0, 1), (21, .getfield 17, 3), (24, .iconst (-1), 1), (25, .if_icmp .ne 120, 3), (28, .iload_n 1, 1), (29, .istore_n 2, 1), (30, .iconst 0, 1), (31, .istore_n 3, 1), (32, .iload_n 1, 1), (33, .aload_n 0, 1), (34, .getfield 163, 3), (37, .if_icmp .ge 44, 3), (40, .aload_n 0, 1), (41, .getfield 13, 3), (44, .iload_n 1, 1), (45, .iaload, 1), (46, .invokestatic 176, 3), (49, .ifCond .le 32, 3), (52, .iload_n 1, 1), (53, .iload_n 2, 1), (54, .isub, 1), (55, .bipush 6, 2), (57, .if_icmp .ge 18, 3), (60, .bipush 27, 2), (62, .iload_n 3, 1), (63, .imul, 1), (64, .aload_n 0, 1), (65, .getfield 13, 3), (68, .iload_n 1, 1), (69, .iaload, 1), (70, .invokestatic 176, 3), (73, .iadd, 1), (74, .istore_n 3, 1), (75, .iinc 1 1, 3), (78, .goto (-46), 3), (81, .iload_n 1, 1), (82, .iload_n 2, 1), (83, .isub, 1), (84, .bipush 6, 2), (86, .if_icmp .gt 17, 3), (89, .iload_n 1, 1), (90, .iload_n 2, 1), (91, .if_icmp .le 20, 3), (94, .aload_n 0, 1), (95, .getfield 173, 3), (98, .bipush 40, 2), (100, .if_icmp .ne 11, 3), (103, .aload_n 0, 1), (104, .iload_n 2, 1), (105, .putfield 17, 3), (108, .goto 34, 3), (111, .iload_n 1, 1), (112, .iload_n 2, 1), (113, .if_icmp .le 26, 3), (116, .aload_n 0, 1), (117, .getfield 30, 3), (120, .aload_n 0, 1), (121, .getfield 173, 3), (124, .iload_n 3, 1), (125, .iastore, 1), (126, .aload_n 0, 1), (127, .dup, 1), (128, .getfield 173, 3), (131, .iconst 1, 1), (132, .iadd, 1), (133, .putfield 173, 3), (136, .goto 6, 3), (139, .iinc 1 1, 3), (142, .goto (-130), 3), (145, .aload_n 0, 1), (146, .iconst 0, 1), (147, .putfield 163, 3), (150, .aload_n 0, 1), (151, .getfield 17, 3), (154, .iconst (-1), 1), (155, .if_icmp .ne 7, 3), (158, .iconst 1, 1), (159, .goto 4, 3), (162, .iconst 0, 1), (163, .ireturn, 1)] = true := by decide +kernel
noncomputable def fX12_readsText_b163 (t0 : Int32) (h : PH) : Option (Int32 × PH) :=
  gd (t0 &&& 1 = t0) (some ((t0, h)))
set_option maxRecDepth 100000 in
theorem mX12_readsText_b163 {t0 : Int32} {h : PH} {r : (Int32 × PH)} (hf : fX12_readsText_b163 t0 h = some r) : eqz h (hX r.2) (hV r.2) := by
  unfold fX12_readsText_b163 at hf
  have hle := eqz_rf h
  obtain ⟨hg7, hf⟩ := gd_some hf
  have ee := Option.some.inj hf; subst ee; exact hle
set_option maxRecDepth 100000 in
theorem wX12_readsText_b163 {E : PE} {p : Program} {l : Launch} {e : Env} {s : State} {m : MethodId} {args : Array Value} {below : List Frame} {meth : Method} {c : Code} (X : Cx E p l e (rmv 2 0 0) s m args below meth c RX12 cX12_readsText 4 (some .boolean)) (hG : Gs E l) (hnm : meth.name = yX12_readsText.name) {t0 : Int32} {h : PH} {r : (Int32 × PH)} (hf : fX12_readsText_b163 t0 h = some r)  : PW E p l e (rmv 2 0 0) s m args below meth c 4 0 0 (MQ below (QG E (fun v u => v = some (.int r.1) ∧ u = r.2)) args s 0 0 (pA E)) h 163 [] [.int t0] := by
  unfold fX12_readsText_b163 at hf
  obtain ⟨hg7, hf⟩ := gd_some hf
  have er := Option.some.inj hf
  subst er
  exact p_zret X rfl (congrArg Value.int hg7) (dcg dc_X12_readsText 91 rfl) ⟨rfl, rfl⟩ (Nat.le_refl _) (Nat.le_refl _)
noncomputable def fX12_readsText_b145 (v0 : Nat) (h : PH) : Option (Int32 × PH) :=
  gd (hK h v0 = 12) (lt (sI h 12 v0 2 (0 : Int32)) (fun h6 =>
  if (¬ (hI h6 12 v0 3) = (-1 : Int32)) then (fX12_readsText_b163 (0 : Int32) h6) else
  fX12_readsText_b163 (1 : Int32) h6))
set_option maxRecDepth 100000 in
theorem mX12_readsText_b145 {v0 : Nat} {h : PH} {r : (Int32 × PH)} (hf : fX12_readsText_b145 v0 h = some r) : eqz h (hX r.2) (hV r.2) := by
  unfold fX12_readsText_b145 at hf
  have hle := eqz_rf h
  obtain ⟨hk5, hf⟩ := gd_some hf
  obtain ⟨h6, rfl, hf⟩ := lt_some hf
  rcases ite_or hf with ⟨q, hf⟩ | ⟨q, hf⟩
  · have hf := if_t q hf
    exact eqz_rt (mX12_readsText_b163 hf) hle
  · have hf := if_f q hf
    exact eqz_rt (mX12_readsText_b163 hf) hle
set_option maxRecDepth 100000 in
theorem wX12_readsText_b145 {E : PE} {p : Program} {l : Launch} {e : Env} {s : State} {m : MethodId} {args : Array Value} {below : List Frame} {meth : Method} {c : Code} (X : Cx E p l e (rmv 2 0 0) s m args below meth c RX12 cX12_readsText 4 (some .boolean)) (hG : Gs E l) (hnm : meth.name = yX12_readsText.name) {v0 : Nat} {h : PH} {r : (Int32 × PH)} (hf : fX12_readsText_b145 v0 h = some r)  : PW E p l e (rmv 2 0 0) s m args below meth c 4 0 0 (MQ below (QG E (fun v u => v = some (.int r.1) ∧ u = r.2)) args s 0 0 (pA E)) h 145 [(0, some (.ref v0))] [] := by
  unfold fX12_readsText_b145 at hf
  refine p_aload_n X (dcg dc_X12_readsText 81 rfl) rfl rfl ?_
  refine p_iconst (v := 0) X (dcg dc_X12_readsText 82 rfl) (by decide) ?_
  obtain ⟨hk5, hf⟩ := gd_some hf
  refine p_putI X fl_X12_163 rfl (by decide) (fun q hq => by cases hq; rfl) rfl rfl (dcg dc_X12_readsText 83 rfl) hk5 ?_
  obtain ⟨h6, rfl, hf⟩ := lt_some hf
  refine p_aload_n X (dcg dc_X12_readsText 84 rfl) rfl rfl ?_
  refine p_getI X fl_X12_17 rfl (by decide) (dcg dc_X12_readsText 85 rfl) hk5 ?_
  refine p_iconst (v := -1) X (dcg dc_X12_readsText 86 rfl) (by decide) ?_
  refine p_icmp_ne (tgt := 162) X (dcg dc_X12_readsText 87 rfl) (by decide) (fun q => ?_) (fun q => ?_)
  · have hf := if_t q hf
    refine p_iconst (v := 0) X (dcg dc_X12_readsText 90 rfl) (by decide) ?_
    refine p_pick [] ?_
    exact wX12_readsText_b163 X hG hnm hf 
  · have hf := if_f q hf
    refine p_iconst (v := 1) X (dcg dc_X12_readsText 88 rfl) (by decide) ?_
    refine p_goto (tgt := 163) X (dcg dc_X12_readsText 89 rfl) (by decide) ?_
    refine p_pick [] ?_
    exact wX12_readsText_b163 X hG hnm hf 
noncomputable def fX12_readsText_b142 (v0 : Nat) (v1 : Int32) (h : PH) : Option ((Int32 × PH) ⊕ (Int32 × PH)) :=
  some (.inl (v1, h))
set_option maxRecDepth 100000 in
theorem mX12_readsText_b142 {v0 : Nat} {v1 : Int32} {h : PH} {x : ((Int32 × PH) ⊕ (Int32 × PH))} (hf : fX12_readsText_b142 v0 v1 h = some x) : (∀ w9 : (Int32 × PH), x = .inl w9 → eqz h (hX (w9.2)) (hV (w9.2))) ∧ (∀ w9 : (Int32 × PH), x = .inr w9 → eqz h (hX w9.2) (hV w9.2)) := by
  unfold fX12_readsText_b142 at hf
  have hle := eqz_rf h
  have ee := Option.some.inj hf; subst ee
  exact ⟨(fun z e => by have ee := Sum.inl.inj (e); subst ee; exact hle), (fun z e => nomatch e)⟩
set_option maxRecDepth 100000 in
theorem wX12_readsText_b142 {E : PE} {p : Program} {l : Launch} {e : Env} {s : State} {m : MethodId} {args : Array Value} {below : List Frame} {meth : Method} {c : Code} (X : Cx E p l e (rmv 2 0 0) s m args below meth c RX12 cX12_readsText 4 (some .boolean)) (hG : Gs E l) (hnm : meth.name = yX12_readsText.name) {v0 : Nat} {v1 : Int32} {h : PH} {r : (Int32 × PH)} {x : ((Int32 × PH) ⊕ (Int32 × PH))} (hf : fX12_readsText_b142 v0 v1 h = some x) (k0 : ∀ z : (Int32 × PH), x = .inl z → PW E p l e (rmv 2 0 0) s m args below meth c 4 0 0 (MQ below (QG E (fun v u => v = some (.int r.1) ∧ u = r.2)) args s 0 0 (pA E)) (z.2) 12 [(0, some (.ref v0)), (1, some (.int (z.1)))] []) (kf : ∀ z : (Int32 × PH), x = .inr z → z = r) : PW E p l e (rmv 2 0 0) s m args below meth c 4 0 0 (MQ below (QG E (fun v u => v = some (.int r.1) ∧ u = r.2)) args s 0 0 (pA E)) h 142 [(0, some (.ref v0)), (1, some (.int v1))] [] := by
  unfold fX12_readsText_b142 at hf
  refine p_goto (tgt := 12) X (dcg dc_X12_readsText 80 rfl) (by decide) ?_
  refine p_pick [0, 1] ?_
  exact k0 _ (Option.some.inj hf).symm
noncomputable def fX12_readsText_b103 (v0 : Nat) (v1 : Int32) (v2 : Int32) (h : PH) : Option ((Int32 × PH) ⊕ (Int32 × PH)) :=
  gd (hK h v0 = 12) (lt (sI h 12 v0 3 v2) (fun h14 =>
  fX12_readsText_b142 v0 v1 h14))
set_option maxRecDepth 100000 in
theorem mX12_readsText_b103 {v0 : Nat} {v1 : Int32} {v2 : Int32} {h : PH} {x : ((Int32 × PH) ⊕ (Int32 × PH))} (hf : fX12_readsText_b103 v0 v1 v2 h = some x) : (∀ w9 : (Int32 × PH), x = .inl w9 → eqz h (hX (w9.2)) (hV (w9.2))) ∧ (∀ w9 : (Int32 × PH), x = .inr w9 → eqz h (hX w9.2) (hV w9.2)) := by
  unfold fX12_readsText_b103 at hf
  have hle := eqz_rf h
  obtain ⟨hk13, hf⟩ := gd_some hf
  obtain ⟨h14, rfl, hf⟩ := lt_some hf
  obtain ⟨c0, cf⟩ := mX12_readsText_b142 hf
  exact ⟨fun z e => eqz_rt (c0 z (e)) hle, fun z e => eqz_rt (cf z (e)) hle⟩
set_option maxRecDepth 100000 in
theorem wX12_readsText_b103 {E : PE} {p : Program} {l : Launch} {e : Env} {s : State} {m : MethodId} {args : Array Value} {below : List Frame} {meth : Method} {c : Code} (X : Cx E p l e (rmv 2 0 0) s m args below meth c RX12 cX12_readsText 4 (some .boolean)) (hG : Gs E l) (hnm : meth.name = yX12_readsText.name) {v0 : Nat} {v1 : Int32} {v2 : Int32} {h : PH} {r : (Int32 × PH)} {x : ((Int32 × PH) ⊕ (Int32 × PH))} (hf : fX12_readsText_b103 v0 v1 v2 h = some x) (k0 : ∀ z : (Int32 × PH), x = .inl z → PW E p l e (rmv 2 0 0) s m args below meth c 4 0 0 (MQ below (QG E (fun v u => v = some (.int r.1) ∧ u = r.2)) args s 0 0 (pA E)) (z.2) 12 [(0, some (.ref v0)), (1, some (.int (z.1)))] []) (kf : ∀ z : (Int32 × PH), x = .inr z → z = r) : PW E p l e (rmv 2 0 0) s m args below meth c 4 0 0 (MQ below (QG E (fun v u => v = some (.int r.1) ∧ u = r.2)) args s 0 0 (pA E)) h 103 [(0, some (.ref v0)), (1, some (.int v1)), (2, some (.int v2))] [] := by
  unfold fX12_readsText_b103 at hf
  refine p_aload_n X (dcg dc_X12_readsText 59 rfl) rfl rfl ?_
  refine p_iload_n X (dcg dc_X12_readsText 60 rfl) rfl rfl ?_
  obtain ⟨hk13, hf⟩ := gd_some hf
  refine p_putI X fl_X12_17 rfl (by decide) (fun q hq => by cases hq; rfl) rfl rfl (dcg dc_X12_readsText 61 rfl) hk13 ?_
  obtain ⟨h14, rfl, hf⟩ := lt_some hf
  refine p_goto (tgt := 142) X (dcg dc_X12_readsText 62 rfl) (by decide) ?_
  refine p_pick [0, 1] ?_
  exact wX12_readsText_b142 X hG hnm hf k0 kf
noncomputable def fX12_readsText_b111 (v0 : Nat) (v1 : Int32) (v2 : Int32) (v3 : Int32) (h : PH) : Option ((Int32 × PH) ⊕ (Int32 × PH)) :=
  if (v1 ≤ v2) then (fX12_readsText_b142 v0 (v1 + 1) h) else
  gd (hK h v0 = 12) (gs (hR h 12 v0 7) (fun a16 =>
  gd (hK h a16 = 20 ∧ inb (hI h 12 v0 8) (hN h a16)) (lt (sI h 20 a16 (Int32.toNatClampNeg (hI h 12 v0 8)) v3) (fun h20 =>
  lt (sI h20 12 v0 8 ((hI h20 12 v0 8) + (1 : Int32))) (fun h21 =>
  fX12_readsText_b142 v0 v1 h21)))))
set_option maxRecDepth 100000 in
theorem mX12_readsText_b111 {v0 : Nat} {v1 : Int32} {v2 : Int32} {v3 : Int32} {h : PH} {x : ((Int32 × PH) ⊕ (Int32 × PH))} (hf : fX12_readsText_b111 v0 v1 v2 v3 h = some x) : (∀ w9 : (Int32 × PH), x = .inl w9 → eqz h (hX (w9.2)) (hV (w9.2))) ∧ (∀ w9 : (Int32 × PH), x = .inr w9 → eqz h (hX w9.2) (hV w9.2)) := by
  unfold fX12_readsText_b111 at hf
  have hle := eqz_rf h
  rcases ite_or hf with ⟨q, hf⟩ | ⟨q, hf⟩
  · have hf := if_t q hf
    obtain ⟨c0, cf⟩ := mX12_readsText_b142 hf
    exact ⟨fun z e => eqz_rt (c0 z (e)) hle, fun z e => eqz_rt (cf z (e)) hle⟩
  · have hf := if_f q hf
    obtain ⟨hk15, hf⟩ := gd_some hf
    obtain ⟨a16, e17, hf⟩ := gs_some hf
    obtain ⟨⟨hk19, hb18⟩, hf⟩ := gd_some hf
    obtain ⟨h20, rfl, hf⟩ := lt_some hf
    obtain ⟨h21, rfl, hf⟩ := lt_some hf
    obtain ⟨c0, cf⟩ := mX12_readsText_b142 hf
    exact ⟨fun z e => eqz_rt (c0 z (e)) hle, fun z e => eqz_rt (cf z (e)) hle⟩
set_option maxRecDepth 100000 in
theorem wX12_readsText_b111 {E : PE} {p : Program} {l : Launch} {e : Env} {s : State} {m : MethodId} {args : Array Value} {below : List Frame} {meth : Method} {c : Code} (X : Cx E p l e (rmv 2 0 0) s m args below meth c RX12 cX12_readsText 4 (some .boolean)) (hG : Gs E l) (hnm : meth.name = yX12_readsText.name) {v0 : Nat} {v1 : Int32} {v2 : Int32} {v3 : Int32} {h : PH} {r : (Int32 × PH)} {x : ((Int32 × PH) ⊕ (Int32 × PH))} (hf : fX12_readsText_b111 v0 v1 v2 v3 h = some x) (k0 : ∀ z : (Int32 × PH), x = .inl z → PW E p l e (rmv 2 0 0) s m args below meth c 4 0 0 (MQ below (QG E (fun v u => v = some (.int r.1) ∧ u = r.2)) args s 0 0 (pA E)) (z.2) 12 [(0, some (.ref v0)), (1, some (.int (z.1)))] []) (kf : ∀ z : (Int32 × PH), x = .inr z → z = r) : PW E p l e (rmv 2 0 0) s m args below meth c 4 0 0 (MQ below (QG E (fun v u => v = some (.int r.1) ∧ u = r.2)) args s 0 0 (pA E)) h 111 [(0, some (.ref v0)), (1, some (.int v1)), (2, some (.int v2)), (3, some (.int v3))] [] := by
  unfold fX12_readsText_b111 at hf
  refine p_iload_n X (dcg dc_X12_readsText 63 rfl) rfl rfl ?_
  refine p_iload_n X (dcg dc_X12_readsText 64 rfl) rfl rfl ?_
  refine p_icmp_le (tgt := 139) X (dcg dc_X12_readsText 65 rfl) (by decide) (fun q => ?_) (fun q => ?_)
  · have hf := if_t q hf
    refine p_iinc (v := 1) X (dcg dc_X12_readsText 79 rfl) rfl (by decide) (by decide) rfl ?_
    refine p_pick [0, 1] ?_
    exact wX12_readsText_b142 X hG hnm hf k0 kf
  · have hf := if_f q hf
    refine p_aload_n X (dcg dc_X12_readsText 66 rfl) rfl rfl ?_
    obtain ⟨hk15, hf⟩ := gd_some hf
    refine p_getR X fl_X12_30 rfl (by decide) (dcg dc_X12_readsText 67 rfl) hk15 ?_
    refine p_aload_n X (dcg dc_X12_readsText 68 rfl) rfl rfl ?_
    refine p_getI X fl_X12_173 rfl (by decide) (dcg dc_X12_readsText 69 rfl) hk15 ?_
    refine p_iload_n X (dcg dc_X12_readsText 70 rfl) rfl rfl ?_
    obtain ⟨a16, e17, hf⟩ := gs_some hf
    first | subst e17 | (try rw [e17])
    obtain ⟨⟨hk19, hb18⟩, hf⟩ := gd_some hf
    refine p_iast X (dcg dc_X12_readsText 71 rfl) hk19 (vp_of_inb hb18) ?_
    obtain ⟨h20, rfl, hf⟩ := lt_some hf
    refine p_aload_n X (dcg dc_X12_readsText 72 rfl) rfl rfl ?_
    refine p_dup X (dcg dc_X12_readsText 73 rfl) rfl ?_
    refine p_getI X fl_X12_173 rfl (by decide) (dcg dc_X12_readsText 74 rfl) hk15 ?_
    refine p_iconst (v := 1) X (dcg dc_X12_readsText 75 rfl) (by decide) ?_
    refine p_iadd X (dcg dc_X12_readsText 76 rfl) ?_
    refine p_putI X fl_X12_173 rfl (by decide) (fun q hq => by cases hq; rfl) rfl rfl (dcg dc_X12_readsText 77 rfl) hk15 ?_
    obtain ⟨h21, rfl, hf⟩ := lt_some hf
    refine p_goto (tgt := 142) X (dcg dc_X12_readsText 78 rfl) (by decide) ?_
    refine p_pick [0, 1] ?_
    exact wX12_readsText_b142 X hG hnm hf k0 kf
noncomputable def fX12_readsText_b81 (v0 : Nat) (v1 : Int32) (v2 : Int32) (v3 : Int32) (h : PH) : Option ((Int32 × PH) ⊕ (Int32 × PH)) :=
  if ((6 : Int32) < (v1 - v2)) then (fX12_readsText_b103 v0 v1 v2 h) else
  if (v1 ≤ v2) then (fX12_readsText_b111 v0 v1 v2 v3 h) else
  gd (hK h v0 = 12) (if (¬ (hI h 12 v0 8) = (40 : Int32)) then (fX12_readsText_b111 v0 v1 v2 v3 h) else
  fX12_readsText_b103 v0 v1 v2 h)
set_option maxRecDepth 100000 in
theorem mX12_readsText_b81 {v0 : Nat} {v1 : Int32} {v2 : Int32} {v3 : Int32} {h : PH} {x : ((Int32 × PH) ⊕ (Int32 × PH))} (hf : fX12_readsText_b81 v0 v1 v2 v3 h = some x) : (∀ w9 : (Int32 × PH), x = .inl w9 → eqz h (hX (w9.2)) (hV (w9.2))) ∧ (∀ w9 : (Int32 × PH), x = .inr w9 → eqz h (hX w9.2) (hV w9.2)) := by
  unfold fX12_readsText_b81 at hf
  have hle := eqz_rf h
  rcases ite_or hf with ⟨q, hf⟩ | ⟨q, hf⟩
  · have hf := if_t q hf
    obtain ⟨c0, cf⟩ := mX12_readsText_b103 hf
    exact ⟨fun z e => eqz_rt (c0 z (e)) hle, fun z e => eqz_rt (cf z (e)) hle⟩
  · have hf := if_f q hf
    rcases ite_or hf with ⟨q, hf⟩ | ⟨q, hf⟩
    · have hf := if_t q hf
      obtain ⟨c0, cf⟩ := mX12_readsText_b111 hf
      exact ⟨fun z e => eqz_rt (c0 z (e)) hle, fun z e => eqz_rt (cf z (e)) hle⟩
    · have hf := if_f q hf
      obtain ⟨hk22, hf⟩ := gd_some hf
      rcases ite_or hf with ⟨q, hf⟩ | ⟨q, hf⟩
      · have hf := if_t q hf
        obtain ⟨c0, cf⟩ := mX12_readsText_b111 hf
        exact ⟨fun z e => eqz_rt (c0 z (e)) hle, fun z e => eqz_rt (cf z (e)) hle⟩
      · have hf := if_f q hf
        obtain ⟨c0, cf⟩ := mX12_readsText_b103 hf
        exact ⟨fun z e => eqz_rt (c0 z (e)) hle, fun z e => eqz_rt (cf z (e)) hle⟩
set_option maxRecDepth 100000 in
theorem wX12_readsText_b81 {E : PE} {p : Program} {l : Launch} {e : Env} {s : State} {m : MethodId} {args : Array Value} {below : List Frame} {meth : Method} {c : Code} (X : Cx E p l e (rmv 2 0 0) s m args below meth c RX12 cX12_readsText 4 (some .boolean)) (hG : Gs E l) (hnm : meth.name = yX12_readsText.name) {v0 : Nat} {v1 : Int32} {v2 : Int32} {v3 : Int32} {h : PH} {r : (Int32 × PH)} {x : ((Int32 × PH) ⊕ (Int32 × PH))} (hf : fX12_readsText_b81 v0 v1 v2 v3 h = some x) (k0 : ∀ z : (Int32 × PH), x = .inl z → PW E p l e (rmv 2 0 0) s m args below meth c 4 0 0 (MQ below (QG E (fun v u => v = some (.int r.1) ∧ u = r.2)) args s 0 0 (pA E)) (z.2) 12 [(0, some (.ref v0)), (1, some (.int (z.1)))] []) (kf : ∀ z : (Int32 × PH), x = .inr z → z = r) : PW E p l e (rmv 2 0 0) s m args below meth c 4 0 0 (MQ below (QG E (fun v u => v = some (.int r.1) ∧ u = r.2)) args s 0 0 (pA E)) h 81 [(0, some (.ref v0)), (1, some (.int v1)), (2, some (.int v2)), (3, some (.int v3))] [] := by
  unfold fX12_readsText_b81 at hf
  refine p_iload_n X (dcg dc_X12_readsText 47 rfl) rfl rfl ?_
  refine p_iload_n X (dcg dc_X12_readsText 48 rfl) rfl rfl ?_
  refine p_isub X (dcg dc_X12_readsText 49 rfl) ?_
  refine p_bipush (v := 6) X (dcg dc_X12_readsText 50 rfl) (by decide) ?_
  refine p_icmp_gt (tgt := 103) X (dcg dc_X12_readsText 51 rfl) (by decide) (fun q => ?_) (fun q => ?_)
  · have hf := if_t q hf
    refine p_pick [0, 1, 2] ?_
    exact wX12_readsText_b103 X hG hnm hf k0 kf
  · have hf := if_f q hf
    refine p_iload_n X (dcg dc_X12_readsText 52 rfl) rfl rfl ?_
    refine p_iload_n X (dcg dc_X12_readsText 53 rfl) rfl rfl ?_
    refine p_icmp_le (tgt := 111) X (dcg dc_X12_readsText 54 rfl) (by decide) (fun q => ?_) (fun q => ?_)
    · have hf := if_t q hf
      refine p_pick [0, 1, 2, 3] ?_
      exact wX12_readsText_b111 X hG hnm hf k0 kf
    · have hf := if_f q hf
      refine p_aload_n X (dcg dc_X12_readsText 55 rfl) rfl rfl ?_
      obtain ⟨hk22, hf⟩ := gd_some hf
      refine p_getI X fl_X12_173 rfl (by decide) (dcg dc_X12_readsText 56 rfl) hk22 ?_
      refine p_bipush (v := 40) X (dcg dc_X12_readsText 57 rfl) (by decide) ?_
      refine p_icmp_ne (tgt := 111) X (dcg dc_X12_readsText 58 rfl) (by decide) (fun q => ?_) (fun q => ?_)
      · have hf := if_t q hf
        refine p_pick [0, 1, 2, 3] ?_
        exact wX12_readsText_b111 X hG hnm hf k0 kf
      · have hf := if_f q hf
        refine p_pick [0, 1, 2] ?_
        exact wX12_readsText_b103 X hG hnm hf k0 kf
noncomputable def fX12_readsText_b75 (v0 : Nat) (v1 : Int32) (v2 : Int32) (v3 : Int32) (h : PH) : Option ((Int32 × Int32) ⊕ ((Int32 × PH) ⊕ (Int32 × PH))) :=
  some (.inl ((v1 + 1), v3))
set_option maxRecDepth 100000 in
theorem mX12_readsText_b75 {v0 : Nat} {v1 : Int32} {v2 : Int32} {v3 : Int32} {h : PH} {x : ((Int32 × Int32) ⊕ ((Int32 × PH) ⊕ (Int32 × PH)))} (hf : fX12_readsText_b75 v0 v1 v2 v3 h = some x) : (∀ w9 : (Int32 × PH), x = .inr (.inl w9) → eqz h (hX (w9.2)) (hV (w9.2))) ∧ (∀ w9 : (Int32 × PH), x = .inr (.inr w9) → eqz h (hX w9.2) (hV w9.2)) := by
  unfold fX12_readsText_b75 at hf
  have hle := eqz_rf h
  have ee := Option.some.inj hf; subst ee
  exact ⟨(fun z e => nomatch e), (fun z e => nomatch e)⟩
set_option maxRecDepth 100000 in
theorem wX12_readsText_b75 {E : PE} {p : Program} {l : Launch} {e : Env} {s : State} {m : MethodId} {args : Array Value} {below : List Frame} {meth : Method} {c : Code} (X : Cx E p l e (rmv 2 0 0) s m args below meth c RX12 cX12_readsText 4 (some .boolean)) (hG : Gs E l) (hnm : meth.name = yX12_readsText.name) {v0 : Nat} {v1 : Int32} {v2 : Int32} {v3 : Int32} {h : PH} {r : (Int32 × PH)} {x : ((Int32 × Int32) ⊕ ((Int32 × PH) ⊕ (Int32 × PH)))} (hf : fX12_readsText_b75 v0 v1 v2 v3 h = some x) (k0 : ∀ z : (Int32 × Int32), x = .inl z → PW E p l e (rmv 2 0 0) s m args below meth c 4 0 0 (MQ below (QG E (fun v u => v = some (.int r.1) ∧ u = r.2)) args s 0 0 (pA E)) h 32 [(0, some (.ref v0)), (1, some (.int (z.1))), (2, some (.int v2)), (3, some (.int (z.2)))] []) (k1 : ∀ z : (Int32 × PH), x = .inr (.inl z) → PW E p l e (rmv 2 0 0) s m args below meth c 4 0 0 (MQ below (QG E (fun v u => v = some (.int r.1) ∧ u = r.2)) args s 0 0 (pA E)) (z.2) 12 [(0, some (.ref v0)), (1, some (.int (z.1)))] []) (kf : ∀ z : (Int32 × PH), x = .inr (.inr z) → z = r) : PW E p l e (rmv 2 0 0) s m args below meth c 4 0 0 (MQ below (QG E (fun v u => v = some (.int r.1) ∧ u = r.2)) args s 0 0 (pA E)) h 75 [(0, some (.ref v0)), (1, some (.int v1)), (2, some (.int v2)), (3, some (.int v3))] [] := by
  unfold fX12_readsText_b75 at hf
  refine p_iinc (v := 1) X (dcg dc_X12_readsText 45 rfl) rfl (by decide) (by decide) rfl ?_
  refine p_goto (tgt := 32) X (dcg dc_X12_readsText 46 rfl) (by decide) ?_
  refine p_pick [0, 1, 2, 3] ?_
  exact k0 _ (Option.some.inj hf).symm
noncomputable def fX12_readsText_c32 (v0 : Nat) (v1 : Int32) (v2 : Int32) (v3 : Int32) (h : PH) : Option ((Int32 × Int32) ⊕ ((Int32 × PH) ⊕ (Int32 × PH))) :=
  gd (hK h v0 = 12) (if ((hI h 12 v0 2) ≤ v1) then (mr (fX12_readsText_b81 v0 v1 v2 v3 h)) else
  gs (hR h 12 v0 1) (fun a25 =>
  gd (hK h a25 = 20 ∧ inb v1 (hN h a25)) (bd (fX12_letterOfByte (hI h 20 a25 (Int32.toNatClampNeg v1))) (fun z29 =>
  if (z29 ≤ 0) then (mr (fX12_readsText_b81 v0 v1 v2 v3 h)) else
  if ((6 : Int32) ≤ (v1 - v2)) then (fX12_readsText_b75 v0 v1 v2 v3 h) else
  gs (hR h 12 v0 1) (fun a32 =>
  gd (hK h a32 = 20 ∧ inb v1 (hN h a32)) (bd (fX12_letterOfByte (hI h 20 a32 (Int32.toNatClampNeg v1))) (fun z36 =>
  fX12_readsText_b75 v0 v1 v2 (((27 : Int32) * v3) + z36) h)))))))
set_option maxRecDepth 100000 in
theorem mX12_readsText_c32 {v0 : Nat} {v1 : Int32} {v2 : Int32} {v3 : Int32} {h : PH} {x : ((Int32 × Int32) ⊕ ((Int32 × PH) ⊕ (Int32 × PH)))} (hf : fX12_readsText_c32 v0 v1 v2 v3 h = some x) : (∀ w9 : (Int32 × PH), x = .inr (.inl w9) → eqz h (hX (w9.2)) (hV (w9.2))) ∧ (∀ w9 : (Int32 × PH), x = .inr (.inr w9) → eqz h (hX w9.2) (hV w9.2)) := by
  unfold fX12_readsText_c32 at hf
  have hle := eqz_rf h
  obtain ⟨hk12, hf⟩ := gd_some hf
  rcases ite_or hf with ⟨q, hf⟩ | ⟨q, hf⟩
  · have hf := if_t q hf
    obtain ⟨y23, hfm, rfl⟩ := mr_some hf; have hf := hfm; clear hfm
    obtain ⟨c0, cf⟩ := mX12_readsText_b81 hf
    exact ⟨fun z e => eqz_rt (c0 z (Sum.inr.inj (e))) hle, fun z e => eqz_rt (cf z (Sum.inr.inj (e))) hle⟩
  · have hf := if_f q hf
    obtain ⟨a25, e26, hf⟩ := gs_some hf
    obtain ⟨⟨hk28, hb27⟩, hf⟩ := gd_some hf
    obtain ⟨z29, hz29, hf⟩ := bd_some hf
    rcases ite_or hf with ⟨q, hf⟩ | ⟨q, hf⟩
    · have hf := if_t q hf
      obtain ⟨y30, hfm, rfl⟩ := mr_some hf; have hf := hfm; clear hfm
      obtain ⟨c0, cf⟩ := mX12_readsText_b81 hf
      exact ⟨fun z e => eqz_rt (c0 z (Sum.inr.inj (e))) hle, fun z e => eqz_rt (cf z (Sum.inr.inj (e))) hle⟩
    · have hf := if_f q hf
      rcases ite_or hf with ⟨q, hf⟩ | ⟨q, hf⟩
      · have hf := if_t q hf
        obtain ⟨c1, cf⟩ := mX12_readsText_b75 hf
        exact ⟨fun z e => eqz_rt (c1 z (e)) hle, fun z e => eqz_rt (cf z (e)) hle⟩
      · have hf := if_f q hf
        obtain ⟨a32, e33, hf⟩ := gs_some hf
        obtain ⟨⟨hk35, hb34⟩, hf⟩ := gd_some hf
        obtain ⟨z36, hz36, hf⟩ := bd_some hf
        obtain ⟨c1, cf⟩ := mX12_readsText_b75 hf
        exact ⟨fun z e => eqz_rt (c1 z (e)) hle, fun z e => eqz_rt (cf z (e)) hle⟩
set_option maxRecDepth 100000 in
theorem wX12_readsText_c32 {E : PE} {p : Program} {l : Launch} {e : Env} {s : State} {m : MethodId} {args : Array Value} {below : List Frame} {meth : Method} {c : Code} (X : Cx E p l e (rmv 2 0 0) s m args below meth c RX12 cX12_readsText 4 (some .boolean)) (hG : Gs E l) (hnm : meth.name = yX12_readsText.name) {v0 : Nat} {v1 : Int32} {v2 : Int32} {v3 : Int32} {h : PH} {r : (Int32 × PH)} {x : ((Int32 × Int32) ⊕ ((Int32 × PH) ⊕ (Int32 × PH)))} (hf : fX12_readsText_c32 v0 v1 v2 v3 h = some x) (k0 : ∀ z : (Int32 × Int32), x = .inl z → PW E p l e (rmv 2 0 0) s m args below meth c 4 0 0 (MQ below (QG E (fun v u => v = some (.int r.1) ∧ u = r.2)) args s 0 0 (pA E)) h 32 [(0, some (.ref v0)), (1, some (.int (z.1))), (2, some (.int v2)), (3, some (.int (z.2)))] []) (k1 : ∀ z : (Int32 × PH), x = .inr (.inl z) → PW E p l e (rmv 2 0 0) s m args below meth c 4 0 0 (MQ below (QG E (fun v u => v = some (.int r.1) ∧ u = r.2)) args s 0 0 (pA E)) (z.2) 12 [(0, some (.ref v0)), (1, some (.int (z.1)))] []) (kf : ∀ z : (Int32 × PH), x = .inr (.inr z) → z = r) : PW E p l e (rmv 2 0 0) s m args below meth c 4 0 0 (MQ below (QG E (fun v u => v = some (.int r.1) ∧ u = r.2)) args s 0 0 (pA E)) h 32 [(0, some (.ref v0)), (1, some (.int v1)), (2, some (.int v2)), (3, some (.int v3))] [] := by
  unfold fX12_readsText_c32 at hf
  refine p_iload_n X (dcg dc_X12_readsText 20 rfl) rfl rfl ?_
  refine p_aload_n X (dcg dc_X12_readsText 21 rfl) rfl rfl ?_
  obtain ⟨hk12, hf⟩ := gd_some hf
  refine p_getI X fl_X12_163 rfl (by decide) (dcg dc_X12_readsText 22 rfl) hk12 ?_
  refine p_icmp_ge (tgt := 81) X (dcg dc_X12_readsText 23 rfl) (by decide) (fun q => ?_) (fun q => ?_)
  · have hf := if_t q hf
    obtain ⟨y23, hf, hy24⟩ := mr_some hf
    refine p_pick [0, 1, 2, 3] ?_
    exact wX12_readsText_b81 X hG hnm hf (fun z0 e0 => k1 z0 (hy24.trans (congrArg Sum.inr e0))) (fun z0 e0 => kf z0 (hy24.trans (congrArg Sum.inr e0)))
  · have hf := if_f q hf
    refine p_aload_n X (dcg dc_X12_readsText 24 rfl) rfl rfl ?_
    refine p_getR X fl_X12_13 rfl (by decide) (dcg dc_X12_readsText 25 rfl) hk12 ?_
    refine p_iload_n X (dcg dc_X12_readsText 26 rfl) rfl rfl ?_
    obtain ⟨a25, e26, hf⟩ := gs_some hf
    first | subst e26 | (try rw [e26])
    obtain ⟨⟨hk28, hb27⟩, hf⟩ := gd_some hf
    refine p_iald X (dcg dc_X12_readsText 27 rfl) hk28 (vp_of_inb hb27) ?_
    obtain ⟨z29, hz29, hf⟩ := bd_some hf
    refine p_callS (As := [_]) X ml_X12_176 (dcg dc_X12_readsText 28 rfl) rfl rfl  (wX12_letterOfByte hG hz29) (by decide) (room4 (Nat.le_of_ble_eq_true rfl)) (Nat.le_refl _) (Nat.le_refl _) ?_
    rintro _ u9 ⟨rfl, e9⟩; have e9 := e9.symm; subst e9
    refine p_if_le (tgt := 81) X (dcg dc_X12_readsText 29 rfl) (by decide) (fun q => ?_) (fun q => ?_)
    · have hf := if_t q hf
      obtain ⟨y30, hf, hy31⟩ := mr_some hf
      refine p_pick [0, 1, 2, 3] ?_
      exact wX12_readsText_b81 X hG hnm hf (fun z0 e0 => k1 z0 (hy31.trans (congrArg Sum.inr e0))) (fun z0 e0 => kf z0 (hy31.trans (congrArg Sum.inr e0)))
    · have hf := if_f q hf
      refine p_iload_n X (dcg dc_X12_readsText 30 rfl) rfl rfl ?_
      refine p_iload_n X (dcg dc_X12_readsText 31 rfl) rfl rfl ?_
      refine p_isub X (dcg dc_X12_readsText 32 rfl) ?_
      refine p_bipush (v := 6) X (dcg dc_X12_readsText 33 rfl) (by decide) ?_
      refine p_icmp_ge (tgt := 75) X (dcg dc_X12_readsText 34 rfl) (by decide) (fun q => ?_) (fun q => ?_)
      · have hf := if_t q hf
        refine p_pick [0, 1, 2, 3] ?_
        exact wX12_readsText_b75 X hG hnm hf k0 k1 kf
      · have hf := if_f q hf
        refine p_bipush (v := 27) X (dcg dc_X12_readsText 35 rfl) (by decide) ?_
        refine p_iload_n X (dcg dc_X12_readsText 36 rfl) rfl rfl ?_
        refine p_imul X (dcg dc_X12_readsText 37 rfl) ?_
        refine p_aload_n X (dcg dc_X12_readsText 38 rfl) rfl rfl ?_
        refine p_getR X fl_X12_13 rfl (by decide) (dcg dc_X12_readsText 39 rfl) hk12 ?_
        refine p_iload_n X (dcg dc_X12_readsText 40 rfl) rfl rfl ?_
        obtain ⟨a32, e33, hf⟩ := gs_some hf
        first | subst e33 | (try rw [e33])
        obtain ⟨⟨hk35, hb34⟩, hf⟩ := gd_some hf
        refine p_iald X (dcg dc_X12_readsText 41 rfl) hk35 (vp_of_inb hb34) ?_
        obtain ⟨z36, hz36, hf⟩ := bd_some hf
        refine p_callS (As := [_]) X ml_X12_176 (dcg dc_X12_readsText 42 rfl) rfl rfl  (wX12_letterOfByte hG hz36) (by decide) (room4 (Nat.le_of_ble_eq_true rfl)) (Nat.le_refl _) (Nat.le_refl _) ?_
        rintro _ u9 ⟨rfl, e9⟩; have e9 := e9.symm; subst e9
        refine p_iadd X (dcg dc_X12_readsText 43 rfl) ?_
        refine p_istore_n X (dcg dc_X12_readsText 44 rfl) rfl (by decide) rfl ?_
        refine p_pick [0, 1, 2, 3] ?_
        exact wX12_readsText_b75 X hG hnm hf k0 k1 kf
noncomputable def fX12_readsText_l32 (v0 : Nat) (v1 : Int32) (v2 : Int32) (v3 : Int32) (h : PH) : Option ((Int32 × PH) ⊕ (Int32 × PH)) := wh (fun z : (Int32 × Int32) => fX12_readsText_c32 v0 (z.1) v2 (z.2) h) (v1, v3)
set_option maxRecDepth 100000 in
theorem mX12_readsText_l32 {v0 : Nat} {v1 : Int32} {v2 : Int32} {v3 : Int32} {h : PH} {x : ((Int32 × PH) ⊕ (Int32 × PH))} (hf : fX12_readsText_l32 v0 v1 v2 v3 h = some x) : (∀ w9 : (Int32 × PH), x = .inl w9 → eqz h (hX (w9.2)) (hV (w9.2))) ∧ (∀ w9 : (Int32 × PH), x = .inr w9 → eqz h (hX w9.2) (hV w9.2)) := by
  unfold fX12_readsText_l32 at hf
  refine wh_ind (P := fun z => (∀ w9 : (Int32 × PH), x = .inl w9 → eqz h (hX (w9.2)) (hV (w9.2))) ∧ (∀ w9 : (Int32 × PH), x = .inr w9 → eqz h (hX w9.2) (hV w9.2))) (fun z x0 hs i1 i2 => ?_) _ hf
  obtain ⟨c1, cf⟩ := mX12_readsText_c32 (v0 := v0) (v1 := z.1) (v2 := v2) (v3 := z.2) (h := h) hs
  rcases hxx : x0 with zz | (zz | zz)
  · obtain ⟨d0, d1⟩ := (i1 zz hxx)
    exact ⟨d0, d1⟩
  · have ee := i2 _ hxx; subst ee
    exact ⟨(fun z1 e1 => by cases e1 <;> exact c1 zz hxx), (fun z1 e1 => nomatch e1)⟩
  · have ee := i2 _ hxx; subst ee
    exact ⟨(fun z1 e1 => nomatch e1), (fun z1 e1 => by cases e1; exact cf zz hxx)⟩
set_option maxRecDepth 100000 in
theorem wX12_readsText_l32 {E : PE} {p : Program} {l : Launch} {e : Env} {s : State} {m : MethodId} {args : Array Value} {below : List Frame} {meth : Method} {c : Code} (X : Cx E p l e (rmv 2 0 0) s m args below meth c RX12 cX12_readsText 4 (some .boolean)) (hG : Gs E l) (hnm : meth.name = yX12_readsText.name) {v0 : Nat} {v1 : Int32} {v2 : Int32} {v3 : Int32} {h : PH} {r : (Int32 × PH)} {x : ((Int32 × PH) ⊕ (Int32 × PH))} (hf : fX12_readsText_l32 v0 v1 v2 v3 h = some x) (k0 : ∀ z : (Int32 × PH), x = .inl z → PW E p l e (rmv 2 0 0) s m args below meth c 4 0 0 (MQ below (QG E (fun v u => v = some (.int r.1) ∧ u = r.2)) args s 0 0 (pA E)) (z.2) 12 [(0, some (.ref v0)), (1, some (.int (z.1)))] []) (kf : ∀ z : (Int32 × PH), x = .inr z → z = r) : PW E p l e (rmv 2 0 0) s m args below meth c 4 0 0 (MQ below (QG E (fun v u => v = some (.int r.1) ∧ u = r.2)) args s 0 0 (pA E)) h 32 [(0, some (.ref v0)), (1, some (.int v1)), (2, some (.int v2)), (3, some (.int v3))] [] := by
  unfold fX12_readsText_l32 at hf
  refine wh_ind (P := fun z => PW E p l e (rmv 2 0 0) s m args below meth c 4 0 0 (MQ below (QG E (fun v u => v = some (.int r.1) ∧ u = r.2)) args s 0 0 (pA E)) h 32 [(0, some (.ref v0)), (1, some (.int (z.1))), (2, some (.int v2)), (3, some (.int (z.2)))] []) (fun z x0 hs i1 i2 => ?_) _ hf
  exact wX12_readsText_c32 (r := r) (v0 := v0) (v1 := z.1) (v2 := v2) (v3 := z.2) (h := h) X hG hnm hs i1 (fun z1 e1 => k0 z1 (i2 _ e1).symm) (fun z1 e1 => kf z1 (i2 _ e1).symm)
noncomputable def fX12_readsText_c12 (v0 : Nat) (v1 : Int32) (h : PH) : Option ((Int32 × PH) ⊕ (Int32 × PH)) :=
  gd (hK h v0 = 12) (if ((hI h 12 v0 2) ≤ v1) then (mr (fX12_readsText_b145 v0 h)) else
  if (¬ (hI h 12 v0 3) = (-1 : Int32)) then (mr (fX12_readsText_b145 v0 h)) else
  fX12_readsText_l32 v0 v1 v1 (0 : Int32) h)
set_option maxRecDepth 100000 in
theorem mX12_readsText_c12 {v0 : Nat} {v1 : Int32} {h : PH} {x : ((Int32 × PH) ⊕ (Int32 × PH))} (hf : fX12_readsText_c12 v0 v1 h = some x) : (∀ w9 : (Int32 × PH), x = .inl w9 → eqz h (hX (w9.2)) (hV (w9.2))) ∧ (∀ w9 : (Int32 × PH), x = .inr w9 → eqz h (hX w9.2) (hV w9.2)) := by
  unfold fX12_readsText_c12 at hf
  have hle := eqz_rf h
  obtain ⟨hk4, hf⟩ := gd_some hf
  rcases ite_or hf with ⟨q, hf⟩ | ⟨q, hf⟩
  · have hf := if_t q hf
    obtain ⟨y8, hfm, rfl⟩ := mr_some hf; have hf := hfm; clear hfm
    have cf := mX12_readsText_b145 hf
    exact ⟨(fun z e => nomatch e), (fun z e => by cases e <;> exact eqz_rt cf hle)⟩
  · have hf := if_f q hf
    rcases ite_or hf with ⟨q, hf⟩ | ⟨q, hf⟩
    · have hf := if_t q hf
      obtain ⟨y10, hfm, rfl⟩ := mr_some hf; have hf := hfm; clear hfm
      have cf := mX12_readsText_b145 hf
      exact ⟨(fun z e => nomatch e), (fun z e => by cases e <;> exact eqz_rt cf hle)⟩
    · have hf := if_f q hf
      obtain ⟨c0, cf⟩ := mX12_readsText_l32 hf
      exact ⟨fun z e => eqz_rt (c0 z (e)) hle, fun z e => eqz_rt (cf z (e)) hle⟩
set_option maxRecDepth 100000 in
theorem wX12_readsText_c12 {E : PE} {p : Program} {l : Launch} {e : Env} {s : State} {m : MethodId} {args : Array Value} {below : List Frame} {meth : Method} {c : Code} (X : Cx E p l e (rmv 2 0 0) s m args below meth c RX12 cX12_readsText 4 (some .boolean)) (hG : Gs E l) (hnm : meth.name = yX12_readsText.name) {v0 : Nat} {v1 : Int32} {h : PH} {r : (Int32 × PH)} {x : ((Int32 × PH) ⊕ (Int32 × PH))} (hf : fX12_readsText_c12 v0 v1 h = some x) (k0 : ∀ z : (Int32 × PH), x = .inl z → PW E p l e (rmv 2 0 0) s m args below meth c 4 0 0 (MQ below (QG E (fun v u => v = some (.int r.1) ∧ u = r.2)) args s 0 0 (pA E)) (z.2) 12 [(0, some (.ref v0)), (1, some (.int (z.1)))] []) (kf : ∀ z : (Int32 × PH), x = .inr z → z = r) : PW E p l e (rmv 2 0 0) s m args below meth c 4 0 0 (MQ below (QG E (fun v u => v = some (.int r.1) ∧ u = r.2)) args s 0 0 (pA E)) h 12 [(0, some (.ref v0)), (1, some (.int v1))] [] := by
  unfold fX12_readsText_c12 at hf
  refine p_iload_n X (dcg dc_X12_readsText 8 rfl) rfl rfl ?_
  refine p_aload_n X (dcg dc_X12_readsText 9 rfl) rfl rfl ?_
  obtain ⟨hk4, hf⟩ := gd_some hf
  refine p_getI X fl_X12_163 rfl (by decide) (dcg dc_X12_readsText 10 rfl) hk4 ?_
  refine p_icmp_ge (tgt := 145) X (dcg dc_X12_readsText 11 rfl) (by decide) (fun q => ?_) (fun q => ?_)
  · have hf := if_t q hf
    obtain ⟨y8, hf, hy9⟩ := mr_some hf
    have hy9f := kf y8 hy9
    subst hy9f
    refine p_pick [0] ?_
    exact wX12_readsText_b145 X hG hnm hf 
  · have hf := if_f q hf
    refine p_aload_n X (dcg dc_X12_readsText 12 rfl) rfl rfl ?_
    refine p_getI X fl_X12_17 rfl (by decide) (dcg dc_X12_readsText 13 rfl) hk4 ?_
    refine p_iconst (v := -1) X (dcg dc_X12_readsText 14 rfl) (by decide) ?_
    refine p_icmp_ne (tgt := 145) X (dcg dc_X12_readsText 15 rfl) (by decide) (fun q => ?_) (fun q => ?_)
    · have hf := if_t q hf
      obtain ⟨y10, hf, hy11⟩ := mr_some hf
      have hy11f := kf y10 hy11
      subst hy11f
      refine p_pick [0] ?_
      exact wX12_readsText_b145 X hG hnm hf 
    · have hf := if_f q hf
      refine p_iload_n X (dcg dc_X12_readsText 16 rfl) rfl rfl ?_
      refine p_istore_n X (dcg dc_X12_readsText 17 rfl) rfl (by decide) rfl ?_
      refine p_iconst (v := 0) X (dcg dc_X12_readsText 18 rfl) (by decide) ?_
      refine p_istore_n X (dcg dc_X12_readsText 19 rfl) rfl (by decide) rfl ?_
      refine p_pick [0, 1, 2, 3] ?_
      exact wX12_readsText_l32 X hG hnm hf k0 kf
noncomputable def fX12_readsText_l12 (v0 : Nat) (v1 : Int32) (h : PH) : Option (Int32 × PH) := wh (fun z : (Int32 × PH) => fX12_readsText_c12 v0 (z.1) (z.2)) (v1, h)
set_option maxRecDepth 100000 in
theorem mX12_readsText_l12 {v0 : Nat} {v1 : Int32} {h : PH} {r : (Int32 × PH)} (hf : fX12_readsText_l12 v0 v1 h = some r) : eqz h (hX r.2) (hV r.2) := by
  unfold fX12_readsText_l12 at hf
  refine wh_ind (P := fun z => eqz (z.2) (hX r.2) (hV r.2)) (fun z x0 hs i1 i2 => ?_) _ hf
  obtain ⟨c0, cf⟩ := mX12_readsText_c12 (v0 := v0) (v1 := z.1) (h := z.2) hs
  rcases hxx : x0 with zz | zz
  · exact eqz_tr (c0 zz hxx) (i1 zz hxx)
  · have ee := i2 zz hxx; subst ee; exact cf zz hxx
set_option maxRecDepth 100000 in
theorem wX12_readsText_l12 {E : PE} {p : Program} {l : Launch} {e : Env} {s : State} {m : MethodId} {args : Array Value} {below : List Frame} {meth : Method} {c : Code} (X : Cx E p l e (rmv 2 0 0) s m args below meth c RX12 cX12_readsText 4 (some .boolean)) (hG : Gs E l) (hnm : meth.name = yX12_readsText.name) {v0 : Nat} {v1 : Int32} {h : PH} {r : (Int32 × PH)} (hf : fX12_readsText_l12 v0 v1 h = some r)  : PW E p l e (rmv 2 0 0) s m args below meth c 4 0 0 (MQ below (QG E (fun v u => v = some (.int r.1) ∧ u = r.2)) args s 0 0 (pA E)) h 12 [(0, some (.ref v0)), (1, some (.int v1))] [] := by
  unfold fX12_readsText_l12 at hf
  refine wh_ind (P := fun z => PW E p l e (rmv 2 0 0) s m args below meth c 4 0 0 (MQ below (QG E (fun v u => v = some (.int r.1) ∧ u = r.2)) args s 0 0 (pA E)) (z.2) 12 [(0, some (.ref v0)), (1, some (.int (z.1)))] []) (fun z x0 hs i1 i2 => ?_) _ hf
  exact wX12_readsText_c12 (r := r) (v0 := v0) (v1 := z.1) (h := z.2) X hG hnm hs i1  i2
noncomputable def fX12_readsText (v0 : Nat) (h : PH) : Option (Int32 × PH) :=
  gd (hK h v0 = 12) (lt (sI h 12 v0 8 (0 : Int32)) (fun h2 =>
  lt (sI h2 12 v0 3 (-1 : Int32)) (fun h3 =>
  fX12_readsText_l12 v0 (0 : Int32) h3)))
set_option maxRecDepth 100000 in
theorem mX12_readsText {v0 : Nat} {h : PH} {r : (Int32 × PH)} (hf : fX12_readsText v0 h = some r) : eqz h (hX r.2) (hV r.2) := by
  unfold fX12_readsText at hf
  have hle := eqz_rf h
  obtain ⟨hk1, hf⟩ := gd_some hf
  obtain ⟨h2, rfl, hf⟩ := lt_some hf
  obtain ⟨h3, rfl, hf⟩ := lt_some hf
  exact eqz_rt (mX12_readsText_l12 hf) hle
set_option maxRecDepth 100000 in
theorem wX12_readsText {E : PE} {l : Launch} (hG : Gs E l) {v0 : Nat} {h : PH} {r : (Int32 × PH)} (hf : fX12_readsText v0 h = some r) : Ct E l 2 0 0 yX12_readsText cX12_readsText 4 (some .boolean) [.ref v0] h (fun v u => v = some (.int r.1) ∧ u = r.2) := by
  refine ct_of hG (by decide) (Nat.le_of_ble_eq_true rfl) ?_
  intro p e s m args below meth c X hnm
  show PW E p l e _ s m args below meth c _ 0 0 _ h 0 [(0, some (.ref v0))] []
  unfold fX12_readsText at hf
  refine p_aload_n X (dcg dc_X12_readsText 0 rfl) rfl rfl ?_
  refine p_iconst (v := 0) X (dcg dc_X12_readsText 1 rfl) (by decide) ?_
  obtain ⟨hk1, hf⟩ := gd_some hf
  refine p_putI X fl_X12_173 rfl (by decide) (fun q hq => by cases hq; rfl) rfl rfl (dcg dc_X12_readsText 2 rfl) hk1 ?_
  obtain ⟨h2, rfl, hf⟩ := lt_some hf
  refine p_aload_n X (dcg dc_X12_readsText 3 rfl) rfl rfl ?_
  refine p_iconst (v := -1) X (dcg dc_X12_readsText 4 rfl) (by decide) ?_
  refine p_putI X fl_X12_17 rfl (by decide) (fun q hq => by cases hq; rfl) rfl rfl (dcg dc_X12_readsText 5 rfl) hk1 ?_
  obtain ⟨h3, rfl, hf⟩ := lt_some hf
  refine p_iconst (v := 0) X (dcg dc_X12_readsText 6 rfl) (by decide) ?_
  refine p_istore_n X (dcg dc_X12_readsText 7 rfl) rfl (by decide) rfl ?_
  refine p_pick [0, 1] ?_
  exact wX12_readsText_l12 X hG hnm hf 
theorem dc_X12_noText : decs cX12_noText [(0, .aload_n 0, 1), (1, .iload_n 1, 1), (2, .iconst 0, 1), (3, .bipush 99, 2), (5, .invokestatic 148, 3), (8, .ifCond .eq 16, 3), (11, .aload_n 0, 1), (12, .getfield 20, 3), (15, .iload_n 1, 1), (16, .baload, 1), (17, .ifCond .eq 7, 3), (20, .iconst 1, 1), (21, .goto 4, 3), (24, .iconst 0, 1), (25, .iconst 1, 1), (26, .invokevirtual 156, 3), (29, .ireturn, 1)] = true := by decide +kernel
noncomputable def fX12_noText_b25 (t0 : Option Nat) (t1 : Int32) (h : PH) : Option (Int32 × PH) :=
  gs t0 (fun a2 =>
  gd (hK h a2 = 12) (bd (fX12_fails a2 t1 (1 : Int32) h) (fun z5 =>
  gd (z5.1 &&& 1 = z5.1) (some ((z5.1, z5.2))))))
set_option maxRecDepth 100000 in
theorem mX12_noText_b25 {t0 : Option Nat} {t1 : Int32} {h : PH} {r : (Int32 × PH)} (hf : fX12_noText_b25 t0 t1 h = some r) : eqz h (hX r.2) (hV r.2) := by
  unfold fX12_noText_b25 at hf
  have hle := eqz_rf h
  obtain ⟨a2, e3, hf⟩ := gs_some hf
  obtain ⟨hk4, hf⟩ := gd_some hf
  obtain ⟨z5, hz5, hf⟩ := bd_some hf
  have hle := eqz_rt (mX12_fails hz5) hle
  obtain ⟨hg6, hf⟩ := gd_some hf
  have ee := Option.some.inj hf; subst ee; exact hle
set_option maxRecDepth 100000 in
theorem wX12_noText_b25 {E : PE} {p : Program} {l : Launch} {e : Env} {s : State} {m : MethodId} {args : Array Value} {below : List Frame} {meth : Method} {c : Code} (X : Cx E p l e (rmv 1 0 0) s m args below meth c RX12 cX12_noText 2 (some .boolean)) (hG : Gs E l) (hnm : meth.name = yX12_noText.name) {t0 : Option Nat} {t1 : Int32} {h : PH} {r : (Int32 × PH)} (hf : fX12_noText_b25 t0 t1 h = some r)  : PW E p l e (rmv 1 0 0) s m args below meth c 2 0 0 (MQ below (QG E (fun v u => v = some (.int r.1) ∧ u = r.2)) args s 0 0 (pA E)) h 25 [] [.int t1, va_rf t0] := by
  unfold fX12_noText_b25 at hf
  refine p_iconst (v := 1) X (dcg dc_X12_noText 14 rfl) (by decide) ?_
  obtain ⟨a2, e3, hf⟩ := gs_some hf
  first | subst e3 | (try rw [e3])
  obtain ⟨hk4, hf⟩ := gd_some hf
  obtain ⟨z5, hz5, hf⟩ := bd_some hf
  refine p_callV (As := [_, _]) X ml_X12_156 (dcg dc_X12_noText 15 rfl) rfl rfl hk4 (wX12_fails hG hz5) (by decide) (room4 (Nat.le_of_ble_eq_true rfl)) (Nat.le_refl _) (Nat.le_refl _) ?_
  rintro _ u9 ⟨rfl, e9⟩; have e9 := e9.symm; subst e9
  obtain ⟨hg6, hf⟩ := gd_some hf
  have er := Option.some.inj hf
  subst er
  exact p_zret X rfl (congrArg Value.int hg6) (dcg dc_X12_noText 16 rfl) ⟨rfl, rfl⟩ (Nat.le_refl _) (Nat.le_refl _)
noncomputable def fX12_noText_b24 (t0 : Option Nat) (h : PH) : Option (Int32 × PH) :=
  fX12_noText_b25 t0 (0 : Int32) h
set_option maxRecDepth 100000 in
theorem mX12_noText_b24 {t0 : Option Nat} {h : PH} {r : (Int32 × PH)} (hf : fX12_noText_b24 t0 h = some r) : eqz h (hX r.2) (hV r.2) := by
  unfold fX12_noText_b24 at hf
  have hle := eqz_rf h
  exact eqz_rt (mX12_noText_b25 hf) hle
set_option maxRecDepth 100000 in
theorem wX12_noText_b24 {E : PE} {p : Program} {l : Launch} {e : Env} {s : State} {m : MethodId} {args : Array Value} {below : List Frame} {meth : Method} {c : Code} (X : Cx E p l e (rmv 1 0 0) s m args below meth c RX12 cX12_noText 2 (some .boolean)) (hG : Gs E l) (hnm : meth.name = yX12_noText.name) {t0 : Option Nat} {h : PH} {r : (Int32 × PH)} (hf : fX12_noText_b24 t0 h = some r)  : PW E p l e (rmv 1 0 0) s m args below meth c 2 0 0 (MQ below (QG E (fun v u => v = some (.int r.1) ∧ u = r.2)) args s 0 0 (pA E)) h 24 [] [va_rf t0] := by
  unfold fX12_noText_b24 at hf
  refine p_iconst (v := 0) X (dcg dc_X12_noText 13 rfl) (by decide) ?_
  refine p_pick [] ?_
  exact wX12_noText_b25 X hG hnm hf 
noncomputable def fX12_noText (v0 : Nat) (v1 : Int32) (h : PH) : Option (Int32 × PH) :=
  bd (fX12_in v1 (0 : Int32) (99 : Int32)) (fun z1 =>
  if (z1 = 0) then (fX12_noText_b24 (some v0) h) else
  gd (hK h v0 = 12) (gs (hR h 12 v0 4) (fun a8 =>
  gd (hK h a8 = 21 ∧ inb v1 (hN h a8)) (if ((hI h 21 a8 (Int32.toNatClampNeg v1)) = 0) then (fX12_noText_b24 (some v0) h) else
  fX12_noText_b25 (some v0) (1 : Int32) h))))
set_option maxRecDepth 100000 in
theorem mX12_noText {v0 : Nat} {v1 : Int32} {h : PH} {r : (Int32 × PH)} (hf : fX12_noText v0 v1 h = some r) : eqz h (hX r.2) (hV r.2) := by
  unfold fX12_noText at hf
  have hle := eqz_rf h
  obtain ⟨z1, hz1, hf⟩ := bd_some hf
  rcases ite_or hf with ⟨q, hf⟩ | ⟨q, hf⟩
  · have hf := if_t q hf
    exact eqz_rt (mX12_noText_b24 hf) hle
  · have hf := if_f q hf
    obtain ⟨hk7, hf⟩ := gd_some hf
    obtain ⟨a8, e9, hf⟩ := gs_some hf
    obtain ⟨⟨hk11, hb10⟩, hf⟩ := gd_some hf
    rcases ite_or hf with ⟨q, hf⟩ | ⟨q, hf⟩
    · have hf := if_t q hf
      exact eqz_rt (mX12_noText_b24 hf) hle
    · have hf := if_f q hf
      exact eqz_rt (mX12_noText_b25 hf) hle
set_option maxRecDepth 100000 in
theorem wX12_noText {E : PE} {l : Launch} (hG : Gs E l) {v0 : Nat} {v1 : Int32} {h : PH} {r : (Int32 × PH)} (hf : fX12_noText v0 v1 h = some r) : Ct E l 1 0 0 yX12_noText cX12_noText 2 (some .boolean) [.ref v0, .int v1] h (fun v u => v = some (.int r.1) ∧ u = r.2) := by
  refine ct_of hG (by decide) (Nat.le_of_ble_eq_true rfl) ?_
  intro p e s m args below meth c X hnm
  show PW E p l e _ s m args below meth c _ 0 0 _ h 0 [(0, some (.ref v0)), (1, some (.int v1))] []
  unfold fX12_noText at hf
  refine p_aload_n X (dcg dc_X12_noText 0 rfl) rfl rfl ?_
  refine p_iload_n X (dcg dc_X12_noText 1 rfl) rfl rfl ?_
  refine p_iconst (v := 0) X (dcg dc_X12_noText 2 rfl) (by decide) ?_
  refine p_bipush (v := 99) X (dcg dc_X12_noText 3 rfl) (by decide) ?_
  obtain ⟨z1, hz1, hf⟩ := bd_some hf
  refine p_callS (As := [_, _, _]) X ml_X12_148 (dcg dc_X12_noText 4 rfl) rfl rfl  (wX12_in hG hz1) (by decide) (room4 (Nat.le_of_ble_eq_true rfl)) (Nat.le_refl _) (Nat.le_refl _) ?_
  rintro _ u9 ⟨rfl, e9⟩; have e9 := e9.symm; subst e9
  refine p_if_eq (tgt := 24) X (dcg dc_X12_noText 5 rfl) (by decide) (fun q => ?_) (fun q => ?_)
  · have hf := if_t q hf
    refine p_pick [] ?_
    exact wX12_noText_b24 X hG hnm hf 
  · have hf := if_f q hf
    refine p_aload_n X (dcg dc_X12_noText 6 rfl) rfl rfl ?_
    obtain ⟨hk7, hf⟩ := gd_some hf
    refine p_getR X fl_X12_20 rfl (by decide) (dcg dc_X12_noText 7 rfl) hk7 ?_
    refine p_iload_n X (dcg dc_X12_noText 8 rfl) rfl rfl ?_
    obtain ⟨a8, e9, hf⟩ := gs_some hf
    first | subst e9 | (try rw [e9])
    obtain ⟨⟨hk11, hb10⟩, hf⟩ := gd_some hf
    refine p_zald X (dcg dc_X12_noText 9 rfl) hk11 (vp_of_inb hb10) ?_
    refine p_if_eq (tgt := 24) X (dcg dc_X12_noText 10 rfl) (by decide) (fun q => ?_) (fun q => ?_)
    · have hf := if_t q hf
      refine p_pick [] ?_
      exact wX12_noText_b24 X hG hnm hf 
    · have hf := if_f q hf
      refine p_iconst (v := 1) X (dcg dc_X12_noText 11 rfl) (by decide) ?_
      refine p_goto (tgt := 25) X (dcg dc_X12_noText 12 rfl) (by decide) ?_
      refine p_pick [] ?_
      exact wX12_noText_b25 X hG hnm hf 
theorem dc_X12_wordIn : decs cX12_wordIn [(0, .aload_n 0, 1), (1, .getfield 24, 3), (4, .bipush 40, 2), (6, .iload_n 1, 1), (7, .imul, 1), (8, .iload_n 2, 1), (9, .iadd, 1), (10, .iaload, 1), (11, .ireturn, 1)] = true := by decide +kernel
noncomputable def fX12_wordIn (v0 : Nat) (v1 : Int32) (v2 : Int32) (h : PH) : Option Int32 :=
  gd (hK h v0 = 12) (gs (hR h 12 v0 5) (fun a2 =>
  gd (hK h a2 = 20 ∧ inb (((40 : Int32) * v1) + v2) (hN h a2)) (some ((hI h 20 a2 (Int32.toNatClampNeg (((40 : Int32) * v1) + v2)))))))
set_option maxRecDepth 100000 in
theorem wX12_wordIn {E : PE} {l : Launch} (hG : Gs E l) {v0 : Nat} {v1 : Int32} {v2 : Int32} {h : PH} {r : Int32} (hf : fX12_wordIn v0 v1 v2 h = some r) : Ct E l 0 0 0 yX12_wordIn cX12_wordIn 3 (some .int) [.ref v0, .int v1, .int v2] h (fun v u => v = some (.int r) ∧ u = h) := by
  refine ct_of hG (by decide) (Nat.le_of_ble_eq_true rfl) ?_
  intro p e s m args below meth c X hnm
  show PW E p l e _ s m args below meth c _ 0 0 _ h 0 [(0, some (.ref v0)), (1, some (.int v1)), (2, some (.int v2))] []
  unfold fX12_wordIn at hf
  refine p_aload_n X (dcg dc_X12_wordIn 0 rfl) rfl rfl ?_
  obtain ⟨hk1, hf⟩ := gd_some hf
  refine p_getR X fl_X12_24 rfl (by decide) (dcg dc_X12_wordIn 1 rfl) hk1 ?_
  refine p_bipush (v := 40) X (dcg dc_X12_wordIn 2 rfl) (by decide) ?_
  refine p_iload_n X (dcg dc_X12_wordIn 3 rfl) rfl rfl ?_
  refine p_imul X (dcg dc_X12_wordIn 4 rfl) ?_
  refine p_iload_n X (dcg dc_X12_wordIn 5 rfl) rfl rfl ?_
  refine p_iadd X (dcg dc_X12_wordIn 6 rfl) ?_
  obtain ⟨a2, e3, hf⟩ := gs_some hf
  first | subst e3 | (try rw [e3])
  obtain ⟨⟨hk5, hb4⟩, hf⟩ := gd_some hf
  refine p_iald X (dcg dc_X12_wordIn 7 rfl) hk5 (vp_of_inb hb4) ?_
  have er := Option.some.inj hf
  subst er
  exact p_iret X rfl (dcg dc_X12_wordIn 8 rfl) ⟨rfl, rfl⟩ (Nat.le_refl _) (Nat.le_refl _)
theorem dc_X12_countTexts : decs cX12_countTexts [(0, .iconst 0, 1), (1, .istore_n 1, 1), (2, .iconst 0, 1), (3, .istore_n 2, 1), (4, .iload_n 2, 1), (5, .bipush 100, 2), (7, .if_icmp .ge 26, 3), (10, .iload_n 1, 1), (11, .aload_n 0, 1), (12, .getfield 20, 3), (15, .iload_n 2, 1), (16, .baload, 1), (17, .ifCond .eq 7, 3), (20, .iconst 1, 1), (21, .goto 4, 3), (24, .iconst 0, 1), (25, .iadd, 1), (26, .istore_n 1, 1), (27, .iinc 2 1, 3), (30, .goto (-26), 3), (33, .iload_n 1, 1), (34, .ireturn, 1)] = true := by decide +kernel
noncomputable def fX12_countTexts_b25 (v0 : Nat) (v2 : Int32) (t0 : Int32) (t1 : Int32) (h : PH) : Option ((Int32 × Int32) ⊕ Int32) :=
  some (.inl ((t0 + t1), (v2 + 1)))
set_option maxRecDepth 100000 in
theorem wX12_countTexts_b25 {E : PE} {p : Program} {l : Launch} {e : Env} {s : State} {m : MethodId} {args : Array Value} {below : List Frame} {meth : Method} {c : Code} (X : Cx E p l e (rmv 0 0 0) s m args below meth c RX12 cX12_countTexts 3 (some .int)) (hG : Gs E l) (hnm : meth.name = yX12_countTexts.name) {v0 : Nat} {v2 : Int32} {t0 : Int32} {t1 : Int32} {h : PH} {r : Int32} {x : ((Int32 × Int32) ⊕ Int32)} (hf : fX12_countTexts_b25 v0 v2 t0 t1 h = some x) (k0 : ∀ z : (Int32 × Int32), x = .inl z → PW E p l e (rmv 0 0 0) s m args below meth c 3 0 0 (MQ below (QG E (fun v u => v = some (.int r) ∧ u = h)) args s 0 0 (pA E)) h 4 [(0, some (.ref v0)), (1, some (.int (z.1))), (2, some (.int (z.2)))] []) (kf : ∀ z : Int32, x = .inr z → z = r) : PW E p l e (rmv 0 0 0) s m args below meth c 3 0 0 (MQ below (QG E (fun v u => v = some (.int r) ∧ u = h)) args s 0 0 (pA E)) h 25 [(0, some (.ref v0)), (2, some (.int v2))] [.int t1, .int t0] := by
  unfold fX12_countTexts_b25 at hf
  refine p_iadd X (dcg dc_X12_countTexts 16 rfl) ?_
  refine p_istore_n X (dcg dc_X12_countTexts 17 rfl) rfl (by decide) rfl ?_
  refine p_iinc (v := 1) X (dcg dc_X12_countTexts 18 rfl) rfl (by decide) (by decide) rfl ?_
  refine p_goto (tgt := 4) X (dcg dc_X12_countTexts 19 rfl) (by decide) ?_
  refine p_pick [0, 1, 2] ?_
  exact k0 _ (Option.some.inj hf).symm
noncomputable def fX12_countTexts_c4 (v0 : Nat) (v1 : Int32) (v2 : Int32) (h : PH) : Option ((Int32 × Int32) ⊕ Int32) :=
  if ((100 : Int32) ≤ v2) then (mr (some (v1))) else
  gd (hK h v0 = 12) (gs (hR h 12 v0 4) (fun a4 =>
  gd (hK h a4 = 21 ∧ inb v2 (hN h a4)) (if ((hI h 21 a4 (Int32.toNatClampNeg v2)) = 0) then (fX12_countTexts_b25 v0 v2 v1 (0 : Int32) h) else
  fX12_countTexts_b25 v0 v2 v1 (1 : Int32) h)))
set_option maxRecDepth 100000 in
theorem wX12_countTexts_c4 {E : PE} {p : Program} {l : Launch} {e : Env} {s : State} {m : MethodId} {args : Array Value} {below : List Frame} {meth : Method} {c : Code} (X : Cx E p l e (rmv 0 0 0) s m args below meth c RX12 cX12_countTexts 3 (some .int)) (hG : Gs E l) (hnm : meth.name = yX12_countTexts.name) {v0 : Nat} {v1 : Int32} {v2 : Int32} {h : PH} {r : Int32} {x : ((Int32 × Int32) ⊕ Int32)} (hf : fX12_countTexts_c4 v0 v1 v2 h = some x) (k0 : ∀ z : (Int32 × Int32), x = .inl z → PW E p l e (rmv 0 0 0) s m args below meth c 3 0 0 (MQ below (QG E (fun v u => v = some (.int r) ∧ u = h)) args s 0 0 (pA E)) h 4 [(0, some (.ref v0)), (1, some (.int (z.1))), (2, some (.int (z.2)))] []) (kf : ∀ z : Int32, x = .inr z → z = r) : PW E p l e (rmv 0 0 0) s m args below meth c 3 0 0 (MQ below (QG E (fun v u => v = some (.int r) ∧ u = h)) args s 0 0 (pA E)) h 4 [(0, some (.ref v0)), (1, some (.int v1)), (2, some (.int v2))] [] := by
  unfold fX12_countTexts_c4 at hf
  refine p_iload_n X (dcg dc_X12_countTexts 4 rfl) rfl rfl ?_
  refine p_bipush (v := 100) X (dcg dc_X12_countTexts 5 rfl) (by decide) ?_
  refine p_icmp_ge (tgt := 33) X (dcg dc_X12_countTexts 6 rfl) (by decide) (fun q => ?_) (fun q => ?_)
  · have hf := if_t q hf
    obtain ⟨y1, hf, hy2⟩ := mr_some hf
    have hy2f := kf y1 hy2
    subst hy2f
    refine p_iload_n X (dcg dc_X12_countTexts 20 rfl) rfl rfl ?_
    have er := Option.some.inj hf
    subst er
    exact p_iret X rfl (dcg dc_X12_countTexts 21 rfl) ⟨rfl, rfl⟩ (Nat.le_refl _) (Nat.le_refl _)
  · have hf := if_f q hf
    refine p_iload_n X (dcg dc_X12_countTexts 7 rfl) rfl rfl ?_
    refine p_aload_n X (dcg dc_X12_countTexts 8 rfl) rfl rfl ?_
    obtain ⟨hk3, hf⟩ := gd_some hf
    refine p_getR X fl_X12_20 rfl (by decide) (dcg dc_X12_countTexts 9 rfl) hk3 ?_
    refine p_iload_n X (dcg dc_X12_countTexts 10 rfl) rfl rfl ?_
    obtain ⟨a4, e5, hf⟩ := gs_some hf
    first | subst e5 | (try rw [e5])
    obtain ⟨⟨hk7, hb6⟩, hf⟩ := gd_some hf
    refine p_zald X (dcg dc_X12_countTexts 11 rfl) hk7 (vp_of_inb hb6) ?_
    refine p_if_eq (tgt := 24) X (dcg dc_X12_countTexts 12 rfl) (by decide) (fun q => ?_) (fun q => ?_)
    · have hf := if_t q hf
      refine p_iconst (v := 0) X (dcg dc_X12_countTexts 15 rfl) (by decide) ?_
      refine p_pick [0, 2] ?_
      exact wX12_countTexts_b25 X hG hnm hf k0 kf
    · have hf := if_f q hf
      refine p_iconst (v := 1) X (dcg dc_X12_countTexts 13 rfl) (by decide) ?_
      refine p_goto (tgt := 25) X (dcg dc_X12_countTexts 14 rfl) (by decide) ?_
      refine p_pick [0, 2] ?_
      exact wX12_countTexts_b25 X hG hnm hf k0 kf
noncomputable def fX12_countTexts_l4 (v0 : Nat) (v1 : Int32) (v2 : Int32) (h : PH) : Option Int32 := wh (fun z : (Int32 × Int32) => fX12_countTexts_c4 v0 (z.1) (z.2) h) (v1, v2)
set_option maxRecDepth 100000 in
theorem wX12_countTexts_l4 {E : PE} {p : Program} {l : Launch} {e : Env} {s : State} {m : MethodId} {args : Array Value} {below : List Frame} {meth : Method} {c : Code} (X : Cx E p l e (rmv 0 0 0) s m args below meth c RX12 cX12_countTexts 3 (some .int)) (hG : Gs E l) (hnm : meth.name = yX12_countTexts.name) {v0 : Nat} {v1 : Int32} {v2 : Int32} {h : PH} {r : Int32} (hf : fX12_countTexts_l4 v0 v1 v2 h = some r)  : PW E p l e (rmv 0 0 0) s m args below meth c 3 0 0 (MQ below (QG E (fun v u => v = some (.int r) ∧ u = h)) args s 0 0 (pA E)) h 4 [(0, some (.ref v0)), (1, some (.int v1)), (2, some (.int v2))] [] := by
  unfold fX12_countTexts_l4 at hf
  refine wh_ind (P := fun z => PW E p l e (rmv 0 0 0) s m args below meth c 3 0 0 (MQ below (QG E (fun v u => v = some (.int r) ∧ u = h)) args s 0 0 (pA E)) h 4 [(0, some (.ref v0)), (1, some (.int (z.1))), (2, some (.int (z.2)))] []) (fun z x0 hs i1 i2 => ?_) _ hf
  exact wX12_countTexts_c4 (r := r) (v0 := v0) (v1 := z.1) (v2 := z.2) (h := h) X hG hnm hs i1  i2
noncomputable def fX12_countTexts (v0 : Nat) (h : PH) : Option Int32 :=
  fX12_countTexts_l4 v0 (0 : Int32) (0 : Int32) h
set_option maxRecDepth 100000 in
theorem wX12_countTexts {E : PE} {l : Launch} (hG : Gs E l) {v0 : Nat} {h : PH} {r : Int32} (hf : fX12_countTexts v0 h = some r) : Ct E l 0 0 0 yX12_countTexts cX12_countTexts 3 (some .int) [.ref v0] h (fun v u => v = some (.int r) ∧ u = h) := by
  refine ct_of hG (by decide) (Nat.le_of_ble_eq_true rfl) ?_
  intro p e s m args below meth c X hnm
  show PW E p l e _ s m args below meth c _ 0 0 _ h 0 [(0, some (.ref v0))] []
  unfold fX12_countTexts at hf
  refine p_iconst (v := 0) X (dcg dc_X12_countTexts 0 rfl) (by decide) ?_
  refine p_istore_n X (dcg dc_X12_countTexts 1 rfl) rfl (by decide) rfl ?_
  refine p_iconst (v := 0) X (dcg dc_X12_countTexts 2 rfl) (by decide) ?_
  refine p_istore_n X (dcg dc_X12_countTexts 3 rfl) rfl (by decide) rfl ?_
  refine p_pick [0, 1, 2] ?_
  exact wX12_countTexts_l4 X hG hnm hf 
theorem dc_X12_standsAt : decs cX12_standsAt [(0, .aload_n 0, 1), (1, .getfield 66, 3), (4, .sipush 400, 3), (7, .iload_n 1, 1), (8, .imul, 1), (9, .iload_n 2, 1), (10, .iadd, 1), (11, .iaload, 1), (12, .istore 5, 2), (14, .iload 4, 2), (16, .iload 5, 2), (18, .iadd, 1), (19, .aload_n 0, 1), (20, .getfield 27, 3), (23, .iload_n 3, 1), (24, .iaload, 1), (25, .if_icmp .le 5, 3), (28, .iconst 0, 1), (29, .ireturn, 1), (30, .iconst 0, 1), (31, .istore 6, 2), (33, .iload 6, 2), (35, .iload 5, 2), (37, .if_icmp .ge 49, 3), (40, .aload_n 0, 1), (41, .iload_n 3, 1), (42, .iload 4, 2), (44, .iload 6, 2), (46, .iadd, 1), (47, .invokevirtual 186, 3), (50, .aload_n 0, 1), (51, .getfield 78, 3), (54, .bipush 20, 2), (56, .iload_n 1, 1), (57, .imul, 1), (58, .aload_n 0, 1), (59, .getfield 63, 3), (62, .sipush 400, 3), (65, .iload_n 1, 1), (66, .imul, 1), (67, .iload_n 2, 1), (68, .iadd, 1), (69, .iaload, 1), (70, .iadd, 1), (71, .iload 6, 2), (73, .iadd, 1), (74, .iaload, 1), (75, .if_icmp .eq 5, 3), (78, .iconst 0, 1), (79, .ireturn, 1), (80, .iinc 6 1, 3), (83, .goto (-50), 3), (86, .iconst 1, 1), (87, .ireturn, 1)] = true := by decide +kernel
noncomputable def fX12_standsAt_c33 (v0 : Nat) (v1 : Int32) (v2 : Int32) (v3 : Int32) (v4 : Int32) (v5 : Int32) (v6 : Int32) (h : PH) : Option ((Int32) ⊕ Int32) :=
  if (v5 ≤ v6) then (mr (some ((1 : Int32)))) else
  gd (hK h v0 = 12) (bd (fX12_wordIn v0 v3 (v4 + v6) h) (fun z13 =>
  gs (hR h 12 v0 26) (fun a14 =>
  gd (hK h a14 = 20 ∧ inb (((400 : Int32) * v1) + v2) (hN h a14)) (gs (hR h 12 v0 31) (fun a18 =>
  gd (hK h a18 = 20 ∧ inb ((((20 : Int32) * v1) + (hI h 20 a14 (Int32.toNatClampNeg (((400 : Int32) * v1) + v2)))) + v6) (hN h a18)) (if (z13 = (hI h 20 a18 (Int32.toNatClampNeg ((((20 : Int32) * v1) + (hI h 20 a14 (Int32.toNatClampNeg (((400 : Int32) * v1) + v2)))) + v6)))) then (some (.inl ((v6 + 1)))) else
  mr (some ((0 : Int32)))))))))
set_option maxRecDepth 100000 in
theorem wX12_standsAt_c33 {E : PE} {p : Program} {l : Launch} {e : Env} {s : State} {m : MethodId} {args : Array Value} {below : List Frame} {meth : Method} {c : Code} (X : Cx E p l e (rmv 1 0 0) s m args below meth c RX12 cX12_standsAt 7 (some .boolean)) (hG : Gs E l) (hnm : meth.name = yX12_standsAt.name) {v0 : Nat} {v1 : Int32} {v2 : Int32} {v3 : Int32} {v4 : Int32} {v5 : Int32} {v6 : Int32} {h : PH} {r : Int32} {x : ((Int32) ⊕ Int32)} (hf : fX12_standsAt_c33 v0 v1 v2 v3 v4 v5 v6 h = some x) (k0 : ∀ z : (Int32), x = .inl z → PW E p l e (rmv 1 0 0) s m args below meth c 7 0 0 (MQ below (QG E (fun v u => v = some (.int r) ∧ u = h)) args s 0 0 (pA E)) h 33 [(0, some (.ref v0)), (1, some (.int v1)), (2, some (.int v2)), (3, some (.int v3)), (4, some (.int v4)), (5, some (.int v5)), (6, some (.int (z)))] []) (kf : ∀ z : Int32, x = .inr z → z = r) : PW E p l e (rmv 1 0 0) s m args below meth c 7 0 0 (MQ below (QG E (fun v u => v = some (.int r) ∧ u = h)) args s 0 0 (pA E)) h 33 [(0, some (.ref v0)), (1, some (.int v1)), (2, some (.int v2)), (3, some (.int v3)), (4, some (.int v4)), (5, some (.int v5)), (6, some (.int v6))] [] := by
  unfold fX12_standsAt_c33 at hf
  refine p_iload X (dcg dc_X12_standsAt 21 rfl) rfl ?_
  refine p_iload X (dcg dc_X12_standsAt 22 rfl) rfl ?_
  refine p_icmp_ge (tgt := 86) X (dcg dc_X12_standsAt 23 rfl) (by decide) (fun q => ?_) (fun q => ?_)
  · have hf := if_t q hf
    obtain ⟨y10, hf, hy11⟩ := mr_some hf
    have hy11f := kf y10 hy11
    subst hy11f
    refine p_iconst (v := 1) X (dcg dc_X12_standsAt 52 rfl) (by decide) ?_
    have er := Option.some.inj hf
    subst er
    exact p_zret X rfl rfl (dcg dc_X12_standsAt 53 rfl) ⟨rfl, rfl⟩ (Nat.le_refl _) (Nat.le_refl _)
  · have hf := if_f q hf
    refine p_aload_n X (dcg dc_X12_standsAt 24 rfl) rfl rfl ?_
    refine p_iload_n X (dcg dc_X12_standsAt 25 rfl) rfl rfl ?_
    refine p_iload X (dcg dc_X12_standsAt 26 rfl) rfl ?_
    refine p_iload X (dcg dc_X12_standsAt 27 rfl) rfl ?_
    refine p_iadd X (dcg dc_X12_standsAt 28 rfl) ?_
    obtain ⟨hk12, hf⟩ := gd_some hf
    obtain ⟨z13, hz13, hf⟩ := bd_some hf
    refine p_callV (As := [_, _]) X ml_X12_186 (dcg dc_X12_standsAt 29 rfl) rfl rfl hk12 (wX12_wordIn hG hz13) (by decide) (room4 (Nat.le_of_ble_eq_true rfl)) (Nat.le_refl _) (Nat.le_refl _) ?_
    rintro _ u9 ⟨rfl, e9⟩; have e9 := e9.symm; subst e9
    refine p_aload_n X (dcg dc_X12_standsAt 30 rfl) rfl rfl ?_
    refine p_getR X fl_X12_78 rfl (by decide) (dcg dc_X12_standsAt 31 rfl) hk12 ?_
    refine p_bipush (v := 20) X (dcg dc_X12_standsAt 32 rfl) (by decide) ?_
    refine p_iload_n X (dcg dc_X12_standsAt 33 rfl) rfl rfl ?_
    refine p_imul X (dcg dc_X12_standsAt 34 rfl) ?_
    refine p_aload_n X (dcg dc_X12_standsAt 35 rfl) rfl rfl ?_
    refine p_getR X fl_X12_63 rfl (by decide) (dcg dc_X12_standsAt 36 rfl) hk12 ?_
    refine p_sipush (v := 400) X (dcg dc_X12_standsAt 37 rfl) (by decide) ?_
    refine p_iload_n X (dcg dc_X12_standsAt 38 rfl) rfl rfl ?_
    refine p_imul X (dcg dc_X12_standsAt 39 rfl) ?_
    refine p_iload_n X (dcg dc_X12_standsAt 40 rfl) rfl rfl ?_
    refine p_iadd X (dcg dc_X12_standsAt 41 rfl) ?_
    obtain ⟨a14, e15, hf⟩ := gs_some hf
    first | subst e15 | (try rw [e15])
    obtain ⟨⟨hk17, hb16⟩, hf⟩ := gd_some hf
    refine p_iald X (dcg dc_X12_standsAt 42 rfl) hk17 (vp_of_inb hb16) ?_
    refine p_iadd X (dcg dc_X12_standsAt 43 rfl) ?_
    refine p_iload X (dcg dc_X12_standsAt 44 rfl) rfl ?_
    refine p_iadd X (dcg dc_X12_standsAt 45 rfl) ?_
    obtain ⟨a18, e19, hf⟩ := gs_some hf
    first | subst e19 | (try rw [e19])
    obtain ⟨⟨hk21, hb20⟩, hf⟩ := gd_some hf
    refine p_iald X (dcg dc_X12_standsAt 46 rfl) hk21 (vp_of_inb hb20) ?_
    refine p_icmp_eq (tgt := 80) X (dcg dc_X12_standsAt 47 rfl) (by decide) (fun q => ?_) (fun q => ?_)
    · have hf := if_t q hf
      refine p_iinc (v := 1) X (dcg dc_X12_standsAt 50 rfl) rfl (by decide) (by decide) rfl ?_
      refine p_goto (tgt := 33) X (dcg dc_X12_standsAt 51 rfl) (by decide) ?_
      refine p_pick [0, 1, 2, 3, 4, 5, 6] ?_
      exact k0 _ (Option.some.inj hf).symm
    · have hf := if_f q hf
      obtain ⟨y22, hf, hy23⟩ := mr_some hf
      have hy23f := kf y22 hy23
      subst hy23f
      refine p_iconst (v := 0) X (dcg dc_X12_standsAt 48 rfl) (by decide) ?_
      have er := Option.some.inj hf
      subst er
      exact p_zret X rfl rfl (dcg dc_X12_standsAt 49 rfl) ⟨rfl, rfl⟩ (Nat.le_refl _) (Nat.le_refl _)
noncomputable def fX12_standsAt_l33 (v0 : Nat) (v1 : Int32) (v2 : Int32) (v3 : Int32) (v4 : Int32) (v5 : Int32) (v6 : Int32) (h : PH) : Option Int32 := wh (fun z : (Int32) => fX12_standsAt_c33 v0 v1 v2 v3 v4 v5 (z) h) (v6)
set_option maxRecDepth 100000 in
theorem wX12_standsAt_l33 {E : PE} {p : Program} {l : Launch} {e : Env} {s : State} {m : MethodId} {args : Array Value} {below : List Frame} {meth : Method} {c : Code} (X : Cx E p l e (rmv 1 0 0) s m args below meth c RX12 cX12_standsAt 7 (some .boolean)) (hG : Gs E l) (hnm : meth.name = yX12_standsAt.name) {v0 : Nat} {v1 : Int32} {v2 : Int32} {v3 : Int32} {v4 : Int32} {v5 : Int32} {v6 : Int32} {h : PH} {r : Int32} (hf : fX12_standsAt_l33 v0 v1 v2 v3 v4 v5 v6 h = some r)  : PW E p l e (rmv 1 0 0) s m args below meth c 7 0 0 (MQ below (QG E (fun v u => v = some (.int r) ∧ u = h)) args s 0 0 (pA E)) h 33 [(0, some (.ref v0)), (1, some (.int v1)), (2, some (.int v2)), (3, some (.int v3)), (4, some (.int v4)), (5, some (.int v5)), (6, some (.int v6))] [] := by
  unfold fX12_standsAt_l33 at hf
  refine wh_ind (P := fun z => PW E p l e (rmv 1 0 0) s m args below meth c 7 0 0 (MQ below (QG E (fun v u => v = some (.int r) ∧ u = h)) args s 0 0 (pA E)) h 33 [(0, some (.ref v0)), (1, some (.int v1)), (2, some (.int v2)), (3, some (.int v3)), (4, some (.int v4)), (5, some (.int v5)), (6, some (.int (z)))] []) (fun z x0 hs i1 i2 => ?_) _ hf
  exact wX12_standsAt_c33 (r := r) (v0 := v0) (v1 := v1) (v2 := v2) (v3 := v3) (v4 := v4) (v5 := v5) (v6 := z) (h := h) X hG hnm hs i1  i2
noncomputable def fX12_standsAt (v0 : Nat) (v1 : Int32) (v2 : Int32) (v3 : Int32) (v4 : Int32) (h : PH) : Option Int32 :=
  gd (hK h v0 = 12) (gs (hR h 12 v0 27) (fun a2 =>
  gd (hK h a2 = 20 ∧ inb (((400 : Int32) * v1) + v2) (hN h a2)) (gs (hR h 12 v0 6) (fun a6 =>
  gd (hK h a6 = 20 ∧ inb v3 (hN h a6)) (if ((v4 + (hI h 20 a2 (Int32.toNatClampNeg (((400 : Int32) * v1) + v2)))) ≤ (hI h 20 a6 (Int32.toNatClampNeg v3))) then (fX12_standsAt_l33 v0 v1 v2 v3 v4 (hI h 20 a2 (Int32.toNatClampNeg (((400 : Int32) * v1) + v2))) (0 : Int32) h) else
  some ((0 : Int32)))))))
set_option maxRecDepth 100000 in
theorem wX12_standsAt {E : PE} {l : Launch} (hG : Gs E l) {v0 : Nat} {v1 : Int32} {v2 : Int32} {v3 : Int32} {v4 : Int32} {h : PH} {r : Int32} (hf : fX12_standsAt v0 v1 v2 v3 v4 h = some r) : Ct E l 1 0 0 yX12_standsAt cX12_standsAt 7 (some .boolean) [.ref v0, .int v1, .int v2, .int v3, .int v4] h (fun v u => v = some (.int r) ∧ u = h) := by
  refine ct_of hG (by decide) (Nat.le_of_ble_eq_true rfl) ?_
  intro p e s m args below meth c X hnm
  show PW E p l e _ s m args below meth c _ 0 0 _ h 0 [(0, some (.ref v0)), (1, some (.int v1)), (2, some (.int v2)), (3, some (.int v3)), (4, some (.int v4))] []
  unfold fX12_standsAt at hf
  refine p_aload_n X (dcg dc_X12_standsAt 0 rfl) rfl rfl ?_
  obtain ⟨hk1, hf⟩ := gd_some hf
  refine p_getR X fl_X12_66 rfl (by decide) (dcg dc_X12_standsAt 1 rfl) hk1 ?_
  refine p_sipush (v := 400) X (dcg dc_X12_standsAt 2 rfl) (by decide) ?_
  refine p_iload_n X (dcg dc_X12_standsAt 3 rfl) rfl rfl ?_
  refine p_imul X (dcg dc_X12_standsAt 4 rfl) ?_
  refine p_iload_n X (dcg dc_X12_standsAt 5 rfl) rfl rfl ?_
  refine p_iadd X (dcg dc_X12_standsAt 6 rfl) ?_
  obtain ⟨a2, e3, hf⟩ := gs_some hf
  first | subst e3 | (try rw [e3])
  obtain ⟨⟨hk5, hb4⟩, hf⟩ := gd_some hf
  refine p_iald X (dcg dc_X12_standsAt 7 rfl) hk5 (vp_of_inb hb4) ?_
  refine p_istore X (dcg dc_X12_standsAt 8 rfl) (by decide) rfl ?_
  refine p_iload X (dcg dc_X12_standsAt 9 rfl) rfl ?_
  refine p_iload X (dcg dc_X12_standsAt 10 rfl) rfl ?_
  refine p_iadd X (dcg dc_X12_standsAt 11 rfl) ?_
  refine p_aload_n X (dcg dc_X12_standsAt 12 rfl) rfl rfl ?_
  refine p_getR X fl_X12_27 rfl (by decide) (dcg dc_X12_standsAt 13 rfl) hk1 ?_
  refine p_iload_n X (dcg dc_X12_standsAt 14 rfl) rfl rfl ?_
  obtain ⟨a6, e7, hf⟩ := gs_some hf
  first | subst e7 | (try rw [e7])
  obtain ⟨⟨hk9, hb8⟩, hf⟩ := gd_some hf
  refine p_iald X (dcg dc_X12_standsAt 15 rfl) hk9 (vp_of_inb hb8) ?_
  refine p_icmp_le (tgt := 30) X (dcg dc_X12_standsAt 16 rfl) (by decide) (fun q => ?_) (fun q => ?_)
  · have hf := if_t q hf
    refine p_iconst (v := 0) X (dcg dc_X12_standsAt 19 rfl) (by decide) ?_
    refine p_istore X (dcg dc_X12_standsAt 20 rfl) (by decide) rfl ?_
    refine p_pick [0, 1, 2, 3, 4, 5, 6] ?_
    exact wX12_standsAt_l33 X hG hnm hf 
  · have hf := if_f q hf
    refine p_iconst (v := 0) X (dcg dc_X12_standsAt 17 rfl) (by decide) ?_
    have er := Option.some.inj hf
    subst er
    exact p_zret X rfl rfl (dcg dc_X12_standsAt 18 rfl) ⟨rfl, rfl⟩ (Nat.le_refl _) (Nat.le_refl _)
theorem dc_X12_meets : decs cX12_meets [(0, .sipush 400, 3), (3, .iload_n 1, 1), (4, .imul, 1), (5, .iload_n 2, 1), (6, .iadd, 1), (7, .istore 4, 2), (9, .iconst 0, 1), (10, .istore 5, 2), (12, .iconst 0, 1), (13, .istore 6, 2), (15, .aload_n 0, 1), (16, .getfield 20, 3), (19, .iload_n 3, 1), (20, .baload, 1), (21, .ifCond .eq 238, 3), (24, .iload 6, 2), (26, .aload_n 0, 1), (27, .getfield 27, 3), (30, .iload_n 3, 1), (31, .iaload, 1), (32, .if_icmp .ge 227, 3), (35, .aload_n 0, 1), (36, .iload_n 3, 1), (37, .iload 6, 2), (39, .invokevirtual 186, 3), (42, .istore 7, 2), (44, .aload_n 0, 1), (45, .getfield 60, 3), (48, .iload 4, 2), (50, .iaload, 1), (51, .ifCond .ne 25, 3), (54, .iload 5, 2), (56, .iload 7, 2), (58, .aload_n 0, 1), (59, .getfield 63, 3), (62, .iload 4, 2), (64, .iaload, 1), (65, .if_icmp .ne 7, 3), (68, .iconst 1, 1), (69, .goto 4, 3), (72, .iconst 0, 1), (73, .iadd, 1), (74, .istore 5, 2), (76, .aload_n 0, 1), (77, .getfield 60, 3), (80, .iload 4, 2), (82, .iaload, 1), (83, .iconst 1, 1), (84, .if_icmp .ne 28, 3), (87, .iload 5, 2), (89, .iload 7, 2), (91, .aload_n 0, 1), (92, .getfield 63, 3), (95, .iload 4, 2), (97, .iaload, 1), (98, .invokestatic 243, 3), (101, .ifCond .eq 7, 3), (104, .iconst 1, 1), (105, .goto 4, 3), (108, .iconst 0, 1), (109, .iadd, 1), (110, .istore 5, 2), (112, .aload_n 0, 1), (113, .getfield 60, 3), (116, .iload 4, 2), (118, .iaload, 1), (119, .iconst 3, 1), (120, .if_icmp .ne 25, 3), (123, .iload 5, 2), (125, .aload_n 0, 1), (126, .iload_n 1, 1), (127, .iload_n 2, 1), (128, .iload_n 3, 1), (129, .iload 6, 2), (131, .invokevirtual 336, 3), (134, .ifCond .eq 7, 3), (137, .iconst 1, 1), (138, .goto 4, 3), (141, .iconst 0, 1), (142, .iadd, 1), (143, .istore 5, 2), (145, .aload_n 0, 1), (146, .getfield 60, 3), (149, .iload 4, 2), (151, .iaload, 1), (152, .iconst 2, 1), (153, .if_icmp .ne 100, 3), (156, .iload 7, 2), (158, .aload_n 0, 1), (159, .getfield 63, 3), (162, .iload 4, 2), (164, .iaload, 1), (165, .if_icmp .eq 6, 3), (168, .goto 85, 3), (171, .iconst 0, 1), (172, .istore 8, 2), (174, .iload 8, 2), (176, .aload_n 0, 1), (177, .getfield 27, 3), (180, .iload_n 3, 1), (181, .iaload, 1), (182, .if_icmp .ge 71, 3), (185, .iload 5, 2), (187, .iload 8, 2), (189, .iload 6, 2), (191, .if_icmp .eq 52, 3), (194, .aload_n 0, 1), (195, .iload_n 3, 1), (196, .iload 8, 2), (198, .invokevirtual 186, 3), (201, .aload_n 0, 1), (202, .getfield 66, 3), (205, .iload 4, 2), (207, .iaload, 1), (208, .if_icmp .ne 35, 3), (211, .iload 8, 2), (213, .iload 6, 2), (215, .aload_n 0, 1), (216, .getfield 69, 3), (219, .iload 4, 2), (221, .iaload, 1), (222, .isub, 1), (223, .iload 6, 2), (225, .aload_n 0, 1), (226, .getfield 69, 3), (229, .iload 4, 2), (231, .iaload, 1), (232, .iadd, 1), (233, .invokestatic 148, 3), (236, .ifCond .eq 7, 3), (239, .iconst 1, 1), (240, .goto 4, 3), (243, .iconst 0, 1), (244, .iadd, 1), (245, .istore 5, 2), (247, .iinc 8 1, 3), (250, .goto (-76), 3), (253, .iinc 6 1, 3), (256, .goto (-241), 3), (259, .iload 5, 2), (261, .ireturn, 1)] = true := by decide +kernel
noncomputable def fX12_meets_b259 (v5 : Int32) (h : PH) : Option Int32 :=
  some (v5)
set_option maxRecDepth 100000 in
theorem wX12_meets_b259 {E : PE} {p : Program} {l : Launch} {e : Env} {s : State} {m : MethodId} {args : Array Value} {below : List Frame} {meth : Method} {c : Code} (X : Cx E p l e (rmv 2 0 0) s m args below meth c RX12 cX12_meets 9 (some .int)) (hG : Gs E l) (hnm : meth.name = yX12_meets.name) {v5 : Int32} {h : PH} {r : Int32} (hf : fX12_meets_b259 v5 h = some r)  : PW E p l e (rmv 2 0 0) s m args below meth c 9 0 0 (MQ below (QG E (fun v u => v = some (.int r) ∧ u = h)) args s 0 0 (pA E)) h 259 [(5, some (.int v5))] [] := by
  unfold fX12_meets_b259 at hf
  refine p_iload X (dcg dc_X12_meets 139 rfl) rfl ?_
  have er := Option.some.inj hf
  subst er
  exact p_iret X rfl (dcg dc_X12_meets 140 rfl) ⟨rfl, rfl⟩ (Nat.le_refl _) (Nat.le_refl _)
noncomputable def fX12_meets_b253 (v0 : Nat) (v1 : Int32) (v2 : Int32) (v3 : Int32) (v4 : Int32) (v5 : Int32) (v6 : Int32) (h : PH) : Option ((Int32 × Int32) ⊕ Int32) :=
  some (.inl (v5, (v6 + 1)))
set_option maxRecDepth 100000 in
theorem wX12_meets_b253 {E : PE} {p : Program} {l : Launch} {e : Env} {s : State} {m : MethodId} {args : Array Value} {below : List Frame} {meth : Method} {c : Code} (X : Cx E p l e (rmv 2 0 0) s m args below meth c RX12 cX12_meets 9 (some .int)) (hG : Gs E l) (hnm : meth.name = yX12_meets.name) {v0 : Nat} {v1 : Int32} {v2 : Int32} {v3 : Int32} {v4 : Int32} {v5 : Int32} {v6 : Int32} {h : PH} {r : Int32} {x : ((Int32 × Int32) ⊕ Int32)} (hf : fX12_meets_b253 v0 v1 v2 v3 v4 v5 v6 h = some x) (k0 : ∀ z : (Int32 × Int32), x = .inl z → PW E p l e (rmv 2 0 0) s m args below meth c 9 0 0 (MQ below (QG E (fun v u => v = some (.int r) ∧ u = h)) args s 0 0 (pA E)) h 15 [(0, some (.ref v0)), (1, some (.int v1)), (2, some (.int v2)), (3, some (.int v3)), (4, some (.int v4)), (5, some (.int (z.1))), (6, some (.int (z.2)))] []) (kf : ∀ z : Int32, x = .inr z → z = r) : PW E p l e (rmv 2 0 0) s m args below meth c 9 0 0 (MQ below (QG E (fun v u => v = some (.int r) ∧ u = h)) args s 0 0 (pA E)) h 253 [(0, some (.ref v0)), (1, some (.int v1)), (2, some (.int v2)), (3, some (.int v3)), (4, some (.int v4)), (5, some (.int v5)), (6, some (.int v6))] [] := by
  unfold fX12_meets_b253 at hf
  refine p_iinc (v := 1) X (dcg dc_X12_meets 137 rfl) rfl (by decide) (by decide) rfl ?_
  refine p_goto (tgt := 15) X (dcg dc_X12_meets 138 rfl) (by decide) ?_
  refine p_pick [0, 1, 2, 3, 4, 5, 6] ?_
  exact k0 _ (Option.some.inj hf).symm
noncomputable def fX12_meets_b244 (v0 : Nat) (v1 : Int32) (v2 : Int32) (v3 : Int32) (v4 : Int32) (v6 : Int32) (v8 : Int32) (t0 : Int32) (t1 : Int32) (h : PH) : Option ((Int32 × Int32) ⊕ ((Int32 × Int32) ⊕ Int32)) :=
  some (.inl ((t0 + t1), (v8 + 1)))
set_option maxRecDepth 100000 in
theorem wX12_meets_b244 {E : PE} {p : Program} {l : Launch} {e : Env} {s : State} {m : MethodId} {args : Array Value} {below : List Frame} {meth : Method} {c : Code} (X : Cx E p l e (rmv 2 0 0) s m args below meth c RX12 cX12_meets 9 (some .int)) (hG : Gs E l) (hnm : meth.name = yX12_meets.name) {v0 : Nat} {v1 : Int32} {v2 : Int32} {v3 : Int32} {v4 : Int32} {v6 : Int32} {v8 : Int32} {t0 : Int32} {t1 : Int32} {h : PH} {r : Int32} {x : ((Int32 × Int32) ⊕ ((Int32 × Int32) ⊕ Int32))} (hf : fX12_meets_b244 v0 v1 v2 v3 v4 v6 v8 t0 t1 h = some x) (k0 : ∀ z : (Int32 × Int32), x = .inl z → PW E p l e (rmv 2 0 0) s m args below meth c 9 0 0 (MQ below (QG E (fun v u => v = some (.int r) ∧ u = h)) args s 0 0 (pA E)) h 174 [(0, some (.ref v0)), (1, some (.int v1)), (2, some (.int v2)), (3, some (.int v3)), (4, some (.int v4)), (5, some (.int (z.1))), (6, some (.int v6)), (8, some (.int (z.2)))] []) (k1 : ∀ z : (Int32 × Int32), x = .inr (.inl z) → PW E p l e (rmv 2 0 0) s m args below meth c 9 0 0 (MQ below (QG E (fun v u => v = some (.int r) ∧ u = h)) args s 0 0 (pA E)) h 15 [(0, some (.ref v0)), (1, some (.int v1)), (2, some (.int v2)), (3, some (.int v3)), (4, some (.int v4)), (5, some (.int (z.1))), (6, some (.int (z.2)))] []) (kf : ∀ z : Int32, x = .inr (.inr z) → z = r) : PW E p l e (rmv 2 0 0) s m args below meth c 9 0 0 (MQ below (QG E (fun v u => v = some (.int r) ∧ u = h)) args s 0 0 (pA E)) h 244 [(0, some (.ref v0)), (1, some (.int v1)), (2, some (.int v2)), (3, some (.int v3)), (4, some (.int v4)), (6, some (.int v6)), (8, some (.int v8))] [.int t1, .int t0] := by
  unfold fX12_meets_b244 at hf
  refine p_iadd X (dcg dc_X12_meets 133 rfl) ?_
  refine p_istore X (dcg dc_X12_meets 134 rfl) (by decide) rfl ?_
  refine p_iinc (v := 1) X (dcg dc_X12_meets 135 rfl) rfl (by decide) (by decide) rfl ?_
  refine p_goto (tgt := 174) X (dcg dc_X12_meets 136 rfl) (by decide) ?_
  refine p_pick [0, 1, 2, 3, 4, 5, 6, 8] ?_
  exact k0 _ (Option.some.inj hf).symm
noncomputable def fX12_meets_b243 (v0 : Nat) (v1 : Int32) (v2 : Int32) (v3 : Int32) (v4 : Int32) (v6 : Int32) (v8 : Int32) (t0 : Int32) (h : PH) : Option ((Int32 × Int32) ⊕ ((Int32 × Int32) ⊕ Int32)) :=
  fX12_meets_b244 v0 v1 v2 v3 v4 v6 v8 t0 (0 : Int32) h
set_option maxRecDepth 100000 in
theorem wX12_meets_b243 {E : PE} {p : Program} {l : Launch} {e : Env} {s : State} {m : MethodId} {args : Array Value} {below : List Frame} {meth : Method} {c : Code} (X : Cx E p l e (rmv 2 0 0) s m args below meth c RX12 cX12_meets 9 (some .int)) (hG : Gs E l) (hnm : meth.name = yX12_meets.name) {v0 : Nat} {v1 : Int32} {v2 : Int32} {v3 : Int32} {v4 : Int32} {v6 : Int32} {v8 : Int32} {t0 : Int32} {h : PH} {r : Int32} {x : ((Int32 × Int32) ⊕ ((Int32 × Int32) ⊕ Int32))} (hf : fX12_meets_b243 v0 v1 v2 v3 v4 v6 v8 t0 h = some x) (k0 : ∀ z : (Int32 × Int32), x = .inl z → PW E p l e (rmv 2 0 0) s m args below meth c 9 0 0 (MQ below (QG E (fun v u => v = some (.int r) ∧ u = h)) args s 0 0 (pA E)) h 174 [(0, some (.ref v0)), (1, some (.int v1)), (2, some (.int v2)), (3, some (.int v3)), (4, some (.int v4)), (5, some (.int (z.1))), (6, some (.int v6)), (8, some (.int (z.2)))] []) (k1 : ∀ z : (Int32 × Int32), x = .inr (.inl z) → PW E p l e (rmv 2 0 0) s m args below meth c 9 0 0 (MQ below (QG E (fun v u => v = some (.int r) ∧ u = h)) args s 0 0 (pA E)) h 15 [(0, some (.ref v0)), (1, some (.int v1)), (2, some (.int v2)), (3, some (.int v3)), (4, some (.int v4)), (5, some (.int (z.1))), (6, some (.int (z.2)))] []) (kf : ∀ z : Int32, x = .inr (.inr z) → z = r) : PW E p l e (rmv 2 0 0) s m args below meth c 9 0 0 (MQ below (QG E (fun v u => v = some (.int r) ∧ u = h)) args s 0 0 (pA E)) h 243 [(0, some (.ref v0)), (1, some (.int v1)), (2, some (.int v2)), (3, some (.int v3)), (4, some (.int v4)), (6, some (.int v6)), (8, some (.int v8))] [.int t0] := by
  unfold fX12_meets_b243 at hf
  refine p_iconst (v := 0) X (dcg dc_X12_meets 132 rfl) (by decide) ?_
  refine p_pick [0, 1, 2, 3, 4, 6, 8] ?_
  exact wX12_meets_b244 X hG hnm hf k0 k1 kf
noncomputable def fX12_meets_c174 (v0 : Nat) (v1 : Int32) (v2 : Int32) (v3 : Int32) (v4 : Int32) (v5 : Int32) (v6 : Int32) (v8 : Int32) (h : PH) : Option ((Int32 × Int32) ⊕ ((Int32 × Int32) ⊕ Int32)) :=
  gd (hK h v0 = 12) (gs (hR h 12 v0 6) (fun a39 =>
  gd (hK h a39 = 20 ∧ inb v3 (hN h a39)) (if ((hI h 20 a39 (Int32.toNatClampNeg v3)) ≤ v8) then (mr (fX12_meets_b253 v0 v1 v2 v3 v4 v5 v6 h)) else
  if (v8 = v6) then (fX12_meets_b243 v0 v1 v2 v3 v4 v6 v8 v5 h) else
  bd (fX12_wordIn v0 v3 v8 h) (fun z45 =>
  gs (hR h 12 v0 27) (fun a46 =>
  gd (hK h a46 = 20 ∧ inb v4 (hN h a46)) (if (¬ z45 = (hI h 20 a46 (Int32.toNatClampNeg v4))) then (fX12_meets_b243 v0 v1 v2 v3 v4 v6 v8 v5 h) else
  gs (hR h 12 v0 28) (fun a50 =>
  gd (hK h a50 = 20 ∧ inb v4 (hN h a50)) (gs (hR h 12 v0 28) (fun a54 =>
  gd (hK h a54 = 20 ∧ inb v4 (hN h a54)) (bd (fX12_in v8 (v6 - (hI h 20 a50 (Int32.toNatClampNeg v4))) (v6 + (hI h 20 a54 (Int32.toNatClampNeg v4)))) (fun z58 =>
  if (z58 = 0) then (fX12_meets_b243 v0 v1 v2 v3 v4 v6 v8 v5 h) else
  fX12_meets_b244 v0 v1 v2 v3 v4 v6 v8 v5 (1 : Int32) h)))))))))))
set_option maxRecDepth 100000 in
theorem wX12_meets_c174 {E : PE} {p : Program} {l : Launch} {e : Env} {s : State} {m : MethodId} {args : Array Value} {below : List Frame} {meth : Method} {c : Code} (X : Cx E p l e (rmv 2 0 0) s m args below meth c RX12 cX12_meets 9 (some .int)) (hG : Gs E l) (hnm : meth.name = yX12_meets.name) {v0 : Nat} {v1 : Int32} {v2 : Int32} {v3 : Int32} {v4 : Int32} {v5 : Int32} {v6 : Int32} {v8 : Int32} {h : PH} {r : Int32} {x : ((Int32 × Int32) ⊕ ((Int32 × Int32) ⊕ Int32))} (hf : fX12_meets_c174 v0 v1 v2 v3 v4 v5 v6 v8 h = some x) (k0 : ∀ z : (Int32 × Int32), x = .inl z → PW E p l e (rmv 2 0 0) s m args below meth c 9 0 0 (MQ below (QG E (fun v u => v = some (.int r) ∧ u = h)) args s 0 0 (pA E)) h 174 [(0, some (.ref v0)), (1, some (.int v1)), (2, some (.int v2)), (3, some (.int v3)), (4, some (.int v4)), (5, some (.int (z.1))), (6, some (.int v6)), (8, some (.int (z.2)))] []) (k1 : ∀ z : (Int32 × Int32), x = .inr (.inl z) → PW E p l e (rmv 2 0 0) s m args below meth c 9 0 0 (MQ below (QG E (fun v u => v = some (.int r) ∧ u = h)) args s 0 0 (pA E)) h 15 [(0, some (.ref v0)), (1, some (.int v1)), (2, some (.int v2)), (3, some (.int v3)), (4, some (.int v4)), (5, some (.int (z.1))), (6, some (.int (z.2)))] []) (kf : ∀ z : Int32, x = .inr (.inr z) → z = r) : PW E p l e (rmv 2 0 0) s m args below meth c 9 0 0 (MQ below (QG E (fun v u => v = some (.int r) ∧ u = h)) args s 0 0 (pA E)) h 174 [(0, some (.ref v0)), (1, some (.int v1)), (2, some (.int v2)), (3, some (.int v3)), (4, some (.int v4)), (5, some (.int v5)), (6, some (.int v6)), (8, some (.int v8))] [] := by
  unfold fX12_meets_c174 at hf
  refine p_iload X (dcg dc_X12_meets 96 rfl) rfl ?_
  refine p_aload_n X (dcg dc_X12_meets 97 rfl) rfl rfl ?_
  obtain ⟨hk38, hf⟩ := gd_some hf
  refine p_getR X fl_X12_27 rfl (by decide) (dcg dc_X12_meets 98 rfl) hk38 ?_
  refine p_iload_n X (dcg dc_X12_meets 99 rfl) rfl rfl ?_
  obtain ⟨a39, e40, hf⟩ := gs_some hf
  first | subst e40 | (try rw [e40])
  obtain ⟨⟨hk42, hb41⟩, hf⟩ := gd_some hf
  refine p_iald X (dcg dc_X12_meets 100 rfl) hk42 (vp_of_inb hb41) ?_
  refine p_icmp_ge (tgt := 253) X (dcg dc_X12_meets 101 rfl) (by decide) (fun q => ?_) (fun q => ?_)
  · have hf := if_t q hf
    obtain ⟨y43, hf, hy44⟩ := mr_some hf
    refine p_pick [0, 1, 2, 3, 4, 5, 6] ?_
    exact wX12_meets_b253 X hG hnm hf (fun z0 e0 => k1 z0 (hy44.trans (congrArg Sum.inr e0))) (fun z0 e0 => kf z0 (hy44.trans (congrArg Sum.inr e0)))
  · have hf := if_f q hf
    refine p_iload X (dcg dc_X12_meets 102 rfl) rfl ?_
    refine p_iload X (dcg dc_X12_meets 103 rfl) rfl ?_
    refine p_iload X (dcg dc_X12_meets 104 rfl) rfl ?_
    refine p_icmp_eq (tgt := 243) X (dcg dc_X12_meets 105 rfl) (by decide) (fun q => ?_) (fun q => ?_)
    · have hf := if_t q hf
      refine p_pick [0, 1, 2, 3, 4, 6, 8] ?_
      exact wX12_meets_b243 X hG hnm hf k0 k1 kf
    · have hf := if_f q hf
      refine p_aload_n X (dcg dc_X12_meets 106 rfl) rfl rfl ?_
      refine p_iload_n X (dcg dc_X12_meets 107 rfl) rfl rfl ?_
      refine p_iload X (dcg dc_X12_meets 108 rfl) rfl ?_
      obtain ⟨z45, hz45, hf⟩ := bd_some hf
      refine p_callV (As := [_, _]) X ml_X12_186 (dcg dc_X12_meets 109 rfl) rfl rfl hk38 (wX12_wordIn hG hz45) (by decide) (room4 (Nat.le_of_ble_eq_true rfl)) (Nat.le_refl _) (Nat.le_refl _) ?_
      rintro _ u9 ⟨rfl, e9⟩; have e9 := e9.symm; subst e9
      refine p_aload_n X (dcg dc_X12_meets 110 rfl) rfl rfl ?_
      refine p_getR X fl_X12_66 rfl (by decide) (dcg dc_X12_meets 111 rfl) hk38 ?_
      refine p_iload X (dcg dc_X12_meets 112 rfl) rfl ?_
      obtain ⟨a46, e47, hf⟩ := gs_some hf
      first | subst e47 | (try rw [e47])
      obtain ⟨⟨hk49, hb48⟩, hf⟩ := gd_some hf
      refine p_iald X (dcg dc_X12_meets 113 rfl) hk49 (vp_of_inb hb48) ?_
      refine p_icmp_ne (tgt := 243) X (dcg dc_X12_meets 114 rfl) (by decide) (fun q => ?_) (fun q => ?_)
      · have hf := if_t q hf
        refine p_pick [0, 1, 2, 3, 4, 6, 8] ?_
        exact wX12_meets_b243 X hG hnm hf k0 k1 kf
      · have hf := if_f q hf
        refine p_iload X (dcg dc_X12_meets 115 rfl) rfl ?_
        refine p_iload X (dcg dc_X12_meets 116 rfl) rfl ?_
        refine p_aload_n X (dcg dc_X12_meets 117 rfl) rfl rfl ?_
        refine p_getR X fl_X12_69 rfl (by decide) (dcg dc_X12_meets 118 rfl) hk38 ?_
        refine p_iload X (dcg dc_X12_meets 119 rfl) rfl ?_
        obtain ⟨a50, e51, hf⟩ := gs_some hf
        first | subst e51 | (try rw [e51])
        obtain ⟨⟨hk53, hb52⟩, hf⟩ := gd_some hf
        refine p_iald X (dcg dc_X12_meets 120 rfl) hk53 (vp_of_inb hb52) ?_
        refine p_isub X (dcg dc_X12_meets 121 rfl) ?_
        refine p_iload X (dcg dc_X12_meets 122 rfl) rfl ?_
        refine p_aload_n X (dcg dc_X12_meets 123 rfl) rfl rfl ?_
        refine p_getR X fl_X12_69 rfl (by decide) (dcg dc_X12_meets 124 rfl) hk38 ?_
        refine p_iload X (dcg dc_X12_meets 125 rfl) rfl ?_
        obtain ⟨a54, e55, hf⟩ := gs_some hf
        first | subst e55 | (try rw [e55])
        obtain ⟨⟨hk57, hb56⟩, hf⟩ := gd_some hf
        refine p_iald X (dcg dc_X12_meets 126 rfl) hk57 (vp_of_inb hb56) ?_
        refine p_iadd X (dcg dc_X12_meets 127 rfl) ?_
        obtain ⟨z58, hz58, hf⟩ := bd_some hf
        refine p_callS (As := [_, _, _]) X ml_X12_148 (dcg dc_X12_meets 128 rfl) rfl rfl  (wX12_in hG hz58) (by decide) (room4 (Nat.le_of_ble_eq_true rfl)) (Nat.le_refl _) (Nat.le_refl _) ?_
        rintro _ u9 ⟨rfl, e9⟩; have e9 := e9.symm; subst e9
        refine p_if_eq (tgt := 243) X (dcg dc_X12_meets 129 rfl) (by decide) (fun q => ?_) (fun q => ?_)
        · have hf := if_t q hf
          refine p_pick [0, 1, 2, 3, 4, 6, 8] ?_
          exact wX12_meets_b243 X hG hnm hf k0 k1 kf
        · have hf := if_f q hf
          refine p_iconst (v := 1) X (dcg dc_X12_meets 130 rfl) (by decide) ?_
          refine p_goto (tgt := 244) X (dcg dc_X12_meets 131 rfl) (by decide) ?_
          refine p_pick [0, 1, 2, 3, 4, 6, 8] ?_
          exact wX12_meets_b244 X hG hnm hf k0 k1 kf
noncomputable def fX12_meets_l174 (v0 : Nat) (v1 : Int32) (v2 : Int32) (v3 : Int32) (v4 : Int32) (v5 : Int32) (v6 : Int32) (v8 : Int32) (h : PH) : Option ((Int32 × Int32) ⊕ Int32) := wh (fun z : (Int32 × Int32) => fX12_meets_c174 v0 v1 v2 v3 v4 (z.1) v6 (z.2) h) (v5, v8)
set_option maxRecDepth 100000 in
theorem wX12_meets_l174 {E : PE} {p : Program} {l : Launch} {e : Env} {s : State} {m : MethodId} {args : Array Value} {below : List Frame} {meth : Method} {c : Code} (X : Cx E p l e (rmv 2 0 0) s m args below meth c RX12 cX12_meets 9 (some .int)) (hG : Gs E l) (hnm : meth.name = yX12_meets.name) {v0 : Nat} {v1 : Int32} {v2 : Int32} {v3 : Int32} {v4 : Int32} {v5 : Int32} {v6 : Int32} {v8 : Int32} {h : PH} {r : Int32} {x : ((Int32 × Int32) ⊕ Int32)} (hf : fX12_meets_l174 v0 v1 v2 v3 v4 v5 v6 v8 h = some x) (k0 : ∀ z : (Int32 × Int32), x = .inl z → PW E p l e (rmv 2 0 0) s m args below meth c 9 0 0 (MQ below (QG E (fun v u => v = some (.int r) ∧ u = h)) args s 0 0 (pA E)) h 15 [(0, some (.ref v0)), (1, some (.int v1)), (2, some (.int v2)), (3, some (.int v3)), (4, some (.int v4)), (5, some (.int (z.1))), (6, some (.int (z.2)))] []) (kf : ∀ z : Int32, x = .inr z → z = r) : PW E p l e (rmv 2 0 0) s m args below meth c 9 0 0 (MQ below (QG E (fun v u => v = some (.int r) ∧ u = h)) args s 0 0 (pA E)) h 174 [(0, some (.ref v0)), (1, some (.int v1)), (2, some (.int v2)), (3, some (.int v3)), (4, some (.int v4)), (5, some (.int v5)), (6, some (.int v6)), (8, some (.int v8))] [] := by
  unfold fX12_meets_l174 at hf
  refine wh_ind (P := fun z => PW E p l e (rmv 2 0 0) s m args below meth c 9 0 0 (MQ below (QG E (fun v u => v = some (.int r) ∧ u = h)) args s 0 0 (pA E)) h 174 [(0, some (.ref v0)), (1, some (.int v1)), (2, some (.int v2)), (3, some (.int v3)), (4, some (.int v4)), (5, some (.int (z.1))), (6, some (.int v6)), (8, some (.int (z.2)))] []) (fun z x0 hs i1 i2 => ?_) _ hf
  exact wX12_meets_c174 (r := r) (v0 := v0) (v1 := v1) (v2 := v2) (v3 := v3) (v4 := v4) (v5 := z.1) (v6 := v6) (v8 := z.2) (h := h) X hG hnm hs i1 (fun z1 e1 => k0 z1 (i2 _ e1).symm) (fun z1 e1 => kf z1 (i2 _ e1).symm)
noncomputable def fX12_meets_b145 (v0 : Nat) (v1 : Int32) (v2 : Int32) (v3 : Int32) (v4 : Int32) (v5 : Int32) (v6 : Int32) (v7 : Int32) (h : PH) : Option ((Int32 × Int32) ⊕ Int32) :=
  gd (hK h v0 = 12) (gs (hR h 12 v0 25) (fun a30 =>
  gd (hK h a30 = 20 ∧ inb v4 (hN h a30)) (if (¬ (hI h 20 a30 (Int32.toNatClampNeg v4)) = (2 : Int32)) then (fX12_meets_b253 v0 v1 v2 v3 v4 v5 v6 h) else
  gs (hR h 12 v0 26) (fun a34 =>
  gd (hK h a34 = 20 ∧ inb v4 (hN h a34)) (if (v7 = (hI h 20 a34 (Int32.toNatClampNeg v4))) then (fX12_meets_l174 v0 v1 v2 v3 v4 v5 v6 (0 : Int32) h) else
  fX12_meets_b253 v0 v1 v2 v3 v4 v5 v6 h)))))
set_option maxRecDepth 100000 in
theorem wX12_meets_b145 {E : PE} {p : Program} {l : Launch} {e : Env} {s : State} {m : MethodId} {args : Array Value} {below : List Frame} {meth : Method} {c : Code} (X : Cx E p l e (rmv 2 0 0) s m args below meth c RX12 cX12_meets 9 (some .int)) (hG : Gs E l) (hnm : meth.name = yX12_meets.name) {v0 : Nat} {v1 : Int32} {v2 : Int32} {v3 : Int32} {v4 : Int32} {v5 : Int32} {v6 : Int32} {v7 : Int32} {h : PH} {r : Int32} {x : ((Int32 × Int32) ⊕ Int32)} (hf : fX12_meets_b145 v0 v1 v2 v3 v4 v5 v6 v7 h = some x) (k0 : ∀ z : (Int32 × Int32), x = .inl z → PW E p l e (rmv 2 0 0) s m args below meth c 9 0 0 (MQ below (QG E (fun v u => v = some (.int r) ∧ u = h)) args s 0 0 (pA E)) h 15 [(0, some (.ref v0)), (1, some (.int v1)), (2, some (.int v2)), (3, some (.int v3)), (4, some (.int v4)), (5, some (.int (z.1))), (6, some (.int (z.2)))] []) (kf : ∀ z : Int32, x = .inr z → z = r) : PW E p l e (rmv 2 0 0) s m args below meth c 9 0 0 (MQ below (QG E (fun v u => v = some (.int r) ∧ u = h)) args s 0 0 (pA E)) h 145 [(0, some (.ref v0)), (1, some (.int v1)), (2, some (.int v2)), (3, some (.int v3)), (4, some (.int v4)), (5, some (.int v5)), (6, some (.int v6)), (7, some (.int v7))] [] := by
  unfold fX12_meets_b145 at hf
  refine p_aload_n X (dcg dc_X12_meets 81 rfl) rfl rfl ?_
  obtain ⟨hk29, hf⟩ := gd_some hf
  refine p_getR X fl_X12_60 rfl (by decide) (dcg dc_X12_meets 82 rfl) hk29 ?_
  refine p_iload X (dcg dc_X12_meets 83 rfl) rfl ?_
  obtain ⟨a30, e31, hf⟩ := gs_some hf
  first | subst e31 | (try rw [e31])
  obtain ⟨⟨hk33, hb32⟩, hf⟩ := gd_some hf
  refine p_iald X (dcg dc_X12_meets 84 rfl) hk33 (vp_of_inb hb32) ?_
  refine p_iconst (v := 2) X (dcg dc_X12_meets 85 rfl) (by decide) ?_
  refine p_icmp_ne (tgt := 253) X (dcg dc_X12_meets 86 rfl) (by decide) (fun q => ?_) (fun q => ?_)
  · have hf := if_t q hf
    refine p_pick [0, 1, 2, 3, 4, 5, 6] ?_
    exact wX12_meets_b253 X hG hnm hf k0 kf
  · have hf := if_f q hf
    refine p_iload X (dcg dc_X12_meets 87 rfl) rfl ?_
    refine p_aload_n X (dcg dc_X12_meets 88 rfl) rfl rfl ?_
    refine p_getR X fl_X12_63 rfl (by decide) (dcg dc_X12_meets 89 rfl) hk29 ?_
    refine p_iload X (dcg dc_X12_meets 90 rfl) rfl ?_
    obtain ⟨a34, e35, hf⟩ := gs_some hf
    first | subst e35 | (try rw [e35])
    obtain ⟨⟨hk37, hb36⟩, hf⟩ := gd_some hf
    refine p_iald X (dcg dc_X12_meets 91 rfl) hk37 (vp_of_inb hb36) ?_
    refine p_icmp_eq (tgt := 171) X (dcg dc_X12_meets 92 rfl) (by decide) (fun q => ?_) (fun q => ?_)
    · have hf := if_t q hf
      refine p_iconst (v := 0) X (dcg dc_X12_meets 94 rfl) (by decide) ?_
      refine p_istore X (dcg dc_X12_meets 95 rfl) (by decide) rfl ?_
      refine p_pick [0, 1, 2, 3, 4, 5, 6, 8] ?_
      exact wX12_meets_l174 X hG hnm hf k0 kf
    · have hf := if_f q hf
      refine p_goto (tgt := 253) X (dcg dc_X12_meets 93 rfl) (by decide) ?_
      refine p_pick [0, 1, 2, 3, 4, 5, 6] ?_
      exact wX12_meets_b253 X hG hnm hf k0 kf
noncomputable def fX12_meets_b142 (v0 : Nat) (v1 : Int32) (v2 : Int32) (v3 : Int32) (v4 : Int32) (v6 : Int32) (v7 : Int32) (t0 : Int32) (t1 : Int32) (h : PH) : Option ((Int32 × Int32) ⊕ Int32) :=
  fX12_meets_b145 v0 v1 v2 v3 v4 (t0 + t1) v6 v7 h
set_option maxRecDepth 100000 in
theorem wX12_meets_b142 {E : PE} {p : Program} {l : Launch} {e : Env} {s : State} {m : MethodId} {args : Array Value} {below : List Frame} {meth : Method} {c : Code} (X : Cx E p l e (rmv 2 0 0) s m args below meth c RX12 cX12_meets 9 (some .int)) (hG : Gs E l) (hnm : meth.name = yX12_meets.name) {v0 : Nat} {v1 : Int32} {v2 : Int32} {v3 : Int32} {v4 : Int32} {v6 : Int32} {v7 : Int32} {t0 : Int32} {t1 : Int32} {h : PH} {r : Int32} {x : ((Int32 × Int32) ⊕ Int32)} (hf : fX12_meets_b142 v0 v1 v2 v3 v4 v6 v7 t0 t1 h = some x) (k0 : ∀ z : (Int32 × Int32), x = .inl z → PW E p l e (rmv 2 0 0) s m args below meth c 9 0 0 (MQ below (QG E (fun v u => v = some (.int r) ∧ u = h)) args s 0 0 (pA E)) h 15 [(0, some (.ref v0)), (1, some (.int v1)), (2, some (.int v2)), (3, some (.int v3)), (4, some (.int v4)), (5, some (.int (z.1))), (6, some (.int (z.2)))] []) (kf : ∀ z : Int32, x = .inr z → z = r) : PW E p l e (rmv 2 0 0) s m args below meth c 9 0 0 (MQ below (QG E (fun v u => v = some (.int r) ∧ u = h)) args s 0 0 (pA E)) h 142 [(0, some (.ref v0)), (1, some (.int v1)), (2, some (.int v2)), (3, some (.int v3)), (4, some (.int v4)), (6, some (.int v6)), (7, some (.int v7))] [.int t1, .int t0] := by
  unfold fX12_meets_b142 at hf
  refine p_iadd X (dcg dc_X12_meets 79 rfl) ?_
  refine p_istore X (dcg dc_X12_meets 80 rfl) (by decide) rfl ?_
  refine p_pick [0, 1, 2, 3, 4, 5, 6, 7] ?_
  exact wX12_meets_b145 X hG hnm hf k0 kf
noncomputable def fX12_meets_b112 (v0 : Nat) (v1 : Int32) (v2 : Int32) (v3 : Int32) (v4 : Int32) (v5 : Int32) (v6 : Int32) (v7 : Int32) (h : PH) : Option ((Int32 × Int32) ⊕ Int32) :=
  gd (hK h v0 = 12) (gs (hR h 12 v0 25) (fun a25 =>
  gd (hK h a25 = 20 ∧ inb v4 (hN h a25)) (if (¬ (hI h 20 a25 (Int32.toNatClampNeg v4)) = (3 : Int32)) then (fX12_meets_b145 v0 v1 v2 v3 v4 v5 v6 v7 h) else
  bd (fX12_standsAt v0 v1 v2 v3 v6 h) (fun z59 =>
  if (z59 = 0) then (fX12_meets_b142 v0 v1 v2 v3 v4 v6 v7 v5 (0 : Int32) h) else
  fX12_meets_b142 v0 v1 v2 v3 v4 v6 v7 v5 (1 : Int32) h))))
set_option maxRecDepth 100000 in
theorem wX12_meets_b112 {E : PE} {p : Program} {l : Launch} {e : Env} {s : State} {m : MethodId} {args : Array Value} {below : List Frame} {meth : Method} {c : Code} (X : Cx E p l e (rmv 2 0 0) s m args below meth c RX12 cX12_meets 9 (some .int)) (hG : Gs E l) (hnm : meth.name = yX12_meets.name) {v0 : Nat} {v1 : Int32} {v2 : Int32} {v3 : Int32} {v4 : Int32} {v5 : Int32} {v6 : Int32} {v7 : Int32} {h : PH} {r : Int32} {x : ((Int32 × Int32) ⊕ Int32)} (hf : fX12_meets_b112 v0 v1 v2 v3 v4 v5 v6 v7 h = some x) (k0 : ∀ z : (Int32 × Int32), x = .inl z → PW E p l e (rmv 2 0 0) s m args below meth c 9 0 0 (MQ below (QG E (fun v u => v = some (.int r) ∧ u = h)) args s 0 0 (pA E)) h 15 [(0, some (.ref v0)), (1, some (.int v1)), (2, some (.int v2)), (3, some (.int v3)), (4, some (.int v4)), (5, some (.int (z.1))), (6, some (.int (z.2)))] []) (kf : ∀ z : Int32, x = .inr z → z = r) : PW E p l e (rmv 2 0 0) s m args below meth c 9 0 0 (MQ below (QG E (fun v u => v = some (.int r) ∧ u = h)) args s 0 0 (pA E)) h 112 [(0, some (.ref v0)), (1, some (.int v1)), (2, some (.int v2)), (3, some (.int v3)), (4, some (.int v4)), (5, some (.int v5)), (6, some (.int v6)), (7, some (.int v7))] [] := by
  unfold fX12_meets_b112 at hf
  refine p_aload_n X (dcg dc_X12_meets 62 rfl) rfl rfl ?_
  obtain ⟨hk24, hf⟩ := gd_some hf
  refine p_getR X fl_X12_60 rfl (by decide) (dcg dc_X12_meets 63 rfl) hk24 ?_
  refine p_iload X (dcg dc_X12_meets 64 rfl) rfl ?_
  obtain ⟨a25, e26, hf⟩ := gs_some hf
  first | subst e26 | (try rw [e26])
  obtain ⟨⟨hk28, hb27⟩, hf⟩ := gd_some hf
  refine p_iald X (dcg dc_X12_meets 65 rfl) hk28 (vp_of_inb hb27) ?_
  refine p_iconst (v := 3) X (dcg dc_X12_meets 66 rfl) (by decide) ?_
  refine p_icmp_ne (tgt := 145) X (dcg dc_X12_meets 67 rfl) (by decide) (fun q => ?_) (fun q => ?_)
  · have hf := if_t q hf
    refine p_pick [0, 1, 2, 3, 4, 5, 6, 7] ?_
    exact wX12_meets_b145 X hG hnm hf k0 kf
  · have hf := if_f q hf
    refine p_iload X (dcg dc_X12_meets 68 rfl) rfl ?_
    refine p_aload_n X (dcg dc_X12_meets 69 rfl) rfl rfl ?_
    refine p_iload_n X (dcg dc_X12_meets 70 rfl) rfl rfl ?_
    refine p_iload_n X (dcg dc_X12_meets 71 rfl) rfl rfl ?_
    refine p_iload_n X (dcg dc_X12_meets 72 rfl) rfl rfl ?_
    refine p_iload X (dcg dc_X12_meets 73 rfl) rfl ?_
    obtain ⟨z59, hz59, hf⟩ := bd_some hf
    refine p_callV (As := [_, _, _, _]) X ml_X12_336 (dcg dc_X12_meets 74 rfl) rfl rfl hk24 (wX12_standsAt hG hz59) (by decide) (room4 (Nat.le_of_ble_eq_true rfl)) (Nat.le_refl _) (Nat.le_refl _) ?_
    rintro _ u9 ⟨rfl, e9⟩; have e9 := e9.symm; subst e9
    refine p_if_eq (tgt := 141) X (dcg dc_X12_meets 75 rfl) (by decide) (fun q => ?_) (fun q => ?_)
    · have hf := if_t q hf
      refine p_iconst (v := 0) X (dcg dc_X12_meets 78 rfl) (by decide) ?_
      refine p_pick [0, 1, 2, 3, 4, 6, 7] ?_
      exact wX12_meets_b142 X hG hnm hf k0 kf
    · have hf := if_f q hf
      refine p_iconst (v := 1) X (dcg dc_X12_meets 76 rfl) (by decide) ?_
      refine p_goto (tgt := 142) X (dcg dc_X12_meets 77 rfl) (by decide) ?_
      refine p_pick [0, 1, 2, 3, 4, 6, 7] ?_
      exact wX12_meets_b142 X hG hnm hf k0 kf
noncomputable def fX12_meets_b109 (v0 : Nat) (v1 : Int32) (v2 : Int32) (v3 : Int32) (v4 : Int32) (v6 : Int32) (v7 : Int32) (t0 : Int32) (t1 : Int32) (h : PH) : Option ((Int32 × Int32) ⊕ Int32) :=
  fX12_meets_b112 v0 v1 v2 v3 v4 (t0 + t1) v6 v7 h
set_option maxRecDepth 100000 in
theorem wX12_meets_b109 {E : PE} {p : Program} {l : Launch} {e : Env} {s : State} {m : MethodId} {args : Array Value} {below : List Frame} {meth : Method} {c : Code} (X : Cx E p l e (rmv 2 0 0) s m args below meth c RX12 cX12_meets 9 (some .int)) (hG : Gs E l) (hnm : meth.name = yX12_meets.name) {v0 : Nat} {v1 : Int32} {v2 : Int32} {v3 : Int32} {v4 : Int32} {v6 : Int32} {v7 : Int32} {t0 : Int32} {t1 : Int32} {h : PH} {r : Int32} {x : ((Int32 × Int32) ⊕ Int32)} (hf : fX12_meets_b109 v0 v1 v2 v3 v4 v6 v7 t0 t1 h = some x) (k0 : ∀ z : (Int32 × Int32), x = .inl z → PW E p l e (rmv 2 0 0) s m args below meth c 9 0 0 (MQ below (QG E (fun v u => v = some (.int r) ∧ u = h)) args s 0 0 (pA E)) h 15 [(0, some (.ref v0)), (1, some (.int v1)), (2, some (.int v2)), (3, some (.int v3)), (4, some (.int v4)), (5, some (.int (z.1))), (6, some (.int (z.2)))] []) (kf : ∀ z : Int32, x = .inr z → z = r) : PW E p l e (rmv 2 0 0) s m args below meth c 9 0 0 (MQ below (QG E (fun v u => v = some (.int r) ∧ u = h)) args s 0 0 (pA E)) h 109 [(0, some (.ref v0)), (1, some (.int v1)), (2, some (.int v2)), (3, some (.int v3)), (4, some (.int v4)), (6, some (.int v6)), (7, some (.int v7))] [.int t1, .int t0] := by
  unfold fX12_meets_b109 at hf
  refine p_iadd X (dcg dc_X12_meets 60 rfl) ?_
  refine p_istore X (dcg dc_X12_meets 61 rfl) (by decide) rfl ?_
  refine p_pick [0, 1, 2, 3, 4, 5, 6, 7] ?_
  exact wX12_meets_b112 X hG hnm hf k0 kf
noncomputable def fX12_meets_b76 (v0 : Nat) (v1 : Int32) (v2 : Int32) (v3 : Int32) (v4 : Int32) (v5 : Int32) (v6 : Int32) (v7 : Int32) (h : PH) : Option ((Int32 × Int32) ⊕ Int32) :=
  gd (hK h v0 = 12) (gs (hR h 12 v0 25) (fun a20 =>
  gd (hK h a20 = 20 ∧ inb v4 (hN h a20)) (if (¬ (hI h 20 a20 (Int32.toNatClampNeg v4)) = (1 : Int32)) then (fX12_meets_b112 v0 v1 v2 v3 v4 v5 v6 v7 h) else
  gs (hR h 12 v0 26) (fun a60 =>
  gd (hK h a60 = 20 ∧ inb v4 (hN h a60)) (bd (fX12_beginsWith v7 (hI h 20 a60 (Int32.toNatClampNeg v4))) (fun z64 =>
  if (z64 = 0) then (fX12_meets_b109 v0 v1 v2 v3 v4 v6 v7 v5 (0 : Int32) h) else
  fX12_meets_b109 v0 v1 v2 v3 v4 v6 v7 v5 (1 : Int32) h))))))
set_option maxRecDepth 100000 in
theorem wX12_meets_b76 {E : PE} {p : Program} {l : Launch} {e : Env} {s : State} {m : MethodId} {args : Array Value} {below : List Frame} {meth : Method} {c : Code} (X : Cx E p l e (rmv 2 0 0) s m args below meth c RX12 cX12_meets 9 (some .int)) (hG : Gs E l) (hnm : meth.name = yX12_meets.name) {v0 : Nat} {v1 : Int32} {v2 : Int32} {v3 : Int32} {v4 : Int32} {v5 : Int32} {v6 : Int32} {v7 : Int32} {h : PH} {r : Int32} {x : ((Int32 × Int32) ⊕ Int32)} (hf : fX12_meets_b76 v0 v1 v2 v3 v4 v5 v6 v7 h = some x) (k0 : ∀ z : (Int32 × Int32), x = .inl z → PW E p l e (rmv 2 0 0) s m args below meth c 9 0 0 (MQ below (QG E (fun v u => v = some (.int r) ∧ u = h)) args s 0 0 (pA E)) h 15 [(0, some (.ref v0)), (1, some (.int v1)), (2, some (.int v2)), (3, some (.int v3)), (4, some (.int v4)), (5, some (.int (z.1))), (6, some (.int (z.2)))] []) (kf : ∀ z : Int32, x = .inr z → z = r) : PW E p l e (rmv 2 0 0) s m args below meth c 9 0 0 (MQ below (QG E (fun v u => v = some (.int r) ∧ u = h)) args s 0 0 (pA E)) h 76 [(0, some (.ref v0)), (1, some (.int v1)), (2, some (.int v2)), (3, some (.int v3)), (4, some (.int v4)), (5, some (.int v5)), (6, some (.int v6)), (7, some (.int v7))] [] := by
  unfold fX12_meets_b76 at hf
  refine p_aload_n X (dcg dc_X12_meets 43 rfl) rfl rfl ?_
  obtain ⟨hk19, hf⟩ := gd_some hf
  refine p_getR X fl_X12_60 rfl (by decide) (dcg dc_X12_meets 44 rfl) hk19 ?_
  refine p_iload X (dcg dc_X12_meets 45 rfl) rfl ?_
  obtain ⟨a20, e21, hf⟩ := gs_some hf
  first | subst e21 | (try rw [e21])
  obtain ⟨⟨hk23, hb22⟩, hf⟩ := gd_some hf
  refine p_iald X (dcg dc_X12_meets 46 rfl) hk23 (vp_of_inb hb22) ?_
  refine p_iconst (v := 1) X (dcg dc_X12_meets 47 rfl) (by decide) ?_
  refine p_icmp_ne (tgt := 112) X (dcg dc_X12_meets 48 rfl) (by decide) (fun q => ?_) (fun q => ?_)
  · have hf := if_t q hf
    refine p_pick [0, 1, 2, 3, 4, 5, 6, 7] ?_
    exact wX12_meets_b112 X hG hnm hf k0 kf
  · have hf := if_f q hf
    refine p_iload X (dcg dc_X12_meets 49 rfl) rfl ?_
    refine p_iload X (dcg dc_X12_meets 50 rfl) rfl ?_
    refine p_aload_n X (dcg dc_X12_meets 51 rfl) rfl rfl ?_
    refine p_getR X fl_X12_63 rfl (by decide) (dcg dc_X12_meets 52 rfl) hk19 ?_
    refine p_iload X (dcg dc_X12_meets 53 rfl) rfl ?_
    obtain ⟨a60, e61, hf⟩ := gs_some hf
    first | subst e61 | (try rw [e61])
    obtain ⟨⟨hk63, hb62⟩, hf⟩ := gd_some hf
    refine p_iald X (dcg dc_X12_meets 54 rfl) hk63 (vp_of_inb hb62) ?_
    obtain ⟨z64, hz64, hf⟩ := bd_some hf
    refine p_callS (As := [_, _]) X ml_X12_243 (dcg dc_X12_meets 55 rfl) rfl rfl  (wX12_beginsWith hG hz64) (by decide) (room4 (Nat.le_of_ble_eq_true rfl)) (Nat.le_refl _) (Nat.le_refl _) ?_
    rintro _ u9 ⟨rfl, e9⟩; have e9 := e9.symm; subst e9
    refine p_if_eq (tgt := 108) X (dcg dc_X12_meets 56 rfl) (by decide) (fun q => ?_) (fun q => ?_)
    · have hf := if_t q hf
      refine p_iconst (v := 0) X (dcg dc_X12_meets 59 rfl) (by decide) ?_
      refine p_pick [0, 1, 2, 3, 4, 6, 7] ?_
      exact wX12_meets_b109 X hG hnm hf k0 kf
    · have hf := if_f q hf
      refine p_iconst (v := 1) X (dcg dc_X12_meets 57 rfl) (by decide) ?_
      refine p_goto (tgt := 109) X (dcg dc_X12_meets 58 rfl) (by decide) ?_
      refine p_pick [0, 1, 2, 3, 4, 6, 7] ?_
      exact wX12_meets_b109 X hG hnm hf k0 kf
noncomputable def fX12_meets_b73 (v0 : Nat) (v1 : Int32) (v2 : Int32) (v3 : Int32) (v4 : Int32) (v6 : Int32) (v7 : Int32) (t0 : Int32) (t1 : Int32) (h : PH) : Option ((Int32 × Int32) ⊕ Int32) :=
  fX12_meets_b76 v0 v1 v2 v3 v4 (t0 + t1) v6 v7 h
set_option maxRecDepth 100000 in
theorem wX12_meets_b73 {E : PE} {p : Program} {l : Launch} {e : Env} {s : State} {m : MethodId} {args : Array Value} {below : List Frame} {meth : Method} {c : Code} (X : Cx E p l e (rmv 2 0 0) s m args below meth c RX12 cX12_meets 9 (some .int)) (hG : Gs E l) (hnm : meth.name = yX12_meets.name) {v0 : Nat} {v1 : Int32} {v2 : Int32} {v3 : Int32} {v4 : Int32} {v6 : Int32} {v7 : Int32} {t0 : Int32} {t1 : Int32} {h : PH} {r : Int32} {x : ((Int32 × Int32) ⊕ Int32)} (hf : fX12_meets_b73 v0 v1 v2 v3 v4 v6 v7 t0 t1 h = some x) (k0 : ∀ z : (Int32 × Int32), x = .inl z → PW E p l e (rmv 2 0 0) s m args below meth c 9 0 0 (MQ below (QG E (fun v u => v = some (.int r) ∧ u = h)) args s 0 0 (pA E)) h 15 [(0, some (.ref v0)), (1, some (.int v1)), (2, some (.int v2)), (3, some (.int v3)), (4, some (.int v4)), (5, some (.int (z.1))), (6, some (.int (z.2)))] []) (kf : ∀ z : Int32, x = .inr z → z = r) : PW E p l e (rmv 2 0 0) s m args below meth c 9 0 0 (MQ below (QG E (fun v u => v = some (.int r) ∧ u = h)) args s 0 0 (pA E)) h 73 [(0, some (.ref v0)), (1, some (.int v1)), (2, some (.int v2)), (3, some (.int v3)), (4, some (.int v4)), (6, some (.int v6)), (7, some (.int v7))] [.int t1, .int t0] := by
  unfold fX12_meets_b73 at hf
  refine p_iadd X (dcg dc_X12_meets 41 rfl) ?_
  refine p_istore X (dcg dc_X12_meets 42 rfl) (by decide) rfl ?_
  refine p_pick [0, 1, 2, 3, 4, 5, 6, 7] ?_
  exact wX12_meets_b76 X hG hnm hf k0 kf
noncomputable def fX12_meets_c15 (v0 : Nat) (v1 : Int32) (v2 : Int32) (v3 : Int32) (v4 : Int32) (v5 : Int32) (v6 : Int32) (h : PH) : Option ((Int32 × Int32) ⊕ Int32) :=
  gd (hK h v0 = 12) (gs (hR h 12 v0 4) (fun a2 =>
  gd (hK h a2 = 21 ∧ inb v3 (hN h a2)) (if ((hI h 21 a2 (Int32.toNatClampNeg v3)) = 0) then (mr (fX12_meets_b259 v5 h)) else
  gs (hR h 12 v0 6) (fun a8 =>
  gd (hK h a8 = 20 ∧ inb v3 (hN h a8)) (if ((hI h 20 a8 (Int32.toNatClampNeg v3)) ≤ v6) then (mr (fX12_meets_b259 v5 h)) else
  bd (fX12_wordIn v0 v3 v6 h) (fun z14 =>
  gs (hR h 12 v0 25) (fun a15 =>
  gd (hK h a15 = 20 ∧ inb v4 (hN h a15)) (if (¬ (hI h 20 a15 (Int32.toNatClampNeg v4)) = 0) then (fX12_meets_b76 v0 v1 v2 v3 v4 v5 v6 z14 h) else
  gs (hR h 12 v0 26) (fun a65 =>
  gd (hK h a65 = 20 ∧ inb v4 (hN h a65)) (if (¬ z14 = (hI h 20 a65 (Int32.toNatClampNeg v4))) then (fX12_meets_b73 v0 v1 v2 v3 v4 v6 z14 v5 (0 : Int32) h) else
  fX12_meets_b73 v0 v1 v2 v3 v4 v6 z14 v5 (1 : Int32) h))))))))))
set_option maxRecDepth 100000 in
theorem wX12_meets_c15 {E : PE} {p : Program} {l : Launch} {e : Env} {s : State} {m : MethodId} {args : Array Value} {below : List Frame} {meth : Method} {c : Code} (X : Cx E p l e (rmv 2 0 0) s m args below meth c RX12 cX12_meets 9 (some .int)) (hG : Gs E l) (hnm : meth.name = yX12_meets.name) {v0 : Nat} {v1 : Int32} {v2 : Int32} {v3 : Int32} {v4 : Int32} {v5 : Int32} {v6 : Int32} {h : PH} {r : Int32} {x : ((Int32 × Int32) ⊕ Int32)} (hf : fX12_meets_c15 v0 v1 v2 v3 v4 v5 v6 h = some x) (k0 : ∀ z : (Int32 × Int32), x = .inl z → PW E p l e (rmv 2 0 0) s m args below meth c 9 0 0 (MQ below (QG E (fun v u => v = some (.int r) ∧ u = h)) args s 0 0 (pA E)) h 15 [(0, some (.ref v0)), (1, some (.int v1)), (2, some (.int v2)), (3, some (.int v3)), (4, some (.int v4)), (5, some (.int (z.1))), (6, some (.int (z.2)))] []) (kf : ∀ z : Int32, x = .inr z → z = r) : PW E p l e (rmv 2 0 0) s m args below meth c 9 0 0 (MQ below (QG E (fun v u => v = some (.int r) ∧ u = h)) args s 0 0 (pA E)) h 15 [(0, some (.ref v0)), (1, some (.int v1)), (2, some (.int v2)), (3, some (.int v3)), (4, some (.int v4)), (5, some (.int v5)), (6, some (.int v6))] [] := by
  unfold fX12_meets_c15 at hf
  refine p_aload_n X (dcg dc_X12_meets 10 rfl) rfl rfl ?_
  obtain ⟨hk1, hf⟩ := gd_some hf
  refine p_getR X fl_X12_20 rfl (by decide) (dcg dc_X12_meets 11 rfl) hk1 ?_
  refine p_iload_n X (dcg dc_X12_meets 12 rfl) rfl rfl ?_
  obtain ⟨a2, e3, hf⟩ := gs_some hf
  first | subst e3 | (try rw [e3])
  obtain ⟨⟨hk5, hb4⟩, hf⟩ := gd_some hf
  refine p_zald X (dcg dc_X12_meets 13 rfl) hk5 (vp_of_inb hb4) ?_
  refine p_if_eq (tgt := 259) X (dcg dc_X12_meets 14 rfl) (by decide) (fun q => ?_) (fun q => ?_)
  · have hf := if_t q hf
    obtain ⟨y6, hf, hy7⟩ := mr_some hf
    have hy7f := kf y6 hy7
    subst hy7f
    refine p_pick [5] ?_
    exact wX12_meets_b259 X hG hnm hf 
  · have hf := if_f q hf
    refine p_iload X (dcg dc_X12_meets 15 rfl) rfl ?_
    refine p_aload_n X (dcg dc_X12_meets 16 rfl) rfl rfl ?_
    refine p_getR X fl_X12_27 rfl (by decide) (dcg dc_X12_meets 17 rfl) hk1 ?_
    refine p_iload_n X (dcg dc_X12_meets 18 rfl) rfl rfl ?_
    obtain ⟨a8, e9, hf⟩ := gs_some hf
    first | subst e9 | (try rw [e9])
    obtain ⟨⟨hk11, hb10⟩, hf⟩ := gd_some hf
    refine p_iald X (dcg dc_X12_meets 19 rfl) hk11 (vp_of_inb hb10) ?_
    refine p_icmp_ge (tgt := 259) X (dcg dc_X12_meets 20 rfl) (by decide) (fun q => ?_) (fun q => ?_)
    · have hf := if_t q hf
      obtain ⟨y12, hf, hy13⟩ := mr_some hf
      have hy13f := kf y12 hy13
      subst hy13f
      refine p_pick [5] ?_
      exact wX12_meets_b259 X hG hnm hf 
    · have hf := if_f q hf
      refine p_aload_n X (dcg dc_X12_meets 21 rfl) rfl rfl ?_
      refine p_iload_n X (dcg dc_X12_meets 22 rfl) rfl rfl ?_
      refine p_iload X (dcg dc_X12_meets 23 rfl) rfl ?_
      obtain ⟨z14, hz14, hf⟩ := bd_some hf
      refine p_callV (As := [_, _]) X ml_X12_186 (dcg dc_X12_meets 24 rfl) rfl rfl hk1 (wX12_wordIn hG hz14) (by decide) (room4 (Nat.le_of_ble_eq_true rfl)) (Nat.le_refl _) (Nat.le_refl _) ?_
      rintro _ u9 ⟨rfl, e9⟩; have e9 := e9.symm; subst e9
      refine p_istore X (dcg dc_X12_meets 25 rfl) (by decide) rfl ?_
      refine p_aload_n X (dcg dc_X12_meets 26 rfl) rfl rfl ?_
      refine p_getR X fl_X12_60 rfl (by decide) (dcg dc_X12_meets 27 rfl) hk1 ?_
      refine p_iload X (dcg dc_X12_meets 28 rfl) rfl ?_
      obtain ⟨a15, e16, hf⟩ := gs_some hf
      first | subst e16 | (try rw [e16])
      obtain ⟨⟨hk18, hb17⟩, hf⟩ := gd_some hf
      refine p_iald X (dcg dc_X12_meets 29 rfl) hk18 (vp_of_inb hb17) ?_
      refine p_if_ne (tgt := 76) X (dcg dc_X12_meets 30 rfl) (by decide) (fun q => ?_) (fun q => ?_)
      · have hf := if_t q hf
        refine p_pick [0, 1, 2, 3, 4, 5, 6, 7] ?_
        exact wX12_meets_b76 X hG hnm hf k0 kf
      · have hf := if_f q hf
        refine p_iload X (dcg dc_X12_meets 31 rfl) rfl ?_
        refine p_iload X (dcg dc_X12_meets 32 rfl) rfl ?_
        refine p_aload_n X (dcg dc_X12_meets 33 rfl) rfl rfl ?_
        refine p_getR X fl_X12_63 rfl (by decide) (dcg dc_X12_meets 34 rfl) hk1 ?_
        refine p_iload X (dcg dc_X12_meets 35 rfl) rfl ?_
        obtain ⟨a65, e66, hf⟩ := gs_some hf
        first | subst e66 | (try rw [e66])
        obtain ⟨⟨hk68, hb67⟩, hf⟩ := gd_some hf
        refine p_iald X (dcg dc_X12_meets 36 rfl) hk68 (vp_of_inb hb67) ?_
        refine p_icmp_ne (tgt := 72) X (dcg dc_X12_meets 37 rfl) (by decide) (fun q => ?_) (fun q => ?_)
        · have hf := if_t q hf
          refine p_iconst (v := 0) X (dcg dc_X12_meets 40 rfl) (by decide) ?_
          refine p_pick [0, 1, 2, 3, 4, 6, 7] ?_
          exact wX12_meets_b73 X hG hnm hf k0 kf
        · have hf := if_f q hf
          refine p_iconst (v := 1) X (dcg dc_X12_meets 38 rfl) (by decide) ?_
          refine p_goto (tgt := 73) X (dcg dc_X12_meets 39 rfl) (by decide) ?_
          refine p_pick [0, 1, 2, 3, 4, 6, 7] ?_
          exact wX12_meets_b73 X hG hnm hf k0 kf
noncomputable def fX12_meets_l15 (v0 : Nat) (v1 : Int32) (v2 : Int32) (v3 : Int32) (v4 : Int32) (v5 : Int32) (v6 : Int32) (h : PH) : Option Int32 := wh (fun z : (Int32 × Int32) => fX12_meets_c15 v0 v1 v2 v3 v4 (z.1) (z.2) h) (v5, v6)
set_option maxRecDepth 100000 in
theorem wX12_meets_l15 {E : PE} {p : Program} {l : Launch} {e : Env} {s : State} {m : MethodId} {args : Array Value} {below : List Frame} {meth : Method} {c : Code} (X : Cx E p l e (rmv 2 0 0) s m args below meth c RX12 cX12_meets 9 (some .int)) (hG : Gs E l) (hnm : meth.name = yX12_meets.name) {v0 : Nat} {v1 : Int32} {v2 : Int32} {v3 : Int32} {v4 : Int32} {v5 : Int32} {v6 : Int32} {h : PH} {r : Int32} (hf : fX12_meets_l15 v0 v1 v2 v3 v4 v5 v6 h = some r)  : PW E p l e (rmv 2 0 0) s m args below meth c 9 0 0 (MQ below (QG E (fun v u => v = some (.int r) ∧ u = h)) args s 0 0 (pA E)) h 15 [(0, some (.ref v0)), (1, some (.int v1)), (2, some (.int v2)), (3, some (.int v3)), (4, some (.int v4)), (5, some (.int v5)), (6, some (.int v6))] [] := by
  unfold fX12_meets_l15 at hf
  refine wh_ind (P := fun z => PW E p l e (rmv 2 0 0) s m args below meth c 9 0 0 (MQ below (QG E (fun v u => v = some (.int r) ∧ u = h)) args s 0 0 (pA E)) h 15 [(0, some (.ref v0)), (1, some (.int v1)), (2, some (.int v2)), (3, some (.int v3)), (4, some (.int v4)), (5, some (.int (z.1))), (6, some (.int (z.2)))] []) (fun z x0 hs i1 i2 => ?_) _ hf
  exact wX12_meets_c15 (r := r) (v0 := v0) (v1 := v1) (v2 := v2) (v3 := v3) (v4 := v4) (v5 := z.1) (v6 := z.2) (h := h) X hG hnm hs i1  i2
noncomputable def fX12_meets (v0 : Nat) (v1 : Int32) (v2 : Int32) (v3 : Int32) (h : PH) : Option Int32 :=
  fX12_meets_l15 v0 v1 v2 v3 (((400 : Int32) * v1) + v2) (0 : Int32) (0 : Int32) h
set_option maxRecDepth 100000 in
theorem wX12_meets {E : PE} {l : Launch} (hG : Gs E l) {v0 : Nat} {v1 : Int32} {v2 : Int32} {v3 : Int32} {h : PH} {r : Int32} (hf : fX12_meets v0 v1 v2 v3 h = some r) : Ct E l 2 0 0 yX12_meets cX12_meets 9 (some .int) [.ref v0, .int v1, .int v2, .int v3] h (fun v u => v = some (.int r) ∧ u = h) := by
  refine ct_of hG (by decide) (Nat.le_of_ble_eq_true rfl) ?_
  intro p e s m args below meth c X hnm
  show PW E p l e _ s m args below meth c _ 0 0 _ h 0 [(0, some (.ref v0)), (1, some (.int v1)), (2, some (.int v2)), (3, some (.int v3))] []
  unfold fX12_meets at hf
  refine p_sipush (v := 400) X (dcg dc_X12_meets 0 rfl) (by decide) ?_
  refine p_iload_n X (dcg dc_X12_meets 1 rfl) rfl rfl ?_
  refine p_imul X (dcg dc_X12_meets 2 rfl) ?_
  refine p_iload_n X (dcg dc_X12_meets 3 rfl) rfl rfl ?_
  refine p_iadd X (dcg dc_X12_meets 4 rfl) ?_
  refine p_istore X (dcg dc_X12_meets 5 rfl) (by decide) rfl ?_
  refine p_iconst (v := 0) X (dcg dc_X12_meets 6 rfl) (by decide) ?_
  refine p_istore X (dcg dc_X12_meets 7 rfl) (by decide) rfl ?_
  refine p_iconst (v := 0) X (dcg dc_X12_meets 8 rfl) (by decide) ?_
  refine p_istore X (dcg dc_X12_meets 9 rfl) (by decide) rfl ?_
  refine p_pick [0, 1, 2, 3, 4, 5, 6] ?_
  exact wX12_meets_l15 X hG hnm hf 
theorem dc_X12_joined : decs cX12_joined [(0, .iconst 0, 1), (1, .istore_n 2, 1), (2, .iload_n 2, 1), (3, .aload_n 0, 1), (4, .getfield 81, 3), (7, .iload_n 1, 1), (8, .iaload, 1), (9, .if_icmp .ge 169, 3), (12, .aload_n 0, 1), (13, .getfield 60, 3), (16, .sipush 400, 3), (19, .iload_n 1, 1), (20, .imul, 1), (21, .iload_n 2, 1), (22, .iadd, 1), (23, .iaload, 1), (24, .istore_n 3, 1), (25, .iload_n 3, 1), (26, .iconst 4, 1), (27, .if_icmp .ge 6, 3), (30, .goto 142, 3), (33, .aload_n 0, 1), (34, .getfield 111, 3), (37, .iload_n 2, 1), (38, .iload_n 3, 1), (39, .iconst 5, 1), (40, .if_icmp .ne 7, 3), (43, .iconst 1, 1), (44, .goto 4, 3), (47, .iconst 0, 1), (48, .bastore, 1), (49, .aload_n 0, 1), (50, .getfield 72, 3), (53, .sipush 400, 3), (56, .iload_n 1, 1), (57, .imul, 1), (58, .iload_n 2, 1), (59, .iadd, 1), (60, .iaload, 1), (61, .istore 4, 2), (63, .iload 4, 2), (65, .iconst (-1), 1), (66, .if_icmp .eq 106, 3), (69, .aload_n 0, 1), (70, .getfield 111, 3), (73, .iload_n 2, 1), (74, .iload_n 3, 1), (75, .iconst 4, 1), (76, .if_icmp .ne 21, 3), (79, .aload_n 0, 1), (80, .getfield 111, 3), (83, .iload 4, 2), (85, .baload, 1), (86, .ifCond .ne 7, 3), (89, .iconst 1, 1), (90, .goto 63, 3), (93, .iconst 0, 1), (94, .goto 59, 3), (97, .iload_n 3, 1), (98, .iconst 5, 1), (99, .if_icmp .ne 30, 3), (102, .aload_n 0, 1), (103, .getfield 111, 3), (106, .iload_n 2, 1), (107, .baload, 1), (108, .ifCond .eq 17, 3), (111, .aload_n 0, 1), (112, .getfield 111, 3), (115, .iload 4, 2), (117, .baload, 1), (118, .ifCond .eq 7, 3), (121, .iconst 1, 1), (122, .goto 31, 3), (125, .iconst 0, 1), (126, .goto 27, 3), (129, .aload_n 0, 1), (130, .getfield 111, 3), (133, .iload_n 2, 1), (134, .baload, 1), (135, .ifCond .ne 13, 3), (138, .aload_n 0, 1), (139, .getfield 111, 3), (142, .iload 4, 2), (144, .baload, 1), (145, .ifCond .eq 7, 3), (148, .iconst 1, 1), (149, .goto 4, 3), (152, .iconst 0, 1), (153, .bastore, 1), (154, .aload_n 0, 1), (155, .getfield 75, 3), (158, .sipush 400, 3), (161, .iload_n 1, 1), (162, .imul, 1), (163, .iload 4, 2), (165, .iadd, 1), (166, .iaload, 1), (167, .istore 4, 2), (169, .goto (-106), 3), (172, .iinc 2 1, 3), (175, .goto (-173), 3), (178, .aload_n 0, 1), (179, .getfield 111, 3), (182, .aload_n 0, 1), (183, .getfield 87, 3), (186, .iload_n 1, 1), (187, .iaload, 1), (188, .baload, 1), (189, .ireturn, 1)] = true := by decide +kernel
noncomputable def fX12_joined_b172 (v0 : Nat) (v1 : Int32) (v2 : Int32) (h : PH) : Option ((Int32 × PH) ⊕ (Int32 × PH)) :=
  some (.inl ((v2 + 1), h))
set_option maxRecDepth 100000 in
theorem mX12_joined_b172 {v0 : Nat} {v1 : Int32} {v2 : Int32} {h : PH} {x : ((Int32 × PH) ⊕ (Int32 × PH))} (hf : fX12_joined_b172 v0 v1 v2 h = some x) : (∀ w9 : (Int32 × PH), x = .inl w9 → eqz h (hX (w9.2)) (hV (w9.2))) ∧ (∀ w9 : (Int32 × PH), x = .inr w9 → eqz h (hX w9.2) (hV w9.2)) := by
  unfold fX12_joined_b172 at hf
  have hle := eqz_rf h
  have ee := Option.some.inj hf; subst ee
  exact ⟨(fun z e => by have ee := Sum.inl.inj (e); subst ee; exact hle), (fun z e => nomatch e)⟩
set_option maxRecDepth 100000 in
theorem wX12_joined_b172 {E : PE} {p : Program} {l : Launch} {e : Env} {s : State} {m : MethodId} {args : Array Value} {below : List Frame} {meth : Method} {c : Code} (X : Cx E p l e (rmv 0 0 0) s m args below meth c RX12 cX12_joined 5 (some .boolean)) (hG : Gs E l) (hnm : meth.name = yX12_joined.name) {v0 : Nat} {v1 : Int32} {v2 : Int32} {h : PH} {r : (Int32 × PH)} {x : ((Int32 × PH) ⊕ (Int32 × PH))} (hf : fX12_joined_b172 v0 v1 v2 h = some x) (k0 : ∀ z : (Int32 × PH), x = .inl z → PW E p l e (rmv 0 0 0) s m args below meth c 5 0 0 (MQ below (QG E (fun v u => v = some (.int r.1) ∧ u = r.2)) args s 0 0 (pA E)) (z.2) 2 [(0, some (.ref v0)), (1, some (.int v1)), (2, some (.int (z.1)))] []) (kf : ∀ z : (Int32 × PH), x = .inr z → z = r) : PW E p l e (rmv 0 0 0) s m args below meth c 5 0 0 (MQ below (QG E (fun v u => v = some (.int r.1) ∧ u = r.2)) args s 0 0 (pA E)) h 172 [(0, some (.ref v0)), (1, some (.int v1)), (2, some (.int v2))] [] := by
  unfold fX12_joined_b172 at hf
  refine p_iinc (v := 1) X (dcg dc_X12_joined 99 rfl) rfl (by decide) (by decide) rfl ?_
  refine p_goto (tgt := 2) X (dcg dc_X12_joined 100 rfl) (by decide) ?_
  refine p_pick [0, 1, 2] ?_
  exact k0 _ (Option.some.inj hf).symm
noncomputable def fX12_joined_b153 (v0 : Nat) (v1 : Int32) (v2 : Int32) (v3 : Int32) (v4 : Int32) (t0 : Option Nat) (t1 : Int32) (t2 : Int32) (h : PH) : Option ((Int32 × PH) ⊕ ((Int32 × PH) ⊕ (Int32 × PH))) :=
  gs t0 (fun a38 =>
  gd (hK h a38 = 21 ∧ inb t1 (hN h a38)) (lt (sI h 21 a38 (Int32.toNatClampNeg t1) (t2 &&& 1)) (fun h42 =>
  gd (hK h42 v0 = 12) (gs (hR h42 12 v0 30) (fun a44 =>
  gd (hK h42 a44 = 20 ∧ inb (((400 : Int32) * v1) + v4) (hN h42 a44)) (some (.inl ((hI h42 20 a44 (Int32.toNatClampNeg (((400 : Int32) * v1) + v4))), h42))))))))
set_option maxRecDepth 100000 in
theorem mX12_joined_b153 {v0 : Nat} {v1 : Int32} {v2 : Int32} {v3 : Int32} {v4 : Int32} {t0 : Option Nat} {t1 : Int32} {t2 : Int32} {h : PH} {x : ((Int32 × PH) ⊕ ((Int32 × PH) ⊕ (Int32 × PH)))} (hf : fX12_joined_b153 v0 v1 v2 v3 v4 t0 t1 t2 h = some x) : (∀ w9 : (Int32 × PH), x = .inl w9 → eqz h (hX (w9.2)) (hV (w9.2))) ∧ (∀ w9 : (Int32 × PH), x = .inr (.inl w9) → eqz h (hX (w9.2)) (hV (w9.2))) ∧ (∀ w9 : (Int32 × PH), x = .inr (.inr w9) → eqz h (hX w9.2) (hV w9.2)) := by
  unfold fX12_joined_b153 at hf
  have hle := eqz_rf h
  obtain ⟨a38, e39, hf⟩ := gs_some hf
  obtain ⟨⟨hk41, hb40⟩, hf⟩ := gd_some hf
  obtain ⟨h42, rfl, hf⟩ := lt_some hf
  obtain ⟨hk43, hf⟩ := gd_some hf
  obtain ⟨a44, e45, hf⟩ := gs_some hf
  obtain ⟨⟨hk47, hb46⟩, hf⟩ := gd_some hf
  have ee := Option.some.inj hf; subst ee
  exact ⟨(fun z e => by have ee := Sum.inl.inj (e); subst ee; exact hle), (fun z e => nomatch e), (fun z e => nomatch e)⟩
set_option maxRecDepth 100000 in
theorem wX12_joined_b153 {E : PE} {p : Program} {l : Launch} {e : Env} {s : State} {m : MethodId} {args : Array Value} {below : List Frame} {meth : Method} {c : Code} (X : Cx E p l e (rmv 0 0 0) s m args below meth c RX12 cX12_joined 5 (some .boolean)) (hG : Gs E l) (hnm : meth.name = yX12_joined.name) {v0 : Nat} {v1 : Int32} {v2 : Int32} {v3 : Int32} {v4 : Int32} {t0 : Option Nat} {t1 : Int32} {t2 : Int32} {h : PH} {r : (Int32 × PH)} {x : ((Int32 × PH) ⊕ ((Int32 × PH) ⊕ (Int32 × PH)))} (hf : fX12_joined_b153 v0 v1 v2 v3 v4 t0 t1 t2 h = some x) (k0 : ∀ z : (Int32 × PH), x = .inl z → PW E p l e (rmv 0 0 0) s m args below meth c 5 0 0 (MQ below (QG E (fun v u => v = some (.int r.1) ∧ u = r.2)) args s 0 0 (pA E)) (z.2) 63 [(0, some (.ref v0)), (1, some (.int v1)), (2, some (.int v2)), (3, some (.int v3)), (4, some (.int (z.1)))] []) (k1 : ∀ z : (Int32 × PH), x = .inr (.inl z) → PW E p l e (rmv 0 0 0) s m args below meth c 5 0 0 (MQ below (QG E (fun v u => v = some (.int r.1) ∧ u = r.2)) args s 0 0 (pA E)) (z.2) 2 [(0, some (.ref v0)), (1, some (.int v1)), (2, some (.int (z.1)))] []) (kf : ∀ z : (Int32 × PH), x = .inr (.inr z) → z = r) : PW E p l e (rmv 0 0 0) s m args below meth c 5 0 0 (MQ below (QG E (fun v u => v = some (.int r.1) ∧ u = r.2)) args s 0 0 (pA E)) h 153 [(0, some (.ref v0)), (1, some (.int v1)), (2, some (.int v2)), (3, some (.int v3)), (4, some (.int v4))] [.int t2, .int t1, va_rf t0] := by
  unfold fX12_joined_b153 at hf
  obtain ⟨a38, e39, hf⟩ := gs_some hf
  first | subst e39 | (try rw [e39])
  obtain ⟨⟨hk41, hb40⟩, hf⟩ := gd_some hf
  refine p_zast X (dcg dc_X12_joined 88 rfl) hk41 (vp_of_inb hb40) ?_
  obtain ⟨h42, rfl, hf⟩ := lt_some hf
  refine p_aload_n X (dcg dc_X12_joined 89 rfl) rfl rfl ?_
  obtain ⟨hk43, hf⟩ := gd_some hf
  refine p_getR X fl_X12_75 rfl (by decide) (dcg dc_X12_joined 90 rfl) hk43 ?_
  refine p_sipush (v := 400) X (dcg dc_X12_joined 91 rfl) (by decide) ?_
  refine p_iload_n X (dcg dc_X12_joined 92 rfl) rfl rfl ?_
  refine p_imul X (dcg dc_X12_joined 93 rfl) ?_
  refine p_iload X (dcg dc_X12_joined 94 rfl) rfl ?_
  refine p_iadd X (dcg dc_X12_joined 95 rfl) ?_
  obtain ⟨a44, e45, hf⟩ := gs_some hf
  first | subst e45 | (try rw [e45])
  obtain ⟨⟨hk47, hb46⟩, hf⟩ := gd_some hf
  refine p_iald X (dcg dc_X12_joined 96 rfl) hk47 (vp_of_inb hb46) ?_
  refine p_istore X (dcg dc_X12_joined 97 rfl) (by decide) rfl ?_
  refine p_goto (tgt := 63) X (dcg dc_X12_joined 98 rfl) (by decide) ?_
  refine p_pick [0, 1, 2, 3, 4] ?_
  exact k0 _ (Option.some.inj hf).symm
noncomputable def fX12_joined_b148 (v0 : Nat) (v1 : Int32) (v2 : Int32) (v3 : Int32) (v4 : Int32) (t0 : Option Nat) (t1 : Int32) (h : PH) : Option ((Int32 × PH) ⊕ ((Int32 × PH) ⊕ (Int32 × PH))) :=
  fX12_joined_b153 v0 v1 v2 v3 v4 t0 t1 (1 : Int32) h
set_option maxRecDepth 100000 in
theorem mX12_joined_b148 {v0 : Nat} {v1 : Int32} {v2 : Int32} {v3 : Int32} {v4 : Int32} {t0 : Option Nat} {t1 : Int32} {h : PH} {x : ((Int32 × PH) ⊕ ((Int32 × PH) ⊕ (Int32 × PH)))} (hf : fX12_joined_b148 v0 v1 v2 v3 v4 t0 t1 h = some x) : (∀ w9 : (Int32 × PH), x = .inl w9 → eqz h (hX (w9.2)) (hV (w9.2))) ∧ (∀ w9 : (Int32 × PH), x = .inr (.inl w9) → eqz h (hX (w9.2)) (hV (w9.2))) ∧ (∀ w9 : (Int32 × PH), x = .inr (.inr w9) → eqz h (hX w9.2) (hV w9.2)) := by
  unfold fX12_joined_b148 at hf
  have hle := eqz_rf h
  obtain ⟨c0, c1, cf⟩ := mX12_joined_b153 hf
  exact ⟨fun z e => eqz_rt (c0 z (e)) hle, fun z e => eqz_rt (c1 z (e)) hle, fun z e => eqz_rt (cf z (e)) hle⟩
set_option maxRecDepth 100000 in
theorem wX12_joined_b148 {E : PE} {p : Program} {l : Launch} {e : Env} {s : State} {m : MethodId} {args : Array Value} {below : List Frame} {meth : Method} {c : Code} (X : Cx E p l e (rmv 0 0 0) s m args below meth c RX12 cX12_joined 5 (some .boolean)) (hG : Gs E l) (hnm : meth.name = yX12_joined.name) {v0 : Nat} {v1 : Int32} {v2 : Int32} {v3 : Int32} {v4 : Int32} {t0 : Option Nat} {t1 : Int32} {h : PH} {r : (Int32 × PH)} {x : ((Int32 × PH) ⊕ ((Int32 × PH) ⊕ (Int32 × PH)))} (hf : fX12_joined_b148 v0 v1 v2 v3 v4 t0 t1 h = some x) (k0 : ∀ z : (Int32 × PH), x = .inl z → PW E p l e (rmv 0 0 0) s m args below meth c 5 0 0 (MQ below (QG E (fun v u => v = some (.int r.1) ∧ u = r.2)) args s 0 0 (pA E)) (z.2) 63 [(0, some (.ref v0)), (1, some (.int v1)), (2, some (.int v2)), (3, some (.int v3)), (4, some (.int (z.1)))] []) (k1 : ∀ z : (Int32 × PH), x = .inr (.inl z) → PW E p l e (rmv 0 0 0) s m args below meth c 5 0 0 (MQ below (QG E (fun v u => v = some (.int r.1) ∧ u = r.2)) args s 0 0 (pA E)) (z.2) 2 [(0, some (.ref v0)), (1, some (.int v1)), (2, some (.int (z.1)))] []) (kf : ∀ z : (Int32 × PH), x = .inr (.inr z) → z = r) : PW E p l e (rmv 0 0 0) s m args below meth c 5 0 0 (MQ below (QG E (fun v u => v = some (.int r.1) ∧ u = r.2)) args s 0 0 (pA E)) h 148 [(0, some (.ref v0)), (1, some (.int v1)), (2, some (.int v2)), (3, some (.int v3)), (4, some (.int v4))] [.int t1, va_rf t0] := by
  unfold fX12_joined_b148 at hf
  refine p_iconst (v := 1) X (dcg dc_X12_joined 85 rfl) (by decide) ?_
  refine p_goto (tgt := 153) X (dcg dc_X12_joined 86 rfl) (by decide) ?_
  refine p_pick [0, 1, 2, 3, 4] ?_
  exact wX12_joined_b153 X hG hnm hf k0 k1 kf
noncomputable def fX12_joined_b125 (v0 : Nat) (v1 : Int32) (v2 : Int32) (v3 : Int32) (v4 : Int32) (t0 : Option Nat) (t1 : Int32) (h : PH) : Option ((Int32 × PH) ⊕ ((Int32 × PH) ⊕ (Int32 × PH))) :=
  fX12_joined_b153 v0 v1 v2 v3 v4 t0 t1 (0 : Int32) h
set_option maxRecDepth 100000 in
theorem mX12_joined_b125 {v0 : Nat} {v1 : Int32} {v2 : Int32} {v3 : Int32} {v4 : Int32} {t0 : Option Nat} {t1 : Int32} {h : PH} {x : ((Int32 × PH) ⊕ ((Int32 × PH) ⊕ (Int32 × PH)))} (hf : fX12_joined_b125 v0 v1 v2 v3 v4 t0 t1 h = some x) : (∀ w9 : (Int32 × PH), x = .inl w9 → eqz h (hX (w9.2)) (hV (w9.2))) ∧ (∀ w9 : (Int32 × PH), x = .inr (.inl w9) → eqz h (hX (w9.2)) (hV (w9.2))) ∧ (∀ w9 : (Int32 × PH), x = .inr (.inr w9) → eqz h (hX w9.2) (hV w9.2)) := by
  unfold fX12_joined_b125 at hf
  have hle := eqz_rf h
  obtain ⟨c0, c1, cf⟩ := mX12_joined_b153 hf
  exact ⟨fun z e => eqz_rt (c0 z (e)) hle, fun z e => eqz_rt (c1 z (e)) hle, fun z e => eqz_rt (cf z (e)) hle⟩
set_option maxRecDepth 100000 in
theorem wX12_joined_b125 {E : PE} {p : Program} {l : Launch} {e : Env} {s : State} {m : MethodId} {args : Array Value} {below : List Frame} {meth : Method} {c : Code} (X : Cx E p l e (rmv 0 0 0) s m args below meth c RX12 cX12_joined 5 (some .boolean)) (hG : Gs E l) (hnm : meth.name = yX12_joined.name) {v0 : Nat} {v1 : Int32} {v2 : Int32} {v3 : Int32} {v4 : Int32} {t0 : Option Nat} {t1 : Int32} {h : PH} {r : (Int32 × PH)} {x : ((Int32 × PH) ⊕ ((Int32 × PH) ⊕ (Int32 × PH)))} (hf : fX12_joined_b125 v0 v1 v2 v3 v4 t0 t1 h = some x) (k0 : ∀ z : (Int32 × PH), x = .inl z → PW E p l e (rmv 0 0 0) s m args below meth c 5 0 0 (MQ below (QG E (fun v u => v = some (.int r.1) ∧ u = r.2)) args s 0 0 (pA E)) (z.2) 63 [(0, some (.ref v0)), (1, some (.int v1)), (2, some (.int v2)), (3, some (.int v3)), (4, some (.int (z.1)))] []) (k1 : ∀ z : (Int32 × PH), x = .inr (.inl z) → PW E p l e (rmv 0 0 0) s m args below meth c 5 0 0 (MQ below (QG E (fun v u => v = some (.int r.1) ∧ u = r.2)) args s 0 0 (pA E)) (z.2) 2 [(0, some (.ref v0)), (1, some (.int v1)), (2, some (.int (z.1)))] []) (kf : ∀ z : (Int32 × PH), x = .inr (.inr z) → z = r) : PW E p l e (rmv 0 0 0) s m args below meth c 5 0 0 (MQ below (QG E (fun v u => v = some (.int r.1) ∧ u = r.2)) args s 0 0 (pA E)) h 125 [(0, some (.ref v0)), (1, some (.int v1)), (2, some (.int v2)), (3, some (.int v3)), (4, some (.int v4))] [.int t1, va_rf t0] := by
  unfold fX12_joined_b125 at hf
  refine p_iconst (v := 0) X (dcg dc_X12_joined 73 rfl) (by decide) ?_
  refine p_goto (tgt := 153) X (dcg dc_X12_joined 74 rfl) (by decide) ?_
  refine p_pick [0, 1, 2, 3, 4] ?_
  exact wX12_joined_b153 X hG hnm hf k0 k1 kf
noncomputable def fX12_joined_c63 (v0 : Nat) (v1 : Int32) (v2 : Int32) (v3 : Int32) (v4 : Int32) (h : PH) : Option ((Int32 × PH) ⊕ ((Int32 × PH) ⊕ (Int32 × PH))) :=
  if (v4 = (-1 : Int32)) then (mr (fX12_joined_b172 v0 v1 v2 h)) else
  gd (hK h v0 = 12) (if (¬ v3 = (4 : Int32)) then (if (¬ v3 = (5 : Int32)) then (gs (hR h 12 v0 46) (fun a34 =>
  gd (hK h a34 = 21 ∧ inb v2 (hN h a34)) (if (¬ (hI h 21 a34 (Int32.toNatClampNeg v2)) = 0) then (fX12_joined_b148 v0 v1 v2 v3 v4 (some a34) v2 h) else
  gs (hR h 12 v0 46) (fun a48 =>
  gd (hK h a48 = 21 ∧ inb v4 (hN h a48)) (if ((hI h 21 a48 (Int32.toNatClampNeg v4)) = 0) then (fX12_joined_b153 v0 v1 v2 v3 v4 (some a34) v2 (0 : Int32) h) else
  fX12_joined_b148 v0 v1 v2 v3 v4 (some a34) v2 h))))) else
  gs (hR h 12 v0 46) (fun a52 =>
  gd (hK h a52 = 21 ∧ inb v2 (hN h a52)) (if ((hI h 21 a52 (Int32.toNatClampNeg v2)) = 0) then (fX12_joined_b125 v0 v1 v2 v3 v4 (some a52) v2 h) else
  gs (hR h 12 v0 46) (fun a56 =>
  gd (hK h a56 = 21 ∧ inb v4 (hN h a56)) (if ((hI h 21 a56 (Int32.toNatClampNeg v4)) = 0) then (fX12_joined_b125 v0 v1 v2 v3 v4 (some a52) v2 h) else
  fX12_joined_b153 v0 v1 v2 v3 v4 (some a52) v2 (1 : Int32) h))))) else
  gs (hR h 12 v0 46) (fun a60 =>
  gd (hK h a60 = 21 ∧ inb v4 (hN h a60)) (if (¬ (hI h 21 a60 (Int32.toNatClampNeg v4)) = 0) then (fX12_joined_b153 v0 v1 v2 v3 v4 (some a60) v2 (0 : Int32) h) else
  fX12_joined_b153 v0 v1 v2 v3 v4 (some a60) v2 (1 : Int32) h)))
set_option maxRecDepth 100000 in
theorem mX12_joined_c63 {v0 : Nat} {v1 : Int32} {v2 : Int32} {v3 : Int32} {v4 : Int32} {h : PH} {x : ((Int32 × PH) ⊕ ((Int32 × PH) ⊕ (Int32 × PH)))} (hf : fX12_joined_c63 v0 v1 v2 v3 v4 h = some x) : (∀ w9 : (Int32 × PH), x = .inl w9 → eqz h (hX (w9.2)) (hV (w9.2))) ∧ (∀ w9 : (Int32 × PH), x = .inr (.inl w9) → eqz h (hX (w9.2)) (hV (w9.2))) ∧ (∀ w9 : (Int32 × PH), x = .inr (.inr w9) → eqz h (hX w9.2) (hV w9.2)) := by
  unfold fX12_joined_c63 at hf
  have hle := eqz_rf h
  rcases ite_or hf with ⟨q, hf⟩ | ⟨q, hf⟩
  · have hf := if_t q hf
    obtain ⟨y31, hfm, rfl⟩ := mr_some hf; have hf := hfm; clear hfm
    obtain ⟨c0, cf⟩ := mX12_joined_b172 hf
    exact ⟨(fun z e => nomatch e), fun z e => eqz_rt (c0 z (Sum.inr.inj (e))) hle, fun z e => eqz_rt (cf z (Sum.inr.inj (e))) hle⟩
  · have hf := if_f q hf
    obtain ⟨hk33, hf⟩ := gd_some hf
    rcases ite_or hf with ⟨q, hf⟩ | ⟨q, hf⟩
    · have hf := if_t q hf
      rcases ite_or hf with ⟨q, hf⟩ | ⟨q, hf⟩
      · have hf := if_t q hf
        obtain ⟨a34, e35, hf⟩ := gs_some hf
        obtain ⟨⟨hk37, hb36⟩, hf⟩ := gd_some hf
        rcases ite_or hf with ⟨q, hf⟩ | ⟨q, hf⟩
        · have hf := if_t q hf
          obtain ⟨c0, c1, cf⟩ := mX12_joined_b148 hf
          exact ⟨fun z e => eqz_rt (c0 z (e)) hle, fun z e => eqz_rt (c1 z (e)) hle, fun z e => eqz_rt (cf z (e)) hle⟩
        · have hf := if_f q hf
          obtain ⟨a48, e49, hf⟩ := gs_some hf
          obtain ⟨⟨hk51, hb50⟩, hf⟩ := gd_some hf
          rcases ite_or hf with ⟨q, hf⟩ | ⟨q, hf⟩
          · have hf := if_t q hf
            obtain ⟨c0, c1, cf⟩ := mX12_joined_b153 hf
            exact ⟨fun z e => eqz_rt (c0 z (e)) hle, fun z e => eqz_rt (c1 z (e)) hle, fun z e => eqz_rt (cf z (e)) hle⟩
          · have hf := if_f q hf
            obtain ⟨c0, c1, cf⟩ := mX12_joined_b148 hf
            exact ⟨fun z e => eqz_rt (c0 z (e)) hle, fun z e => eqz_rt (c1 z (e)) hle, fun z e => eqz_rt (cf z (e)) hle⟩
      · have hf := if_f q hf
        obtain ⟨a52, e53, hf⟩ := gs_some hf
        obtain ⟨⟨hk55, hb54⟩, hf⟩ := gd_some hf
        rcases ite_or hf with ⟨q, hf⟩ | ⟨q, hf⟩
        · have hf := if_t q hf
          obtain ⟨c0, c1, cf⟩ := mX12_joined_b125 hf
          exact ⟨fun z e => eqz_rt (c0 z (e)) hle, fun z e => eqz_rt (c1 z (e)) hle, fun z e => eqz_rt (cf z (e)) hle⟩
        · have hf := if_f q hf
          obtain ⟨a56, e57, hf⟩ := gs_some hf
          obtain ⟨⟨hk59, hb58⟩, hf⟩ := gd_some hf
          rcases ite_or hf with ⟨q, hf⟩ | ⟨q, hf⟩
          · have hf := if_t q hf
            obtain ⟨c0, c1, cf⟩ := mX12_joined_b125 hf
            exact ⟨fun z e => eqz_rt (c0 z (e)) hle, fun z e => eqz_rt (c1 z (e)) hle, fun z e => eqz_rt (cf z (e)) hle⟩
          · have hf := if_f q hf
            obtain ⟨c0, c1, cf⟩ := mX12_joined_b153 hf
            exact ⟨fun z e => eqz_rt (c0 z (e)) hle, fun z e => eqz_rt (c1 z (e)) hle, fun z e => eqz_rt (cf z (e)) hle⟩
    · have hf := if_f q hf
      obtain ⟨a60, e61, hf⟩ := gs_some hf
      obtain ⟨⟨hk63, hb62⟩, hf⟩ := gd_some hf
      rcases ite_or hf with ⟨q, hf⟩ | ⟨q, hf⟩
      · have hf := if_t q hf
        obtain ⟨c0, c1, cf⟩ := mX12_joined_b153 hf
        exact ⟨fun z e => eqz_rt (c0 z (e)) hle, fun z e => eqz_rt (c1 z (e)) hle, fun z e => eqz_rt (cf z (e)) hle⟩
      · have hf := if_f q hf
        obtain ⟨c0, c1, cf⟩ := mX12_joined_b153 hf
        exact ⟨fun z e => eqz_rt (c0 z (e)) hle, fun z e => eqz_rt (c1 z (e)) hle, fun z e => eqz_rt (cf z (e)) hle⟩
set_option maxRecDepth 100000 in
theorem wX12_joined_c63 {E : PE} {p : Program} {l : Launch} {e : Env} {s : State} {m : MethodId} {args : Array Value} {below : List Frame} {meth : Method} {c : Code} (X : Cx E p l e (rmv 0 0 0) s m args below meth c RX12 cX12_joined 5 (some .boolean)) (hG : Gs E l) (hnm : meth.name = yX12_joined.name) {v0 : Nat} {v1 : Int32} {v2 : Int32} {v3 : Int32} {v4 : Int32} {h : PH} {r : (Int32 × PH)} {x : ((Int32 × PH) ⊕ ((Int32 × PH) ⊕ (Int32 × PH)))} (hf : fX12_joined_c63 v0 v1 v2 v3 v4 h = some x) (k0 : ∀ z : (Int32 × PH), x = .inl z → PW E p l e (rmv 0 0 0) s m args below meth c 5 0 0 (MQ below (QG E (fun v u => v = some (.int r.1) ∧ u = r.2)) args s 0 0 (pA E)) (z.2) 63 [(0, some (.ref v0)), (1, some (.int v1)), (2, some (.int v2)), (3, some (.int v3)), (4, some (.int (z.1)))] []) (k1 : ∀ z : (Int32 × PH), x = .inr (.inl z) → PW E p l e (rmv 0 0 0) s m args below meth c 5 0 0 (MQ below (QG E (fun v u => v = some (.int r.1) ∧ u = r.2)) args s 0 0 (pA E)) (z.2) 2 [(0, some (.ref v0)), (1, some (.int v1)), (2, some (.int (z.1)))] []) (kf : ∀ z : (Int32 × PH), x = .inr (.inr z) → z = r) : PW E p l e (rmv 0 0 0) s m args below meth c 5 0 0 (MQ below (QG E (fun v u => v = some (.int r.1) ∧ u = r.2)) args s 0 0 (pA E)) h 63 [(0, some (.ref v0)), (1, some (.int v1)), (2, some (.int v2)), (3, some (.int v3)), (4, some (.int v4))] [] := by
  unfold fX12_joined_c63 at hf
  refine p_iload X (dcg dc_X12_joined 40 rfl) rfl ?_
  refine p_iconst (v := -1) X (dcg dc_X12_joined 41 rfl) (by decide) ?_
  refine p_icmp_eq (tgt := 172) X (dcg dc_X12_joined 42 rfl) (by decide) (fun q => ?_) (fun q => ?_)
  · have hf := if_t q hf
    obtain ⟨y31, hf, hy32⟩ := mr_some hf
    refine p_pick [0, 1, 2] ?_
    exact wX12_joined_b172 X hG hnm hf (fun z0 e0 => k1 z0 (hy32.trans (congrArg Sum.inr e0))) (fun z0 e0 => kf z0 (hy32.trans (congrArg Sum.inr e0)))
  · have hf := if_f q hf
    refine p_aload_n X (dcg dc_X12_joined 43 rfl) rfl rfl ?_
    obtain ⟨hk33, hf⟩ := gd_some hf
    refine p_getR X fl_X12_111 rfl (by decide) (dcg dc_X12_joined 44 rfl) hk33 ?_
    refine p_iload_n X (dcg dc_X12_joined 45 rfl) rfl rfl ?_
    refine p_iload_n X (dcg dc_X12_joined 46 rfl) rfl rfl ?_
    refine p_iconst (v := 4) X (dcg dc_X12_joined 47 rfl) (by decide) ?_
    refine p_icmp_ne (tgt := 97) X (dcg dc_X12_joined 48 rfl) (by decide) (fun q => ?_) (fun q => ?_)
    · have hf := if_t q hf
      refine p_iload_n X (dcg dc_X12_joined 58 rfl) rfl rfl ?_
      refine p_iconst (v := 5) X (dcg dc_X12_joined 59 rfl) (by decide) ?_
      refine p_icmp_ne (tgt := 129) X (dcg dc_X12_joined 60 rfl) (by decide) (fun q => ?_) (fun q => ?_)
      · have hf := if_t q hf
        refine p_aload_n X (dcg dc_X12_joined 75 rfl) rfl rfl ?_
        refine p_getR X fl_X12_111 rfl (by decide) (dcg dc_X12_joined 76 rfl) hk33 ?_
        refine p_iload_n X (dcg dc_X12_joined 77 rfl) rfl rfl ?_
        obtain ⟨a34, e35, hf⟩ := gs_some hf
        first | subst e35 | (try rw [e35])
        obtain ⟨⟨hk37, hb36⟩, hf⟩ := gd_some hf
        refine p_zald X (dcg dc_X12_joined 78 rfl) hk37 (vp_of_inb hb36) ?_
        refine p_if_ne (tgt := 148) X (dcg dc_X12_joined 79 rfl) (by decide) (fun q => ?_) (fun q => ?_)
        · have hf := if_t q hf
          refine p_pick [0, 1, 2, 3, 4] ?_
          exact wX12_joined_b148 X hG hnm hf k0 k1 kf
        · have hf := if_f q hf
          refine p_aload_n X (dcg dc_X12_joined 80 rfl) rfl rfl ?_
          refine p_getR X fl_X12_111 rfl (by decide) (dcg dc_X12_joined 81 rfl) hk33 ?_
          refine p_iload X (dcg dc_X12_joined 82 rfl) rfl ?_
          obtain ⟨a48, e49, hf⟩ := gs_some hf
          first | subst e49 | (try rw [e49])
          obtain ⟨⟨hk51, hb50⟩, hf⟩ := gd_some hf
          refine p_zald X (dcg dc_X12_joined 83 rfl) hk51 (vp_of_inb hb50) ?_
          refine p_if_eq (tgt := 152) X (dcg dc_X12_joined 84 rfl) (by decide) (fun q => ?_) (fun q => ?_)
          · have hf := if_t q hf
            refine p_iconst (v := 0) X (dcg dc_X12_joined 87 rfl) (by decide) ?_
            refine p_pick [0, 1, 2, 3, 4] ?_
            exact wX12_joined_b153 X hG hnm hf k0 k1 kf
          · have hf := if_f q hf
            refine p_pick [0, 1, 2, 3, 4] ?_
            exact wX12_joined_b148 X hG hnm hf k0 k1 kf
      · have hf := if_f q hf
        refine p_aload_n X (dcg dc_X12_joined 61 rfl) rfl rfl ?_
        refine p_getR X fl_X12_111 rfl (by decide) (dcg dc_X12_joined 62 rfl) hk33 ?_
        refine p_iload_n X (dcg dc_X12_joined 63 rfl) rfl rfl ?_
        obtain ⟨a52, e53, hf⟩ := gs_some hf
        first | subst e53 | (try rw [e53])
        obtain ⟨⟨hk55, hb54⟩, hf⟩ := gd_some hf
        refine p_zald X (dcg dc_X12_joined 64 rfl) hk55 (vp_of_inb hb54) ?_
        refine p_if_eq (tgt := 125) X (dcg dc_X12_joined 65 rfl) (by decide) (fun q => ?_) (fun q => ?_)
        · have hf := if_t q hf
          refine p_pick [0, 1, 2, 3, 4] ?_
          exact wX12_joined_b125 X hG hnm hf k0 k1 kf
        · have hf := if_f q hf
          refine p_aload_n X (dcg dc_X12_joined 66 rfl) rfl rfl ?_
          refine p_getR X fl_X12_111 rfl (by decide) (dcg dc_X12_joined 67 rfl) hk33 ?_
          refine p_iload X (dcg dc_X12_joined 68 rfl) rfl ?_
          obtain ⟨a56, e57, hf⟩ := gs_some hf
          first | subst e57 | (try rw [e57])
          obtain ⟨⟨hk59, hb58⟩, hf⟩ := gd_some hf
          refine p_zald X (dcg dc_X12_joined 69 rfl) hk59 (vp_of_inb hb58) ?_
          refine p_if_eq (tgt := 125) X (dcg dc_X12_joined 70 rfl) (by decide) (fun q => ?_) (fun q => ?_)
          · have hf := if_t q hf
            refine p_pick [0, 1, 2, 3, 4] ?_
            exact wX12_joined_b125 X hG hnm hf k0 k1 kf
          · have hf := if_f q hf
            refine p_iconst (v := 1) X (dcg dc_X12_joined 71 rfl) (by decide) ?_
            refine p_goto (tgt := 153) X (dcg dc_X12_joined 72 rfl) (by decide) ?_
            refine p_pick [0, 1, 2, 3, 4] ?_
            exact wX12_joined_b153 X hG hnm hf k0 k1 kf
    · have hf := if_f q hf
      refine p_aload_n X (dcg dc_X12_joined 49 rfl) rfl rfl ?_
      refine p_getR X fl_X12_111 rfl (by decide) (dcg dc_X12_joined 50 rfl) hk33 ?_
      refine p_iload X (dcg dc_X12_joined 51 rfl) rfl ?_
      obtain ⟨a60, e61, hf⟩ := gs_some hf
      first | subst e61 | (try rw [e61])
      obtain ⟨⟨hk63, hb62⟩, hf⟩ := gd_some hf
      refine p_zald X (dcg dc_X12_joined 52 rfl) hk63 (vp_of_inb hb62) ?_
      refine p_if_ne (tgt := 93) X (dcg dc_X12_joined 53 rfl) (by decide) (fun q => ?_) (fun q => ?_)
      · have hf := if_t q hf
        refine p_iconst (v := 0) X (dcg dc_X12_joined 56 rfl) (by decide) ?_
        refine p_goto (tgt := 153) X (dcg dc_X12_joined 57 rfl) (by decide) ?_
        refine p_pick [0, 1, 2, 3, 4] ?_
        exact wX12_joined_b153 X hG hnm hf k0 k1 kf
      · have hf := if_f q hf
        refine p_iconst (v := 1) X (dcg dc_X12_joined 54 rfl) (by decide) ?_
        refine p_goto (tgt := 153) X (dcg dc_X12_joined 55 rfl) (by decide) ?_
        refine p_pick [0, 1, 2, 3, 4] ?_
        exact wX12_joined_b153 X hG hnm hf k0 k1 kf
noncomputable def fX12_joined_l63 (v0 : Nat) (v1 : Int32) (v2 : Int32) (v3 : Int32) (v4 : Int32) (h : PH) : Option ((Int32 × PH) ⊕ (Int32 × PH)) := wh (fun z : (Int32 × PH) => fX12_joined_c63 v0 v1 v2 v3 (z.1) (z.2)) (v4, h)
set_option maxRecDepth 100000 in
theorem mX12_joined_l63 {v0 : Nat} {v1 : Int32} {v2 : Int32} {v3 : Int32} {v4 : Int32} {h : PH} {x : ((Int32 × PH) ⊕ (Int32 × PH))} (hf : fX12_joined_l63 v0 v1 v2 v3 v4 h = some x) : (∀ w9 : (Int32 × PH), x = .inl w9 → eqz h (hX (w9.2)) (hV (w9.2))) ∧ (∀ w9 : (Int32 × PH), x = .inr w9 → eqz h (hX w9.2) (hV w9.2)) := by
  unfold fX12_joined_l63 at hf
  refine wh_ind (P := fun z => (∀ w9 : (Int32 × PH), x = .inl w9 → eqz (z.2) (hX (w9.2)) (hV (w9.2))) ∧ (∀ w9 : (Int32 × PH), x = .inr w9 → eqz (z.2) (hX w9.2) (hV w9.2))) (fun z x0 hs i1 i2 => ?_) _ hf
  obtain ⟨c0, c1, cf⟩ := mX12_joined_c63 (v0 := v0) (v1 := v1) (v2 := v2) (v3 := v3) (v4 := z.1) (h := z.2) hs
  rcases hxx : x0 with zz | (zz | zz)
  · obtain ⟨d0, d1⟩ := (i1 zz hxx)
    exact ⟨fun z1 e1 => eqz_tr (c0 zz hxx) (d0 z1 e1), fun z1 e1 => eqz_tr (c0 zz hxx) (d1 z1 e1)⟩
  · have ee := i2 _ hxx; subst ee
    exact ⟨(fun z1 e1 => by cases e1 <;> exact c1 zz hxx), (fun z1 e1 => nomatch e1)⟩
  · have ee := i2 _ hxx; subst ee
    exact ⟨(fun z1 e1 => nomatch e1), (fun z1 e1 => by cases e1; exact cf zz hxx)⟩
set_option maxRecDepth 100000 in
theorem wX12_joined_l63 {E : PE} {p : Program} {l : Launch} {e : Env} {s : State} {m : MethodId} {args : Array Value} {below : List Frame} {meth : Method} {c : Code} (X : Cx E p l e (rmv 0 0 0) s m args below meth c RX12 cX12_joined 5 (some .boolean)) (hG : Gs E l) (hnm : meth.name = yX12_joined.name) {v0 : Nat} {v1 : Int32} {v2 : Int32} {v3 : Int32} {v4 : Int32} {h : PH} {r : (Int32 × PH)} {x : ((Int32 × PH) ⊕ (Int32 × PH))} (hf : fX12_joined_l63 v0 v1 v2 v3 v4 h = some x) (k0 : ∀ z : (Int32 × PH), x = .inl z → PW E p l e (rmv 0 0 0) s m args below meth c 5 0 0 (MQ below (QG E (fun v u => v = some (.int r.1) ∧ u = r.2)) args s 0 0 (pA E)) (z.2) 2 [(0, some (.ref v0)), (1, some (.int v1)), (2, some (.int (z.1)))] []) (kf : ∀ z : (Int32 × PH), x = .inr z → z = r) : PW E p l e (rmv 0 0 0) s m args below meth c 5 0 0 (MQ below (QG E (fun v u => v = some (.int r.1) ∧ u = r.2)) args s 0 0 (pA E)) h 63 [(0, some (.ref v0)), (1, some (.int v1)), (2, some (.int v2)), (3, some (.int v3)), (4, some (.int v4))] [] := by
  unfold fX12_joined_l63 at hf
  refine wh_ind (P := fun z => PW E p l e (rmv 0 0 0) s m args below meth c 5 0 0 (MQ below (QG E (fun v u => v = some (.int r.1) ∧ u = r.2)) args s 0 0 (pA E)) (z.2) 63 [(0, some (.ref v0)), (1, some (.int v1)), (2, some (.int v2)), (3, some (.int v3)), (4, some (.int (z.1)))] []) (fun z x0 hs i1 i2 => ?_) _ hf
  exact wX12_joined_c63 (r := r) (v0 := v0) (v1 := v1) (v2 := v2) (v3 := v3) (v4 := z.1) (h := z.2) X hG hnm hs i1 (fun z1 e1 => k0 z1 (i2 _ e1).symm) (fun z1 e1 => kf z1 (i2 _ e1).symm)
noncomputable def fX12_joined_b48 (v0 : Nat) (v1 : Int32) (v2 : Int32) (v3 : Int32) (t0 : Option Nat) (t1 : Int32) (t2 : Int32) (h : PH) : Option ((Int32 × PH) ⊕ (Int32 × PH)) :=
  gs t0 (fun a21 =>
  gd (hK h a21 = 21 ∧ inb t1 (hN h a21)) (lt (sI h 21 a21 (Int32.toNatClampNeg t1) (t2 &&& 1)) (fun h25 =>
  gd (hK h25 v0 = 12) (gs (hR h25 12 v0 29) (fun a27 =>
  gd (hK h25 a27 = 20 ∧ inb (((400 : Int32) * v1) + v2) (hN h25 a27)) (fX12_joined_l63 v0 v1 v2 v3 (hI h25 20 a27 (Int32.toNatClampNeg (((400 : Int32) * v1) + v2))) h25))))))
set_option maxRecDepth 100000 in
theorem mX12_joined_b48 {v0 : Nat} {v1 : Int32} {v2 : Int32} {v3 : Int32} {t0 : Option Nat} {t1 : Int32} {t2 : Int32} {h : PH} {x : ((Int32 × PH) ⊕ (Int32 × PH))} (hf : fX12_joined_b48 v0 v1 v2 v3 t0 t1 t2 h = some x) : (∀ w9 : (Int32 × PH), x = .inl w9 → eqz h (hX (w9.2)) (hV (w9.2))) ∧ (∀ w9 : (Int32 × PH), x = .inr w9 → eqz h (hX w9.2) (hV w9.2)) := by
  unfold fX12_joined_b48 at hf
  have hle := eqz_rf h
  obtain ⟨a21, e22, hf⟩ := gs_some hf
  obtain ⟨⟨hk24, hb23⟩, hf⟩ := gd_some hf
  obtain ⟨h25, rfl, hf⟩ := lt_some hf
  obtain ⟨hk26, hf⟩ := gd_some hf
  obtain ⟨a27, e28, hf⟩ := gs_some hf
  obtain ⟨⟨hk30, hb29⟩, hf⟩ := gd_some hf
  obtain ⟨c0, cf⟩ := mX12_joined_l63 hf
  exact ⟨fun z e => eqz_rt (c0 z (e)) hle, fun z e => eqz_rt (cf z (e)) hle⟩
set_option maxRecDepth 100000 in
theorem wX12_joined_b48 {E : PE} {p : Program} {l : Launch} {e : Env} {s : State} {m : MethodId} {args : Array Value} {below : List Frame} {meth : Method} {c : Code} (X : Cx E p l e (rmv 0 0 0) s m args below meth c RX12 cX12_joined 5 (some .boolean)) (hG : Gs E l) (hnm : meth.name = yX12_joined.name) {v0 : Nat} {v1 : Int32} {v2 : Int32} {v3 : Int32} {t0 : Option Nat} {t1 : Int32} {t2 : Int32} {h : PH} {r : (Int32 × PH)} {x : ((Int32 × PH) ⊕ (Int32 × PH))} (hf : fX12_joined_b48 v0 v1 v2 v3 t0 t1 t2 h = some x) (k0 : ∀ z : (Int32 × PH), x = .inl z → PW E p l e (rmv 0 0 0) s m args below meth c 5 0 0 (MQ below (QG E (fun v u => v = some (.int r.1) ∧ u = r.2)) args s 0 0 (pA E)) (z.2) 2 [(0, some (.ref v0)), (1, some (.int v1)), (2, some (.int (z.1)))] []) (kf : ∀ z : (Int32 × PH), x = .inr z → z = r) : PW E p l e (rmv 0 0 0) s m args below meth c 5 0 0 (MQ below (QG E (fun v u => v = some (.int r.1) ∧ u = r.2)) args s 0 0 (pA E)) h 48 [(0, some (.ref v0)), (1, some (.int v1)), (2, some (.int v2)), (3, some (.int v3))] [.int t2, .int t1, va_rf t0] := by
  unfold fX12_joined_b48 at hf
  obtain ⟨a21, e22, hf⟩ := gs_some hf
  first | subst e22 | (try rw [e22])
  obtain ⟨⟨hk24, hb23⟩, hf⟩ := gd_some hf
  refine p_zast X (dcg dc_X12_joined 30 rfl) hk24 (vp_of_inb hb23) ?_
  obtain ⟨h25, rfl, hf⟩ := lt_some hf
  refine p_aload_n X (dcg dc_X12_joined 31 rfl) rfl rfl ?_
  obtain ⟨hk26, hf⟩ := gd_some hf
  refine p_getR X fl_X12_72 rfl (by decide) (dcg dc_X12_joined 32 rfl) hk26 ?_
  refine p_sipush (v := 400) X (dcg dc_X12_joined 33 rfl) (by decide) ?_
  refine p_iload_n X (dcg dc_X12_joined 34 rfl) rfl rfl ?_
  refine p_imul X (dcg dc_X12_joined 35 rfl) ?_
  refine p_iload_n X (dcg dc_X12_joined 36 rfl) rfl rfl ?_
  refine p_iadd X (dcg dc_X12_joined 37 rfl) ?_
  obtain ⟨a27, e28, hf⟩ := gs_some hf
  first | subst e28 | (try rw [e28])
  obtain ⟨⟨hk30, hb29⟩, hf⟩ := gd_some hf
  refine p_iald X (dcg dc_X12_joined 38 rfl) hk30 (vp_of_inb hb29) ?_
  refine p_istore X (dcg dc_X12_joined 39 rfl) (by decide) rfl ?_
  refine p_pick [0, 1, 2, 3, 4] ?_
  exact wX12_joined_l63 X hG hnm hf k0 kf
noncomputable def fX12_joined_c2 (v0 : Nat) (v1 : Int32) (v2 : Int32) (h : PH) : Option ((Int32 × PH) ⊕ (Int32 × PH)) :=
  gd (hK h v0 = 12) (gs (hR h 12 v0 32) (fun a2 =>
  gd (hK h a2 = 20 ∧ inb v1 (hN h a2)) (if ((hI h 20 a2 (Int32.toNatClampNeg v1)) ≤ v2) then (mr (gs (hR h 12 v0 34) (fun a8 =>
  gd (hK h a8 = 20 ∧ inb v1 (hN h a8)) (gs (hR h 12 v0 46) (fun a12 =>
  gd (hK h a12 = 21 ∧ inb (hI h 20 a8 (Int32.toNatClampNeg v1)) (hN h a12)) (gd ((hI h 21 a12 (Int32.toNatClampNeg (hI h 20 a8 (Int32.toNatClampNeg v1)))) &&& 1 = (hI h 21 a12 (Int32.toNatClampNeg (hI h 20 a8 (Int32.toNatClampNeg v1))))) (some (((hI h 21 a12 (Int32.toNatClampNeg (hI h 20 a8 (Int32.toNatClampNeg v1)))), h))))))))) else
  gs (hR h 12 v0 25) (fun a17 =>
  gd (hK h a17 = 20 ∧ inb (((400 : Int32) * v1) + v2) (hN h a17)) (if ((4 : Int32) ≤ (hI h 20 a17 (Int32.toNatClampNeg (((400 : Int32) * v1) + v2)))) then (if (¬ (hI h 20 a17 (Int32.toNatClampNeg (((400 : Int32) * v1) + v2))) = (5 : Int32)) then (fX12_joined_b48 v0 v1 v2 (hI h 20 a17 (Int32.toNatClampNeg (((400 : Int32) * v1) + v2))) (hR h 12 v0 46) v2 (0 : Int32) h) else
  fX12_joined_b48 v0 v1 v2 (hI h 20 a17 (Int32.toNatClampNeg (((400 : Int32) * v1) + v2))) (hR h 12 v0 46) v2 (1 : Int32) h) else
  fX12_joined_b172 v0 v1 v2 h)))))
set_option maxRecDepth 100000 in
theorem mX12_joined_c2 {v0 : Nat} {v1 : Int32} {v2 : Int32} {h : PH} {x : ((Int32 × PH) ⊕ (Int32 × PH))} (hf : fX12_joined_c2 v0 v1 v2 h = some x) : (∀ w9 : (Int32 × PH), x = .inl w9 → eqz h (hX (w9.2)) (hV (w9.2))) ∧ (∀ w9 : (Int32 × PH), x = .inr w9 → eqz h (hX w9.2) (hV w9.2)) := by
  unfold fX12_joined_c2 at hf
  have hle := eqz_rf h
  obtain ⟨hk1, hf⟩ := gd_some hf
  obtain ⟨a2, e3, hf⟩ := gs_some hf
  obtain ⟨⟨hk5, hb4⟩, hf⟩ := gd_some hf
  rcases ite_or hf with ⟨q, hf⟩ | ⟨q, hf⟩
  · have hf := if_t q hf
    obtain ⟨y6, hfm, rfl⟩ := mr_some hf; have hf := hfm; clear hfm
    obtain ⟨a8, e9, hf⟩ := gs_some hf
    obtain ⟨⟨hk11, hb10⟩, hf⟩ := gd_some hf
    obtain ⟨a12, e13, hf⟩ := gs_some hf
    obtain ⟨⟨hk15, hb14⟩, hf⟩ := gd_some hf
    obtain ⟨hg16, hf⟩ := gd_some hf
    have ee := Option.some.inj hf; subst ee
    exact ⟨(fun z e => nomatch e), (fun z e => by have ee := Sum.inr.inj (e); subst ee; exact hle)⟩
  · have hf := if_f q hf
    obtain ⟨a17, e18, hf⟩ := gs_some hf
    obtain ⟨⟨hk20, hb19⟩, hf⟩ := gd_some hf
    rcases ite_or hf with ⟨q, hf⟩ | ⟨q, hf⟩
    · have hf := if_t q hf
      rcases ite_or hf with ⟨q, hf⟩ | ⟨q, hf⟩
      · have hf := if_t q hf
        obtain ⟨c0, cf⟩ := mX12_joined_b48 hf
        exact ⟨fun z e => eqz_rt (c0 z (e)) hle, fun z e => eqz_rt (cf z (e)) hle⟩
      · have hf := if_f q hf
        obtain ⟨c0, cf⟩ := mX12_joined_b48 hf
        exact ⟨fun z e => eqz_rt (c0 z (e)) hle, fun z e => eqz_rt (cf z (e)) hle⟩
    · have hf := if_f q hf
      obtain ⟨c0, cf⟩ := mX12_joined_b172 hf
      exact ⟨fun z e => eqz_rt (c0 z (e)) hle, fun z e => eqz_rt (cf z (e)) hle⟩
set_option maxRecDepth 100000 in
theorem wX12_joined_c2 {E : PE} {p : Program} {l : Launch} {e : Env} {s : State} {m : MethodId} {args : Array Value} {below : List Frame} {meth : Method} {c : Code} (X : Cx E p l e (rmv 0 0 0) s m args below meth c RX12 cX12_joined 5 (some .boolean)) (hG : Gs E l) (hnm : meth.name = yX12_joined.name) {v0 : Nat} {v1 : Int32} {v2 : Int32} {h : PH} {r : (Int32 × PH)} {x : ((Int32 × PH) ⊕ (Int32 × PH))} (hf : fX12_joined_c2 v0 v1 v2 h = some x) (k0 : ∀ z : (Int32 × PH), x = .inl z → PW E p l e (rmv 0 0 0) s m args below meth c 5 0 0 (MQ below (QG E (fun v u => v = some (.int r.1) ∧ u = r.2)) args s 0 0 (pA E)) (z.2) 2 [(0, some (.ref v0)), (1, some (.int v1)), (2, some (.int (z.1)))] []) (kf : ∀ z : (Int32 × PH), x = .inr z → z = r) : PW E p l e (rmv 0 0 0) s m args below meth c 5 0 0 (MQ below (QG E (fun v u => v = some (.int r.1) ∧ u = r.2)) args s 0 0 (pA E)) h 2 [(0, some (.ref v0)), (1, some (.int v1)), (2, some (.int v2))] [] := by
  unfold fX12_joined_c2 at hf
  refine p_iload_n X (dcg dc_X12_joined 2 rfl) rfl rfl ?_
  refine p_aload_n X (dcg dc_X12_joined 3 rfl) rfl rfl ?_
  obtain ⟨hk1, hf⟩ := gd_some hf
  refine p_getR X fl_X12_81 rfl (by decide) (dcg dc_X12_joined 4 rfl) hk1 ?_
  refine p_iload_n X (dcg dc_X12_joined 5 rfl) rfl rfl ?_
  obtain ⟨a2, e3, hf⟩ := gs_some hf
  first | subst e3 | (try rw [e3])
  obtain ⟨⟨hk5, hb4⟩, hf⟩ := gd_some hf
  refine p_iald X (dcg dc_X12_joined 6 rfl) hk5 (vp_of_inb hb4) ?_
  refine p_icmp_ge (tgt := 178) X (dcg dc_X12_joined 7 rfl) (by decide) (fun q => ?_) (fun q => ?_)
  · have hf := if_t q hf
    obtain ⟨y6, hf, hy7⟩ := mr_some hf
    have hy7f := kf y6 hy7
    subst hy7f
    refine p_aload_n X (dcg dc_X12_joined 101 rfl) rfl rfl ?_
    refine p_getR X fl_X12_111 rfl (by decide) (dcg dc_X12_joined 102 rfl) hk1 ?_
    refine p_aload_n X (dcg dc_X12_joined 103 rfl) rfl rfl ?_
    refine p_getR X fl_X12_87 rfl (by decide) (dcg dc_X12_joined 104 rfl) hk1 ?_
    refine p_iload_n X (dcg dc_X12_joined 105 rfl) rfl rfl ?_
    obtain ⟨a8, e9, hf⟩ := gs_some hf
    first | subst e9 | (try rw [e9])
    obtain ⟨⟨hk11, hb10⟩, hf⟩ := gd_some hf
    refine p_iald X (dcg dc_X12_joined 106 rfl) hk11 (vp_of_inb hb10) ?_
    obtain ⟨a12, e13, hf⟩ := gs_some hf
    first | subst e13 | (try rw [e13])
    obtain ⟨⟨hk15, hb14⟩, hf⟩ := gd_some hf
    refine p_zald X (dcg dc_X12_joined 107 rfl) hk15 (vp_of_inb hb14) ?_
    obtain ⟨hg16, hf⟩ := gd_some hf
    have er := Option.some.inj hf
    subst er
    exact p_zret X rfl (congrArg Value.int hg16) (dcg dc_X12_joined 108 rfl) ⟨rfl, rfl⟩ (Nat.le_refl _) (Nat.le_refl _)
  · have hf := if_f q hf
    refine p_aload_n X (dcg dc_X12_joined 8 rfl) rfl rfl ?_
    refine p_getR X fl_X12_60 rfl (by decide) (dcg dc_X12_joined 9 rfl) hk1 ?_
    refine p_sipush (v := 400) X (dcg dc_X12_joined 10 rfl) (by decide) ?_
    refine p_iload_n X (dcg dc_X12_joined 11 rfl) rfl rfl ?_
    refine p_imul X (dcg dc_X12_joined 12 rfl) ?_
    refine p_iload_n X (dcg dc_X12_joined 13 rfl) rfl rfl ?_
    refine p_iadd X (dcg dc_X12_joined 14 rfl) ?_
    obtain ⟨a17, e18, hf⟩ := gs_some hf
    first | subst e18 | (try rw [e18])
    obtain ⟨⟨hk20, hb19⟩, hf⟩ := gd_some hf
    refine p_iald X (dcg dc_X12_joined 15 rfl) hk20 (vp_of_inb hb19) ?_
    refine p_istore_n X (dcg dc_X12_joined 16 rfl) rfl (by decide) rfl ?_
    refine p_iload_n X (dcg dc_X12_joined 17 rfl) rfl rfl ?_
    refine p_iconst (v := 4) X (dcg dc_X12_joined 18 rfl) (by decide) ?_
    refine p_icmp_ge (tgt := 33) X (dcg dc_X12_joined 19 rfl) (by decide) (fun q => ?_) (fun q => ?_)
    · have hf := if_t q hf
      refine p_aload_n X (dcg dc_X12_joined 21 rfl) rfl rfl ?_
      refine p_getR X fl_X12_111 rfl (by decide) (dcg dc_X12_joined 22 rfl) hk1 ?_
      refine p_iload_n X (dcg dc_X12_joined 23 rfl) rfl rfl ?_
      refine p_iload_n X (dcg dc_X12_joined 24 rfl) rfl rfl ?_
      refine p_iconst (v := 5) X (dcg dc_X12_joined 25 rfl) (by decide) ?_
      refine p_icmp_ne (tgt := 47) X (dcg dc_X12_joined 26 rfl) (by decide) (fun q => ?_) (fun q => ?_)
      · have hf := if_t q hf
        refine p_iconst (v := 0) X (dcg dc_X12_joined 29 rfl) (by decide) ?_
        refine p_pick [0, 1, 2, 3] ?_
        exact wX12_joined_b48 X hG hnm hf k0 kf
      · have hf := if_f q hf
        refine p_iconst (v := 1) X (dcg dc_X12_joined 27 rfl) (by decide) ?_
        refine p_goto (tgt := 48) X (dcg dc_X12_joined 28 rfl) (by decide) ?_
        refine p_pick [0, 1, 2, 3] ?_
        exact wX12_joined_b48 X hG hnm hf k0 kf
    · have hf := if_f q hf
      refine p_goto (tgt := 172) X (dcg dc_X12_joined 20 rfl) (by decide) ?_
      refine p_pick [0, 1, 2] ?_
      exact wX12_joined_b172 X hG hnm hf k0 kf
noncomputable def fX12_joined_l2 (v0 : Nat) (v1 : Int32) (v2 : Int32) (h : PH) : Option (Int32 × PH) := wh (fun z : (Int32 × PH) => fX12_joined_c2 v0 v1 (z.1) (z.2)) (v2, h)
set_option maxRecDepth 100000 in
theorem mX12_joined_l2 {v0 : Nat} {v1 : Int32} {v2 : Int32} {h : PH} {r : (Int32 × PH)} (hf : fX12_joined_l2 v0 v1 v2 h = some r) : eqz h (hX r.2) (hV r.2) := by
  unfold fX12_joined_l2 at hf
  refine wh_ind (P := fun z => eqz (z.2) (hX r.2) (hV r.2)) (fun z x0 hs i1 i2 => ?_) _ hf
  obtain ⟨c0, cf⟩ := mX12_joined_c2 (v0 := v0) (v1 := v1) (v2 := z.1) (h := z.2) hs
  rcases hxx : x0 with zz | zz
  · exact eqz_tr (c0 zz hxx) (i1 zz hxx)
  · have ee := i2 zz hxx; subst ee; exact cf zz hxx
set_option maxRecDepth 100000 in
theorem wX12_joined_l2 {E : PE} {p : Program} {l : Launch} {e : Env} {s : State} {m : MethodId} {args : Array Value} {below : List Frame} {meth : Method} {c : Code} (X : Cx E p l e (rmv 0 0 0) s m args below meth c RX12 cX12_joined 5 (some .boolean)) (hG : Gs E l) (hnm : meth.name = yX12_joined.name) {v0 : Nat} {v1 : Int32} {v2 : Int32} {h : PH} {r : (Int32 × PH)} (hf : fX12_joined_l2 v0 v1 v2 h = some r)  : PW E p l e (rmv 0 0 0) s m args below meth c 5 0 0 (MQ below (QG E (fun v u => v = some (.int r.1) ∧ u = r.2)) args s 0 0 (pA E)) h 2 [(0, some (.ref v0)), (1, some (.int v1)), (2, some (.int v2))] [] := by
  unfold fX12_joined_l2 at hf
  refine wh_ind (P := fun z => PW E p l e (rmv 0 0 0) s m args below meth c 5 0 0 (MQ below (QG E (fun v u => v = some (.int r.1) ∧ u = r.2)) args s 0 0 (pA E)) (z.2) 2 [(0, some (.ref v0)), (1, some (.int v1)), (2, some (.int (z.1)))] []) (fun z x0 hs i1 i2 => ?_) _ hf
  exact wX12_joined_c2 (r := r) (v0 := v0) (v1 := v1) (v2 := z.1) (h := z.2) X hG hnm hs i1  i2
noncomputable def fX12_joined (v0 : Nat) (v1 : Int32) (h : PH) : Option (Int32 × PH) :=
  fX12_joined_l2 v0 v1 (0 : Int32) h
set_option maxRecDepth 100000 in
theorem mX12_joined {v0 : Nat} {v1 : Int32} {h : PH} {r : (Int32 × PH)} (hf : fX12_joined v0 v1 h = some r) : eqz h (hX r.2) (hV r.2) := by
  unfold fX12_joined at hf
  have hle := eqz_rf h
  exact eqz_rt (mX12_joined_l2 hf) hle
set_option maxRecDepth 100000 in
theorem wX12_joined {E : PE} {l : Launch} (hG : Gs E l) {v0 : Nat} {v1 : Int32} {h : PH} {r : (Int32 × PH)} (hf : fX12_joined v0 v1 h = some r) : Ct E l 0 0 0 yX12_joined cX12_joined 5 (some .boolean) [.ref v0, .int v1] h (fun v u => v = some (.int r.1) ∧ u = r.2) := by
  refine ct_of hG (by decide) (Nat.le_of_ble_eq_true rfl) ?_
  intro p e s m args below meth c X hnm
  show PW E p l e _ s m args below meth c _ 0 0 _ h 0 [(0, some (.ref v0)), (1, some (.int v1))] []
  unfold fX12_joined at hf
  refine p_iconst (v := 0) X (dcg dc_X12_joined 0 rfl) (by decide) ?_
  refine p_istore_n X (dcg dc_X12_joined 1 rfl) rfl (by decide) rfl ?_
  refine p_pick [0, 1, 2] ?_
  exact wX12_joined_l2 X hG hnm hf 
