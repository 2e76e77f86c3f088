/-! methods of the program (by program: wip/whole/gen2.py) -/
theorem dc_X12_thrown : decs cX12_thrown [(0, .aload_n 0, 1), (1, .getfield 1, 3), (4, .ireturn, 1)] = true := by decide +kernel
noncomputable def fX12_thrown (v0 : Nat) (h : PH) : Option Int32 :=
  gd (hK h v0 = 12) (some ((hI h 12 v0 0)))
set_option maxRecDepth 100000 in
theorem wX12_thrown {E : PE} {l : Launch} (hG : Gs E l) {v0 : Nat} {h : PH} {r : Int32} (hf : fX12_thrown v0 h = some r) : Ct E l 0 0 0 yX12_thrown cX12_thrown 1 (some .int) [.ref v0] h (fun v u => v = some (.int r) ∧ u = h) := by
  refine ct_of hG (by decide) (Nat.le_of_ble_eq_true rfl) ?_
  intro p e s m args below meth c X hnm
  show PW E p l e _ s m args below meth c _ 0 0 _ h 0 [(0, some (.ref v0))] []
  unfold fX12_thrown at hf
  refine p_aload_n X (dcg dc_X12_thrown 0 rfl) rfl rfl ?_
  obtain ⟨hk1, hf⟩ := gd_some hf
  refine p_getI X fl_X12_1 rfl (by decide) (dcg dc_X12_thrown 1 rfl) hk1 ?_
  have er := Option.some.inj hf
  subst er
  exact p_iret X rfl (dcg dc_X12_thrown 2 rfl) ⟨rfl, rfl⟩ (Nat.le_refl _) (Nat.le_refl _)
theorem dc_X12_in : decs cX12_in [(0, .iload_n 0, 1), (1, .iload_n 1, 1), (2, .if_icmp .lt 12, 3), (5, .iload_n 0, 1), (6, .iload_n 2, 1), (7, .if_icmp .gt 7, 3), (10, .iconst 1, 1), (11, .goto 4, 3), (14, .iconst 0, 1), (15, .ireturn, 1)] = true := by decide +kernel
noncomputable def fX12_in_b15 (t0 : Int32) : Option Int32 :=
  gd (t0 &&& 1 = t0) (some (t0))
set_option maxRecDepth 100000 in
theorem wX12_in_b15 {E : PE} {p : Program} {l : Launch} {e : Env} {s : State} {m : MethodId} {args : Array Value} {below : List Frame} {meth : Method} {c : Code} (X : Cx E p l e (rmv 0 0 0) s m args below meth c RX12 cX12_in 3 (some .boolean)) (hG : Gs E l) (hnm : meth.name = yX12_in.name) {t0 : Int32} {h : PH} {r : Int32} (hf : fX12_in_b15 t0 = some r)  : PW E p l e (rmv 0 0 0) s m args below meth c 3 0 0 (MQ below (QG E (fun v u => v = some (.int r) ∧ u = h)) args s 0 0 (pA E)) h 15 [] [.int t0] := by
  unfold fX12_in_b15 at hf
  obtain ⟨hg1, hf⟩ := gd_some hf
  have er := Option.some.inj hf
  subst er
  exact p_zret X rfl (congrArg Value.int hg1) (dcg dc_X12_in 9 rfl) ⟨rfl, rfl⟩ (Nat.le_refl _) (Nat.le_refl _)
noncomputable def fX12_in_b14  : Option Int32 :=
  fX12_in_b15 (0 : Int32)
set_option maxRecDepth 100000 in
theorem wX12_in_b14 {E : PE} {p : Program} {l : Launch} {e : Env} {s : State} {m : MethodId} {args : Array Value} {below : List Frame} {meth : Method} {c : Code} (X : Cx E p l e (rmv 0 0 0) s m args below meth c RX12 cX12_in 3 (some .boolean)) (hG : Gs E l) (hnm : meth.name = yX12_in.name)  {h : PH} {r : Int32} (hf : fX12_in_b14  = some r)  : PW E p l e (rmv 0 0 0) s m args below meth c 3 0 0 (MQ below (QG E (fun v u => v = some (.int r) ∧ u = h)) args s 0 0 (pA E)) h 14 [] [] := by
  unfold fX12_in_b14 at hf
  refine p_iconst (v := 0) X (dcg dc_X12_in 8 rfl) (by decide) ?_
  refine p_pick [] ?_
  exact wX12_in_b15 X hG hnm hf 
noncomputable def fX12_in (v0 : Int32) (v1 : Int32) (v2 : Int32) : Option Int32 :=
  if (v0 < v1) then (fX12_in_b14 ) else
  if (v2 < v0) then (fX12_in_b14 ) else
  fX12_in_b15 (1 : Int32)
set_option maxRecDepth 100000 in
theorem wX12_in {E : PE} {l : Launch} (hG : Gs E l) {v0 : Int32} {v1 : Int32} {v2 : Int32} {h : PH} {r : Int32} (hf : fX12_in v0 v1 v2 = some r) : Ct E l 0 0 0 yX12_in cX12_in 3 (some .boolean) [.int v0, .int v1, .int v2] h (fun v u => v = some (.int r) ∧ u = h) := by
  refine ct_of hG (by decide) (Nat.le_of_ble_eq_true rfl) ?_
  intro p e s m args below meth c X hnm
  show PW E p l e _ s m args below meth c _ 0 0 _ h 0 [(0, some (.int v0)), (1, some (.int v1)), (2, some (.int v2))] []
  unfold fX12_in at hf
  refine p_iload_n X (dcg dc_X12_in 0 rfl) rfl rfl ?_
  refine p_iload_n X (dcg dc_X12_in 1 rfl) rfl rfl ?_
  refine p_icmp_lt (tgt := 14) X (dcg dc_X12_in 2 rfl) (by decide) (fun q => ?_) (fun q => ?_)
  · have hf := if_t q hf
    refine p_pick [] ?_
    exact wX12_in_b14 X hG hnm hf 
  · have hf := if_f q hf
    refine p_iload_n X (dcg dc_X12_in 3 rfl) rfl rfl ?_
    refine p_iload_n X (dcg dc_X12_in 4 rfl) rfl rfl ?_
    refine p_icmp_gt (tgt := 14) X (dcg dc_X12_in 5 rfl) (by decide) (fun q => ?_) (fun q => ?_)
    · have hf := if_t q hf
      refine p_pick [] ?_
      exact wX12_in_b14 X hG hnm hf 
    · have hf := if_f q hf
      refine p_iconst (v := 1) X (dcg dc_X12_in 6 rfl) (by decide) ?_
      refine p_goto (tgt := 15) X (dcg dc_X12_in 7 rfl) (by decide) ?_
      refine p_pick [] ?_
      exact wX12_in_b15 X hG hnm hf 
theorem dc_X12_fails : decs cX12_fails [(0, .iload_n 1, 1), (1, .ifCond .ne 15, 3), (4, .aload_n 0, 1), (5, .getfield 1, 3), (8, .ifCond .ne 8, 3), (11, .aload_n 0, 1), (12, .iload_n 2, 1), (13, .putfield 1, 3), (16, .aload_n 0, 1), (17, .getfield 1, 3), (20, .ifCond .eq 7, 3), (23, .iconst 1, 1), (24, .goto 4, 3), (27, .iconst 0, 1), (28, .ireturn, 1)] = true := by decide +kernel
noncomputable def fX12_fails_b28 (t0 : Int32) (h : PH) : Option (Int32 × PH) :=
  gd (t0 &&& 1 = t0) (some ((t0, h)))
set_option maxRecDepth 100000 in
theorem mX12_fails_b28 {t0 : Int32} {h : PH} {r : (Int32 × PH)} (hf : fX12_fails_b28 t0 h = some r) : eqz h (hX r.2) (hV r.2) := by
  unfold fX12_fails_b28 at hf
  have hle := eqz_rf h
  obtain ⟨hg2, hf⟩ := gd_some hf
  have ee := Option.some.inj hf; subst ee; exact hle
set_option maxRecDepth 100000 in
theorem wX12_fails_b28 {E : PE} {p : Program} {l : Launch} {e : Env} {s : State} {m : MethodId} {args : Array Value} {below : List Frame} {meth : Method} {c : Code} (X : Cx E p l e (rmv 0 0 0) s m args below meth c RX12 cX12_fails 3 (some .boolean)) (hG : Gs E l) (hnm : meth.name = yX12_fails.name) {t0 : Int32} {h : PH} {r : (Int32 × PH)} (hf : fX12_fails_b28 t0 h = some r)  : PW E p l e (rmv 0 0 0) s m args below meth c 3 0 0 (MQ below (QG E (fun v u => v = some (.int r.1) ∧ u = r.2)) args s 0 0 (pA E)) h 28 [] [.int t0] := by
  unfold fX12_fails_b28 at hf
  obtain ⟨hg2, hf⟩ := gd_some hf
  have er := Option.some.inj hf
  subst er
  exact p_zret X rfl (congrArg Value.int hg2) (dcg dc_X12_fails 14 rfl) ⟨rfl, rfl⟩ (Nat.le_refl _) (Nat.le_refl _)
noncomputable def fX12_fails_b16 (v0 : Nat) (h : PH) : Option (Int32 × PH) :=
  gd (hK h v0 = 12) (if ((hI h 12 v0 0) = 0) then (fX12_fails_b28 (0 : Int32) h) else
  fX12_fails_b28 (1 : Int32) h)
set_option maxRecDepth 100000 in
theorem mX12_fails_b16 {v0 : Nat} {h : PH} {r : (Int32 × PH)} (hf : fX12_fails_b16 v0 h = some r) : eqz h (hX r.2) (hV r.2) := by
  unfold fX12_fails_b16 at hf
  have hle := eqz_rf h
  obtain ⟨hk1, hf⟩ := gd_some hf
  rcases ite_or hf with ⟨q, hf⟩ | ⟨q, hf⟩
  · have hf := if_t q hf
    exact eqz_rt (mX12_fails_b28 hf) hle
  · have hf := if_f q hf
    exact eqz_rt (mX12_fails_b28 hf) hle
set_option maxRecDepth 100000 in
theorem wX12_fails_b16 {E : PE} {p : Program} {l : Launch} {e : Env} {s : State} {m : MethodId} {args : Array Value} {below : List Frame} {meth : Method} {c : Code} (X : Cx E p l e (rmv 0 0 0) s m args below meth c RX12 cX12_fails 3 (some .boolean)) (hG : Gs E l) (hnm : meth.name = yX12_fails.name) {v0 : Nat} {h : PH} {r : (Int32 × PH)} (hf : fX12_fails_b16 v0 h = some r)  : PW E p l e (rmv 0 0 0) s m args below meth c 3 0 0 (MQ below (QG E (fun v u => v = some (.int r.1) ∧ u = r.2)) args s 0 0 (pA E)) h 16 [(0, some (.ref v0))] [] := by
  unfold fX12_fails_b16 at hf
  refine p_aload_n X (dcg dc_X12_fails 8 rfl) rfl rfl ?_
  obtain ⟨hk1, hf⟩ := gd_some hf
  refine p_getI X fl_X12_1 rfl (by decide) (dcg dc_X12_fails 9 rfl) hk1 ?_
  refine p_if_eq (tgt := 27) X (dcg dc_X12_fails 10 rfl) (by decide) (fun q => ?_) (fun q => ?_)
  · have hf := if_t q hf
    refine p_iconst (v := 0) X (dcg dc_X12_fails 13 rfl) (by decide) ?_
    refine p_pick [] ?_
    exact wX12_fails_b28 X hG hnm hf 
  · have hf := if_f q hf
    refine p_iconst (v := 1) X (dcg dc_X12_fails 11 rfl) (by decide) ?_
    refine p_goto (tgt := 28) X (dcg dc_X12_fails 12 rfl) (by decide) ?_
    refine p_pick [] ?_
    exact wX12_fails_b28 X hG hnm hf 
noncomputable def fX12_fails (v0 : Nat) (v1 : Int32) (v2 : Int32) (h : PH) : Option (Int32 × PH) :=
  if (¬ v1 = 0) then (fX12_fails_b16 v0 h) else
  gd (hK h v0 = 12) (if (¬ (hI h 12 v0 0) = 0) then (fX12_fails_b16 v0 h) else
  lt (sI h 12 v0 0 v2) (fun h4 =>
  fX12_fails_b16 v0 h4))
set_option maxRecDepth 100000 in
theorem mX12_fails {v0 : Nat} {v1 : Int32} {v2 : Int32} {h : PH} {r : (Int32 × PH)} (hf : fX12_fails v0 v1 v2 h = some r) : eqz h (hX r.2) (hV r.2) := by
  unfold fX12_fails at hf
  have hle := eqz_rf h
  rcases ite_or hf with ⟨q, hf⟩ | ⟨q, hf⟩
  · have hf := if_t q hf
    exact eqz_rt (mX12_fails_b16 hf) hle
  · have hf := if_f q hf
    obtain ⟨hk3, hf⟩ := gd_some hf
    rcases ite_or hf with ⟨q, hf⟩ | ⟨q, hf⟩
    · have hf := if_t q hf
      exact eqz_rt (mX12_fails_b16 hf) hle
    · have hf := if_f q hf
      obtain ⟨h4, rfl, hf⟩ := lt_some hf
      exact eqz_rt (mX12_fails_b16 hf) hle
set_option maxRecDepth 100000 in
theorem wX12_fails {E : PE} {l : Launch} (hG : Gs E l) {v0 : Nat} {v1 : Int32} {v2 : Int32} {h : PH} {r : (Int32 × PH)} (hf : fX12_fails v0 v1 v2 h = some r) : Ct E l 0 0 0 yX12_fails cX12_fails 3 (some .boolean) [.ref v0, .int v1, .int v2] h (fun v u => v = some (.int r.1) ∧ u = r.2) := by
  refine ct_of hG (by decide) (Nat.le_of_ble_eq_true rfl) ?_
  intro p e s m args below meth c X hnm
  show PW E p l e _ s m args below meth c _ 0 0 _ h 0 [(0, some (.ref v0)), (1, some (.int v1)), (2, some (.int v2))] []
  unfold fX12_fails at hf
  refine p_iload_n X (dcg dc_X12_fails 0 rfl) rfl rfl ?_
  refine p_if_ne (tgt := 16) X (dcg dc_X12_fails 1 rfl) (by decide) (fun q => ?_) (fun q => ?_)
  · have hf := if_t q hf
    refine p_pick [0] ?_
    exact wX12_fails_b16 X hG hnm hf 
  · have hf := if_f q hf
    refine p_aload_n X (dcg dc_X12_fails 2 rfl) rfl rfl ?_
    obtain ⟨hk3, hf⟩ := gd_some hf
    refine p_getI X fl_X12_1 rfl (by decide) (dcg dc_X12_fails 3 rfl) hk3 ?_
    refine p_if_ne (tgt := 16) X (dcg dc_X12_fails 4 rfl) (by decide) (fun q => ?_) (fun q => ?_)
    · have hf := if_t q hf
      refine p_pick [0] ?_
      exact wX12_fails_b16 X hG hnm hf 
    · have hf := if_f q hf
      refine p_aload_n X (dcg dc_X12_fails 5 rfl) rfl rfl ?_
      refine p_iload_n X (dcg dc_X12_fails 6 rfl) rfl rfl ?_
      refine p_putI X fl_X12_1 rfl (by decide) (fun q hq => by cases hq; rfl) rfl rfl (dcg dc_X12_fails 7 rfl) hk3 ?_
      obtain ⟨h4, rfl, hf⟩ := lt_some hf
      refine p_pick [0] ?_
      exact wX12_fails_b16 X hG hnm hf 
theorem dc_X12_init : decs cX12_init [(0, .aload_n 0, 1), (1, .invokespecial 7, 3), (4, .aload_n 0, 1), (5, .sipush 300, 3), (8, .newarray .int, 2), (10, .putfield 13, 3), (13, .aload_n 0, 1), (14, .iconst (-1), 1), (15, .putfield 17, 3), (18, .aload_n 0, 1), (19, .bipush 100, 2), (21, .newarray .boolean, 2), (23, .putfield 20, 3), (26, .aload_n 0, 1), (27, .sipush 4000, 3), (30, .newarray .int, 2), (32, .putfield 24, 3), (35, .aload_n 0, 1), (36, .bipush 100, 2), (38, .newarray .int, 2), (40, .putfield 27, 3), (43, .aload_n 0, 1), (44, .bipush 40, 2), (46, .newarray .int, 2), (48, .putfield 30, 3), (51, .aload_n 0, 1), (52, .bipush 20, 2), (54, .newarray .int, 2), (56, .putfield 33, 3), (59, .aload_n 0, 1), (60, .bipush 20, 2), (62, .newarray .int, 2), (64, .putfield 36, 3), (67, .aload_n 0, 1), (68, .sipush 800, 3), (71, .newarray .int, 2), (73, .putfield 39, 3), (76, .aload_n 0, 1), (77, .bipush 20, 2), (79, .newarray .boolean, 2), (81, .putfield 42, 3), (84, .aload_n 0, 1), (85, .bipush 6, 2), (87, .newarray .boolean, 2), (89, .putfield 45, 3), (92, .aload_n 0, 1), (93, .bipush 100, 2), (95, .newarray .int, 2), (97, .putfield 48, 3), (100, .aload_n 0, 1), (101, .bipush 100, 2), (103, .newarray .int, 2), (105, .putfield 51, 3), (108, .aload_n 0, 1), (109, .bipush 100, 2), (111, .newarray .int, 2), (113, .putfield 54, 3), (116, .aload_n 0, 1), (117, .sipush 4000, 3), (120, .newarray .int, 2), (122, .putfield 57, 3), (125, .aload_n 0, 1), (126, .sipush 3200, 3), (129, .newarray .int, 2), (131, .putfield 60, 3), (134, .aload_n 0, 1), (135, .sipush 3200, 3), (138, .newarray .int, 2), (140, .putfield 63, 3), (143, .aload_n 0, 1), (144, .sipush 3200, 3), (147, .newarray .int, 2), (149, .putfield 66, 3), (152, .aload_n 0, 1), (153, .sipush 3200, 3), (156, .newarray .int, 2), (158, .putfield 69, 3), (161, .aload_n 0, 1), (162, .sipush 3200, 3), (165, .newarray .int, 2), (167, .putfield 72, 3), (170, .aload_n 0, 1), (171, .sipush 3200, 3), (174, .newarray .int, 2), (176, .putfield 75, 3), (179, .aload_n 0, 1), (180, .sipush 160, 3), (183, .newarray .int, 2), (185, .putfield 78, 3), (188, .aload_n 0, 1), (189, .bipush 8, 2), (191, .newarray .int, 2), (193, .putfield 81, 3), (196, .aload_n 0, 1), (197, .bipush 8, 2), (199, .newarray .int, 2), (201, .putfield 84, 3), (204, .aload_n 0, 1), (205, .bipush 8, 2), (207, .newarray .int, 2), (209, .dup, 1), (210, .iconst 0, 1), (211, .iconst (-1), 1), (212, .iastore, 1), (213, .dup, 1), (214, .iconst 1, 1), (215, .iconst (-1), 1), (216, .iastore, 1), (217, .dup, 1), (218, .iconst 2, 1), (219, .iconst (-1), 1), (220, .iastore, 1), (221, .dup, 1), (222, .iconst 3, 1), (223, .iconst (-1), 1), (224, .iastore, 1), (225, .dup, 1), (226, .iconst 4, 1), (227, .iconst (-1), 1), (228, .iastore, 1), (229, .dup, 1), (230, .iconst 5, 1), (231, .iconst (-1), 1), (232, .iastore, 1), (233, .dup, 1), (234, .bipush 6, 2), (236, .iconst (-1), 1), (237, .iastore, 1), (238, .dup, 1), (239, .bipush 7, 2), (241, .iconst (-1), 1), (242, .iastore, 1), (243, .putfield 87, 3), (246, .aload_n 0, 1), (247, .bipush 9, 2), (249, .newarray .int, 2), (251, .putfield 90, 3), (254, .aload_n 0, 1), (255, .bipush 9, 2), (257, .newarray .int, 2), (259, .putfield 93, 3), (262, .aload_n 0, 1), (263, .bipush 9, 2), (265, .newarray .int, 2), (267, .putfield 96, 3), (270, .aload_n 0, 1), (271, .bipush 9, 2), (273, .newarray .int, 2), (275, .putfield 99, 3), (278, .aload_n 0, 1), (279, .bipush 9, 2), (281, .newarray .int, 2), (283, .putfield 102, 3), (286, .aload_n 0, 1), (287, .bipush 9, 2), (289, .newarray .int, 2), (291, .putfield 105, 3), (294, .aload_n 0, 1), (295, .bipush 9, 2), (297, .newarray .int, 2), (299, .putfield 108, 3), (302, .aload_n 0, 1), (303, .sipush 400, 3), (306, .newarray .boolean, 2), (308, .putfield 111, 3), (311, .aload_n 0, 1), (312, .sipush 400, 3), (315, .newarray .boolean, 2), (317, .putfield 114, 3), (320, .aload_n 0, 1), (321, .bipush 100, 2), (323, .newarray .int, 2), (325, .putfield 117, 3), (328, .aload_n 0, 1), (329, .bipush 100, 2), (331, .newarray .int, 2), (333, .putfield 120, 3), (336, .aload_n 0, 1), (337, .bipush 100, 2), (339, .newarray .int, 2), (341, .putfield 123, 3), (344, .aload_n 0, 1), (345, .sipush 400, 3), (348, .newarray .int, 2), (350, .putfield 126, 3), (353, .aload_n 0, 1), (354, .sipush 400, 3), (357, .newarray .int, 2), (359, .putfield 129, 3), (362, .aload_n 0, 1), (363, .sipush 2000, 3), (366, .newarray .int, 2), (368, .putfield 132, 3), (371, .aload_n 0, 1), (372, .sipush 2000, 3), (375, .newarray .int, 2), (377, .putfield 135, 3), (380, .aload_n 0, 1), (381, .bipush 10, 2), (383, .newarray .int, 2), (385, .putfield 138, 3), (388, .aload_n 0, 1), (389, .iconst (-1), 1), (390, .putfield 141, 3), (393, .return_, 1)] = true := by decide +kernel
noncomputable def fX12_init_b385 (v0 : Nat) (t0 : Nat) (t1 : Nat) (h : PH) : Option PH :=
  gd (hK h t0 = 12) (lt (sR h 12 t0 58 (some t1)) (fun h142 =>
  gd (hK h142 v0 = 12) (lt (sI h142 12 v0 59 (-1 : Int32)) (fun h144 =>
  some (h144)))))
set_option maxRecDepth 100000 in
theorem mX12_init_b385 {v0 : Nat} {t0 : Nat} {t1 : Nat} {h : PH} {r : PH} (hf : fX12_init_b385 v0 t0 t1 h = some r) : lez h (hX r) (hV r) := by
  unfold fX12_init_b385 at hf
  have hle := lez_rf h
  obtain ⟨hk141, hf⟩ := gd_some hf
  obtain ⟨h142, rfl, hf⟩ := lt_some hf
  obtain ⟨hk143, hf⟩ := gd_some hf
  obtain ⟨h144, rfl, hf⟩ := lt_some hf
  have ee := Option.some.inj hf; subst ee; exact hle
set_option maxRecDepth 100000 in
theorem wX12_init_b385 {E : PE} {p : Program} {l : Launch} {e : Env} {s : State} {m : MethodId} {args : Array Value} {below : List Frame} {meth : Method} {c : Code} {X0 V0 MC MS uc us : Nat} (X : Cx E p l e (rmv 1 MC MS) s m args below meth c RX12 cX12_init 1 (none)) (hG : Gs E l) (hnm : meth.name = yX12_init.name) {v0 : Nat} {t0 : Nat} {t1 : Nat} {h : PH} {r : PH} (hM : MC + X0 = (hX r)) (hN : MS + V0 = (hV r)) (hu : uc + X0 = hX h) (hv : us + V0 = hV h) (hf : fX12_init_b385 v0 t0 t1 h = some r)  : PW E p l e (rmv 1 MC MS) s m args below meth c 1 uc us (MQ below (QG E (fun v u => v = none ∧ u = r)) args s MC MS (pA E)) h 385 [(0, some (.ref v0))] [.ref t1, .ref t0] := by
  have hm1 : lez h (hX r) (hV r) := mX12_init_b385 hf
  have hcm : uc ≤ MC := (by have o0 := hm1.1; have o1 := hM; have o2 := hu; (try simp only [hX_sI, hX_sR, hX_sL, hX_sD, hX_sIa, hX_sRa, hV_sI, hV_sR, hV_sL, hV_sD, hV_sIa, hV_sRa, hX_new, hV_new] at o0 o1 o2 ⊢); omega)
  have hsm : us ≤ MS := (by have o0 := hm1.2; have o1 := hN; have o2 := hv; (try simp only [hX_sI, hX_sR, hX_sL, hX_sD, hX_sIa, hX_sRa, hV_sI, hV_sR, hV_sL, hV_sD, hV_sIa, hV_sRa, hX_new, hV_new] at o0 o1 o2 ⊢); omega)
  clear hm1
  unfold fX12_init_b385 at hf
  obtain ⟨hk141, hf⟩ := gd_some hf
  refine p_putRf (v := some _) X fl_X12_138 rfl (by decide) (fun q hq => by cases hq; exact ⟨rfl, rfl⟩) hnm (nar_rf _ (by decide)) (fit_rf _ (by decide)) (dcg dc_X12_init 200 rfl) hk141 ?_
  obtain ⟨h142, rfl, hf⟩ := lt_some hf
  refine p_aload_n X (dcg dc_X12_init 201 rfl) rfl rfl ?_
  refine p_iconst (v := -1) X (dcg dc_X12_init 202 rfl) (by decide) ?_
  obtain ⟨hk143, hf⟩ := gd_some hf
  refine p_putI X fl_X12_141 rfl (by decide) (fun q hq => by cases hq; rfl) rfl rfl (dcg dc_X12_init 203 rfl) hk143 ?_
  obtain ⟨h144, rfl, hf⟩ := lt_some hf
  have er := Option.some.inj hf
  subst er
  exact p_vret X rfl (dcg dc_X12_init 204 rfl) ⟨rfl, rfl⟩ hcm hsm
noncomputable def fX12_init_b377 (v0 : Nat) (t0 : Nat) (t1 : Nat) (h : PH) : Option PH :=
  gd (hK h t0 = 12) (lt (sR h 12 t0 55 (some t1)) (fun h139 =>
  gd (¬ (10 : Int32) < 0 ∧ (Int32.toNatClampNeg (10 : Int32)) ≤ 1000000) (fX12_init_b385 v0 v0 (hX h139) (hnew h139 20 (Int32.toNatClampNeg (10 : Int32))))))
set_option maxRecDepth 100000 in
theorem mX12_init_b377 {v0 : Nat} {t0 : Nat} {t1 : Nat} {h : PH} {r : PH} (hf : fX12_init_b377 v0 t0 t1 h = some r) : lez h (hX r) (hV r) := by
  unfold fX12_init_b377 at hf
  have hle := lez_rf h
  obtain ⟨hk138, hf⟩ := gd_some hf
  obtain ⟨h139, rfl, hf⟩ := lt_some hf
  obtain ⟨hg140, hf⟩ := gd_some hf
  have hle := lez_nw (c := 20) (n := (Int32.toNatClampNeg (10 : Int32))) hle
  exact lez_rt (mX12_init_b385 hf) hle
set_option maxRecDepth 100000 in
theorem wX12_init_b377 {E : PE} {p : Program} {l : Launch} {e : Env} {s : State} {m : MethodId} {args : Array Value} {below : List Frame} {meth : Method} {c : Code} {X0 V0 MC MS uc us : Nat} (X : Cx E p l e (rmv 1 MC MS) s m args below meth c RX12 cX12_init 1 (none)) (hG : Gs E l) (hnm : meth.name = yX12_init.name) {v0 : Nat} {t0 : Nat} {t1 : Nat} {h : PH} {r : PH} (hM : MC + X0 = (hX r)) (hN : MS + V0 = (hV r)) (hu : uc + X0 = hX h) (hv : us + V0 = hV h) (hf : fX12_init_b377 v0 t0 t1 h = some r)  : PW E p l e (rmv 1 MC MS) s m args below meth c 1 uc us (MQ below (QG E (fun v u => v = none ∧ u = r)) args s MC MS (pA E)) h 377 [(0, some (.ref v0))] [.ref t1, .ref t0] := by
  have hm1 : lez h (hX r) (hV r) := mX12_init_b377 hf
  have hcm : uc ≤ MC := (by have o0 := hm1.1; have o1 := hM; have o2 := hu; (try simp only [hX_sI, hX_sR, hX_sL, hX_sD, hX_sIa, hX_sRa, hV_sI, hV_sR, hV_sL, hV_sD, hV_sIa, hV_sRa, hX_new, hV_new] at o0 o1 o2 ⊢); omega)
  have hsm : us ≤ MS := (by have o0 := hm1.2; have o1 := hN; have o2 := hv; (try simp only [hX_sI, hX_sR, hX_sL, hX_sD, hX_sIa, hX_sRa, hV_sI, hV_sR, hV_sL, hV_sD, hV_sIa, hV_sRa, hX_new, hV_new] at o0 o1 o2 ⊢); omega)
  clear hm1
  unfold fX12_init_b377 at hf
  obtain ⟨hk138, hf⟩ := gd_some hf
  refine p_putRf (v := some _) X fl_X12_135 rfl (by decide) (fun q hq => by cases hq; exact ⟨rfl, rfl⟩) hnm (nar_rf _ (by decide)) (fit_rf _ (by decide)) (dcg dc_X12_init 196 rfl) hk138 ?_
  obtain ⟨h139, rfl, hf⟩ := lt_some hf
  refine p_aload_n X (dcg dc_X12_init 197 rfl) rfl rfl ?_
  refine p_bipush (v := 10) X (dcg dc_X12_init 198 rfl) (by decide) ?_
  obtain ⟨hg140, hf⟩ := gd_some hf
  have hm1 : lez _ (hX r) (hV r) := mX12_init_b385 hf
  have hm2 := lez_new hm1
  refine p_newa20 X tw_168 (dcg dc_X12_init 199 rfl) hg140.1 hg140.2 (show uc + 1 ≤ MC from (by have o0 := hm2.1; have o1 := hM; have o2 := hu; (try simp only [hX_sI, hX_sR, hX_sL, hX_sD, hX_sIa, hX_sRa, hV_sI, hV_sR, hV_sL, hV_sD, hV_sIa, hV_sRa, hX_new, hV_new] at o0 o1 o2 ⊢); omega)) (show us + (Int32.toNatClampNeg (10 : Int32)) ≤ MS from (by have o0 := hm2.2; have o1 := hN; have o2 := hv; (try simp only [hX_sI, hX_sR, hX_sL, hX_sD, hX_sIa, hX_sRa, hV_sI, hV_sR, hV_sL, hV_sD, hV_sIa, hV_sRa, hX_new, hV_new] at o0 o1 o2 ⊢); omega)) ?_
  refine p_pick [0] ?_
  exact wX12_init_b385 X hG hnm hM hN (by have o0 := hu; (try simp only [hX_sI, hX_sR, hX_sL, hX_sD, hX_sIa, hX_sRa, hV_sI, hV_sR, hV_sL, hV_sD, hV_sIa, hV_sRa, hX_new, hV_new] at o0 ⊢); omega) (by have o0 := hv; (try simp only [hX_sI, hX_sR, hX_sL, hX_sD, hX_sIa, hX_sRa, hV_sI, hV_sR, hV_sL, hV_sD, hV_sIa, hV_sRa, hX_new, hV_new] at o0 ⊢); omega) hf 
noncomputable def fX12_init_b368 (v0 : Nat) (t0 : Nat) (t1 : Nat) (h : PH) : Option PH :=
  gd (hK h t0 = 12) (lt (sR h 12 t0 54 (some t1)) (fun h136 =>
  gd (¬ (2000 : Int32) < 0 ∧ (Int32.toNatClampNeg (2000 : Int32)) ≤ 1000000) (fX12_init_b377 v0 v0 (hX h136) (hnew h136 20 (Int32.toNatClampNeg (2000 : Int32))))))
set_option maxRecDepth 100000 in
theorem mX12_init_b368 {v0 : Nat} {t0 : Nat} {t1 : Nat} {h : PH} {r : PH} (hf : fX12_init_b368 v0 t0 t1 h = some r) : lez h (hX r) (hV r) := by
  unfold fX12_init_b368 at hf
  have hle := lez_rf h
  obtain ⟨hk135, hf⟩ := gd_some hf
  obtain ⟨h136, rfl, hf⟩ := lt_some hf
  obtain ⟨hg137, hf⟩ := gd_some hf
  have hle := lez_nw (c := 20) (n := (Int32.toNatClampNeg (2000 : Int32))) hle
  exact lez_rt (mX12_init_b377 hf) hle
set_option maxRecDepth 100000 in
theorem wX12_init_b368 {E : PE} {p : Program} {l : Launch} {e : Env} {s : State} {m : MethodId} {args : Array Value} {below : List Frame} {meth : Method} {c : Code} {X0 V0 MC MS uc us : Nat} (X : Cx E p l e (rmv 1 MC MS) s m args below meth c RX12 cX12_init 1 (none)) (hG : Gs E l) (hnm : meth.name = yX12_init.name) {v0 : Nat} {t0 : Nat} {t1 : Nat} {h : PH} {r : PH} (hM : MC + X0 = (hX r)) (hN : MS + V0 = (hV r)) (hu : uc + X0 = hX h) (hv : us + V0 = hV h) (hf : fX12_init_b368 v0 t0 t1 h = some r)  : PW E p l e (rmv 1 MC MS) s m args below meth c 1 uc us (MQ below (QG E (fun v u => v = none ∧ u = r)) args s MC MS (pA E)) h 368 [(0, some (.ref v0))] [.ref t1, .ref t0] := by
  have hm1 : lez h (hX r) (hV r) := mX12_init_b368 hf
  have hcm : uc ≤ MC := (by have o0 := hm1.1; have o1 := hM; have o2 := hu; (try simp only [hX_sI, hX_sR, hX_sL, hX_sD, hX_sIa, hX_sRa, hV_sI, hV_sR, hV_sL, hV_sD, hV_sIa, hV_sRa, hX_new, hV_new] at o0 o1 o2 ⊢); omega)
  have hsm : us ≤ MS := (by have o0 := hm1.2; have o1 := hN; have o2 := hv; (try simp only [hX_sI, hX_sR, hX_sL, hX_sD, hX_sIa, hX_sRa, hV_sI, hV_sR, hV_sL, hV_sD, hV_sIa, hV_sRa, hX_new, hV_new] at o0 o1 o2 ⊢); omega)
  clear hm1
  unfold fX12_init_b368 at hf
  obtain ⟨hk135, hf⟩ := gd_some hf
  refine p_putRf (v := some _) X fl_X12_132 rfl (by decide) (fun q hq => by cases hq; exact ⟨rfl, rfl⟩) hnm (nar_rf _ (by decide)) (fit_rf _ (by decide)) (dcg dc_X12_init 192 rfl) hk135 ?_
  obtain ⟨h136, rfl, hf⟩ := lt_some hf
  refine p_aload_n X (dcg dc_X12_init 193 rfl) rfl rfl ?_
  refine p_sipush (v := 2000) X (dcg dc_X12_init 194 rfl) (by decide) ?_
  obtain ⟨hg137, hf⟩ := gd_some hf
  have hm1 : lez _ (hX r) (hV r) := mX12_init_b377 hf
  have hm2 := lez_new hm1
  refine p_newa20 X tw_168 (dcg dc_X12_init 195 rfl) hg137.1 hg137.2 (show uc + 1 ≤ MC from (by have o0 := hm2.1; have o1 := hM; have o2 := hu; (try simp only [hX_sI, hX_sR, hX_sL, hX_sD, hX_sIa, hX_sRa, hV_sI, hV_sR, hV_sL, hV_sD, hV_sIa, hV_sRa, hX_new, hV_new] at o0 o1 o2 ⊢); omega)) (show us + (Int32.toNatClampNeg (2000 : Int32)) ≤ MS from (by have o0 := hm2.2; have o1 := hN; have o2 := hv; (try simp only [hX_sI, hX_sR, hX_sL, hX_sD, hX_sIa, hX_sRa, hV_sI, hV_sR, hV_sL, hV_sD, hV_sIa, hV_sRa, hX_new, hV_new] at o0 o1 o2 ⊢); omega)) ?_
  refine p_pick [0] ?_
  exact wX12_init_b377 X hG hnm hM hN (by have o0 := hu; (try simp only [hX_sI, hX_sR, hX_sL, hX_sD, hX_sIa, hX_sRa, hV_sI, hV_sR, hV_sL, hV_sD, hV_sIa, hV_sRa, hX_new, hV_new] at o0 ⊢); omega) (by have o0 := hv; (try simp only [hX_sI, hX_sR, hX_sL, hX_sD, hX_sIa, hX_sRa, hV_sI, hV_sR, hV_sL, hV_sD, hV_sIa, hV_sRa, hX_new, hV_new] at o0 ⊢); omega) hf 
noncomputable def fX12_init_b359 (v0 : Nat) (t0 : Nat) (t1 : Nat) (h : PH) : Option PH :=
  gd (hK h t0 = 12) (lt (sR h 12 t0 53 (some t1)) (fun h133 =>
  gd (¬ (2000 : Int32) < 0 ∧ (Int32.toNatClampNeg (2000 : Int32)) ≤ 1000000) (fX12_init_b368 v0 v0 (hX h133) (hnew h133 20 (Int32.toNatClampNeg (2000 : Int32))))))
set_option maxRecDepth 100000 in
theorem mX12_init_b359 {v0 : Nat} {t0 : Nat} {t1 : Nat} {h : PH} {r : PH} (hf : fX12_init_b359 v0 t0 t1 h = some r) : lez h (hX r) (hV r) := by
  unfold fX12_init_b359 at hf
  have hle := lez_rf h
  obtain ⟨hk132, hf⟩ := gd_some hf
  obtain ⟨h133, rfl, hf⟩ := lt_some hf
  obtain ⟨hg134, hf⟩ := gd_some hf
  have hle := lez_nw (c := 20) (n := (Int32.toNatClampNeg (2000 : Int32))) hle
  exact lez_rt (mX12_init_b368 hf) hle
set_option maxRecDepth 100000 in
theorem wX12_init_b359 {E : PE} {p : Program} {l : Launch} {e : Env} {s : State} {m : MethodId} {args : Array Value} {below : List Frame} {meth : Method} {c : Code} {X0 V0 MC MS uc us : Nat} (X : Cx E p l e (rmv 1 MC MS) s m args below meth c RX12 cX12_init 1 (none)) (hG : Gs E l) (hnm : meth.name = yX12_init.name) {v0 : Nat} {t0 : Nat} {t1 : Nat} {h : PH} {r : PH} (hM : MC + X0 = (hX r)) (hN : MS + V0 = (hV r)) (hu : uc + X0 = hX h) (hv : us + V0 = hV h) (hf : fX12_init_b359 v0 t0 t1 h = some r)  : PW E p l e (rmv 1 MC MS) s m args below meth c 1 uc us (MQ below (QG E (fun v u => v = none ∧ u = r)) args s MC MS (pA E)) h 359 [(0, some (.ref v0))] [.ref t1, .ref t0] := by
  have hm1 : lez h (hX r) (hV r) := mX12_init_b359 hf
  have hcm : uc ≤ MC := (by have o0 := hm1.1; have o1 := hM; have o2 := hu; (try simp only [hX_sI, hX_sR, hX_sL, hX_sD, hX_sIa, hX_sRa, hV_sI, hV_sR, hV_sL, hV_sD, hV_sIa, hV_sRa, hX_new, hV_new] at o0 o1 o2 ⊢); omega)
  have hsm : us ≤ MS := (by have o0 := hm1.2; have o1 := hN; have o2 := hv; (try simp only [hX_sI, hX_sR, hX_sL, hX_sD, hX_sIa, hX_sRa, hV_sI, hV_sR, hV_sL, hV_sD, hV_sIa, hV_sRa, hX_new, hV_new] at o0 o1 o2 ⊢); omega)
  clear hm1
  unfold fX12_init_b359 at hf
  obtain ⟨hk132, hf⟩ := gd_some hf
  refine p_putRf (v := some _) X fl_X12_129 rfl (by decide) (fun q hq => by cases hq; exact ⟨rfl, rfl⟩) hnm (nar_rf _ (by decide)) (fit_rf _ (by decide)) (dcg dc_X12_init 188 rfl) hk132 ?_
  obtain ⟨h133, rfl, hf⟩ := lt_some hf
  refine p_aload_n X (dcg dc_X12_init 189 rfl) rfl rfl ?_
  refine p_sipush (v := 2000) X (dcg dc_X12_init 190 rfl) (by decide) ?_
  obtain ⟨hg134, hf⟩ := gd_some hf
  have hm1 : lez _ (hX r) (hV r) := mX12_init_b368 hf
  have hm2 := lez_new hm1
  refine p_newa20 X tw_168 (dcg dc_X12_init 191 rfl) hg134.1 hg134.2 (show uc + 1 ≤ MC from (by have o0 := hm2.1; have o1 := hM; have o2 := hu; (try simp only [hX_sI, hX_sR, hX_sL, hX_sD, hX_sIa, hX_sRa, hV_sI, hV_sR, hV_sL, hV_sD, hV_sIa, hV_sRa, hX_new, hV_new] at o0 o1 o2 ⊢); omega)) (show us + (Int32.toNatClampNeg (2000 : Int32)) ≤ MS from (by have o0 := hm2.2; have o1 := hN; have o2 := hv; (try simp only [hX_sI, hX_sR, hX_sL, hX_sD, hX_sIa, hX_sRa, hV_sI, hV_sR, hV_sL, hV_sD, hV_sIa, hV_sRa, hX_new, hV_new] at o0 o1 o2 ⊢); omega)) ?_
  refine p_pick [0] ?_
  exact wX12_init_b368 X hG hnm hM hN (by have o0 := hu; (try simp only [hX_sI, hX_sR, hX_sL, hX_sD, hX_sIa, hX_sRa, hV_sI, hV_sR, hV_sL, hV_sD, hV_sIa, hV_sRa, hX_new, hV_new] at o0 ⊢); omega) (by have o0 := hv; (try simp only [hX_sI, hX_sR, hX_sL, hX_sD, hX_sIa, hX_sRa, hV_sI, hV_sR, hV_sL, hV_sD, hV_sIa, hV_sRa, hX_new, hV_new] at o0 ⊢); omega) hf 
noncomputable def fX12_init_b350 (v0 : Nat) (t0 : Nat) (t1 : Nat) (h : PH) : Option PH :=
  gd (hK h t0 = 12) (lt (sR h 12 t0 52 (some t1)) (fun h130 =>
  gd (¬ (400 : Int32) < 0 ∧ (Int32.toNatClampNeg (400 : Int32)) ≤ 1000000) (fX12_init_b359 v0 v0 (hX h130) (hnew h130 20 (Int32.toNatClampNeg (400 : Int32))))))
set_option maxRecDepth 100000 in
theorem mX12_init_b350 {v0 : Nat} {t0 : Nat} {t1 : Nat} {h : PH} {r : PH} (hf : fX12_init_b350 v0 t0 t1 h = some r) : lez h (hX r) (hV r) := by
  unfold fX12_init_b350 at hf
  have hle := lez_rf h
  obtain ⟨hk129, hf⟩ := gd_some hf
  obtain ⟨h130, rfl, hf⟩ := lt_some hf
  obtain ⟨hg131, hf⟩ := gd_some hf
  have hle := lez_nw (c := 20) (n := (Int32.toNatClampNeg (400 : Int32))) hle
  exact lez_rt (mX12_init_b359 hf) hle
set_option maxRecDepth 100000 in
theorem wX12_init_b350 {E : PE} {p : Program} {l : Launch} {e : Env} {s : State} {m : MethodId} {args : Array Value} {below : List Frame} {meth : Method} {c : Code} {X0 V0 MC MS uc us : Nat} (X : Cx E p l e (rmv 1 MC MS) s m args below meth c RX12 cX12_init 1 (none)) (hG : Gs E l) (hnm : meth.name = yX12_init.name) {v0 : Nat} {t0 : Nat} {t1 : Nat} {h : PH} {r : PH} (hM : MC + X0 = (hX r)) (hN : MS + V0 = (hV r)) (hu : uc + X0 = hX h) (hv : us + V0 = hV h) (hf : fX12_init_b350 v0 t0 t1 h = some r)  : PW E p l e (rmv 1 MC MS) s m args below meth c 1 uc us (MQ below (QG E (fun v u => v = none ∧ u = r)) args s MC MS (pA E)) h 350 [(0, some (.ref v0))] [.ref t1, .ref t0] := by
  have hm1 : lez h (hX r) (hV r) := mX12_init_b350 hf
  have hcm : uc ≤ MC := (by have o0 := hm1.1; have o1 := hM; have o2 := hu; (try simp only [hX_sI, hX_sR, hX_sL, hX_sD, hX_sIa, hX_sRa, hV_sI, hV_sR, hV_sL, hV_sD, hV_sIa, hV_sRa, hX_new, hV_new] at o0 o1 o2 ⊢); omega)
  have hsm : us ≤ MS := (by have o0 := hm1.2; have o1 := hN; have o2 := hv; (try simp only [hX_sI, hX_sR, hX_sL, hX_sD, hX_sIa, hX_sRa, hV_sI, hV_sR, hV_sL, hV_sD, hV_sIa, hV_sRa, hX_new, hV_new] at o0 o1 o2 ⊢); omega)
  clear hm1
  unfold fX12_init_b350 at hf
  obtain ⟨hk129, hf⟩ := gd_some hf
  refine p_putRf (v := some _) X fl_X12_126 rfl (by decide) (fun q hq => by cases hq; exact ⟨rfl, rfl⟩) hnm (nar_rf _ (by decide)) (fit_rf _ (by decide)) (dcg dc_X12_init 184 rfl) hk129 ?_
  obtain ⟨h130, rfl, hf⟩ := lt_some hf
  refine p_aload_n X (dcg dc_X12_init 185 rfl) rfl rfl ?_
  refine p_sipush (v := 400) X (dcg dc_X12_init 186 rfl) (by decide) ?_
  obtain ⟨hg131, hf⟩ := gd_some hf
  have hm1 : lez _ (hX r) (hV r) := mX12_init_b359 hf
  have hm2 := lez_new hm1
  refine p_newa20 X tw_168 (dcg dc_X12_init 187 rfl) hg131.1 hg131.2 (show uc + 1 ≤ MC from (by have o0 := hm2.1; have o1 := hM; have o2 := hu; (try simp only [hX_sI, hX_sR, hX_sL, hX_sD, hX_sIa, hX_sRa, hV_sI, hV_sR, hV_sL, hV_sD, hV_sIa, hV_sRa, hX_new, hV_new] at o0 o1 o2 ⊢); omega)) (show us + (Int32.toNatClampNeg (400 : Int32)) ≤ MS from (by have o0 := hm2.2; have o1 := hN; have o2 := hv; (try simp only [hX_sI, hX_sR, hX_sL, hX_sD, hX_sIa, hX_sRa, hV_sI, hV_sR, hV_sL, hV_sD, hV_sIa, hV_sRa, hX_new, hV_new] at o0 o1 o2 ⊢); omega)) ?_
  refine p_pick [0] ?_
  exact wX12_init_b359 X hG hnm hM hN (by have o0 := hu; (try simp only [hX_sI, hX_sR, hX_sL, hX_sD, hX_sIa, hX_sRa, hV_sI, hV_sR, hV_sL, hV_sD, hV_sIa, hV_sRa, hX_new, hV_new] at o0 ⊢); omega) (by have o0 := hv; (try simp only [hX_sI, hX_sR, hX_sL, hX_sD, hX_sIa, hX_sRa, hV_sI, hV_sR, hV_sL, hV_sD, hV_sIa, hV_sRa, hX_new, hV_new] at o0 ⊢); omega) hf 
noncomputable def fX12_init_b341 (v0 : Nat) (t0 : Nat) (t1 : Nat) (h : PH) : Option PH :=
  gd (hK h t0 = 12) (lt (sR h 12 t0 50 (some t1)) (fun h127 =>
  gd (¬ (400 : Int32) < 0 ∧ (Int32.toNatClampNeg (400 : Int32)) ≤ 1000000) (fX12_init_b350 v0 v0 (hX h127) (hnew h127 20 (Int32.toNatClampNeg (400 : Int32))))))
set_option maxRecDepth 100000 in
theorem mX12_init_b341 {v0 : Nat} {t0 : Nat} {t1 : Nat} {h : PH} {r : PH} (hf : fX12_init_b341 v0 t0 t1 h = some r) : lez h (hX r) (hV r) := by
  unfold fX12_init_b341 at hf
  have hle := lez_rf h
  obtain ⟨hk126, hf⟩ := gd_some hf
  obtain ⟨h127, rfl, hf⟩ := lt_some hf
  obtain ⟨hg128, hf⟩ := gd_some hf
  have hle := lez_nw (c := 20) (n := (Int32.toNatClampNeg (400 : Int32))) hle
  exact lez_rt (mX12_init_b350 hf) hle
set_option maxRecDepth 100000 in
theorem wX12_init_b341 {E : PE} {p : Program} {l : Launch} {e : Env} {s : State} {m : MethodId} {args : Array Value} {below : List Frame} {meth : Method} {c : Code} {X0 V0 MC MS uc us : Nat} (X : Cx E p l e (rmv 1 MC MS) s m args below meth c RX12 cX12_init 1 (none)) (hG : Gs E l) (hnm : meth.name = yX12_init.name) {v0 : Nat} {t0 : Nat} {t1 : Nat} {h : PH} {r : PH} (hM : MC + X0 = (hX r)) (hN : MS + V0 = (hV r)) (hu : uc + X0 = hX h) (hv : us + V0 = hV h) (hf : fX12_init_b341 v0 t0 t1 h = some r)  : PW E p l e (rmv 1 MC MS) s m args below meth c 1 uc us (MQ below (QG E (fun v u => v = none ∧ u = r)) args s MC MS (pA E)) h 341 [(0, some (.ref v0))] [.ref t1, .ref t0] := by
  have hm1 : lez h (hX r) (hV r) := mX12_init_b341 hf
  have hcm : uc ≤ MC := (by have o0 := hm1.1; have o1 := hM; have o2 := hu; (try simp only [hX_sI, hX_sR, hX_sL, hX_sD, hX_sIa, hX_sRa, hV_sI, hV_sR, hV_sL, hV_sD, hV_sIa, hV_sRa, hX_new, hV_new] at o0 o1 o2 ⊢); omega)
  have hsm : us ≤ MS := (by have o0 := hm1.2; have o1 := hN; have o2 := hv; (try simp only [hX_sI, hX_sR, hX_sL, hX_sD, hX_sIa, hX_sRa, hV_sI, hV_sR, hV_sL, hV_sD, hV_sIa, hV_sRa, hX_new, hV_new] at o0 o1 o2 ⊢); omega)
  clear hm1
  unfold fX12_init_b341 at hf
  obtain ⟨hk126, hf⟩ := gd_some hf
  refine p_putRf (v := some _) X fl_X12_123 rfl (by decide) (fun q hq => by cases hq; exact ⟨rfl, rfl⟩) hnm (nar_rf _ (by decide)) (fit_rf _ (by decide)) (dcg dc_X12_init 180 rfl) hk126 ?_
  obtain ⟨h127, rfl, hf⟩ := lt_some hf
  refine p_aload_n X (dcg dc_X12_init 181 rfl) rfl rfl ?_
  refine p_sipush (v := 400) X (dcg dc_X12_init 182 rfl) (by decide) ?_
  obtain ⟨hg128, hf⟩ := gd_some hf
  have hm1 : lez _ (hX r) (hV r) := mX12_init_b350 hf
  have hm2 := lez_new hm1
  refine p_newa20 X tw_168 (dcg dc_X12_init 183 rfl) hg128.1 hg128.2 (show uc + 1 ≤ MC from (by have o0 := hm2.1; have o1 := hM; have o2 := hu; (try simp only [hX_sI, hX_sR, hX_sL, hX_sD, hX_sIa, hX_sRa, hV_sI, hV_sR, hV_sL, hV_sD, hV_sIa, hV_sRa, hX_new, hV_new] at o0 o1 o2 ⊢); omega)) (show us + (Int32.toNatClampNeg (400 : Int32)) ≤ MS from (by have o0 := hm2.2; have o1 := hN; have o2 := hv; (try simp only [hX_sI, hX_sR, hX_sL, hX_sD, hX_sIa, hX_sRa, hV_sI, hV_sR, hV_sL, hV_sD, hV_sIa, hV_sRa, hX_new, hV_new] at o0 o1 o2 ⊢); omega)) ?_
  refine p_pick [0] ?_
  exact wX12_init_b350 X hG hnm hM hN (by have o0 := hu; (try simp only [hX_sI, hX_sR, hX_sL, hX_sD, hX_sIa, hX_sRa, hV_sI, hV_sR, hV_sL, hV_sD, hV_sIa, hV_sRa, hX_new, hV_new] at o0 ⊢); omega) (by have o0 := hv; (try simp only [hX_sI, hX_sR, hX_sL, hX_sD, hX_sIa, hX_sRa, hV_sI, hV_sR, hV_sL, hV_sD, hV_sIa, hV_sRa, hX_new, hV_new] at o0 ⊢); omega) hf 
noncomputable def fX12_init_b333 (v0 : Nat) (t0 : Nat) (t1 : Nat) (h : PH) : Option PH :=
  gd (hK h t0 = 12) (lt (sR h 12 t0 49 (some t1)) (fun h124 =>
  gd (¬ (100 : Int32) < 0 ∧ (Int32.toNatClampNeg (100 : Int32)) ≤ 1000000) (fX12_init_b341 v0 v0 (hX h124) (hnew h124 20 (Int32.toNatClampNeg (100 : Int32))))))
set_option maxRecDepth 100000 in
theorem mX12_init_b333 {v0 : Nat} {t0 : Nat} {t1 : Nat} {h : PH} {r : PH} (hf : fX12_init_b333 v0 t0 t1 h = some r) : lez h (hX r) (hV r) := by
  unfold fX12_init_b333 at hf
  have hle := lez_rf h
  obtain ⟨hk123, hf⟩ := gd_some hf
  obtain ⟨h124, rfl, hf⟩ := lt_some hf
  obtain ⟨hg125, hf⟩ := gd_some hf
  have hle := lez_nw (c := 20) (n := (Int32.toNatClampNeg (100 : Int32))) hle
  exact lez_rt (mX12_init_b341 hf) hle
set_option maxRecDepth 100000 in
theorem wX12_init_b333 {E : PE} {p : Program} {l : Launch} {e : Env} {s : State} {m : MethodId} {args : Array Value} {below : List Frame} {meth : Method} {c : Code} {X0 V0 MC MS uc us : Nat} (X : Cx E p l e (rmv 1 MC MS) s m args below meth c RX12 cX12_init 1 (none)) (hG : Gs E l) (hnm : meth.name = yX12_init.name) {v0 : Nat} {t0 : Nat} {t1 : Nat} {h : PH} {r : PH} (hM : MC + X0 = (hX r)) (hN : MS + V0 = (hV r)) (hu : uc + X0 = hX h) (hv : us + V0 = hV h) (hf : fX12_init_b333 v0 t0 t1 h = some r)  : PW E p l e (rmv 1 MC MS) s m args below meth c 1 uc us (MQ below (QG E (fun v u => v = none ∧ u = r)) args s MC MS (pA E)) h 333 [(0, some (.ref v0))] [.ref t1, .ref t0] := by
  have hm1 : lez h (hX r) (hV r) := mX12_init_b333 hf
  have hcm : uc ≤ MC := (by have o0 := hm1.1; have o1 := hM; have o2 := hu; (try simp only [hX_sI, hX_sR, hX_sL, hX_sD, hX_sIa, hX_sRa, hV_sI, hV_sR, hV_sL, hV_sD, hV_sIa, hV_sRa, hX_new, hV_new] at o0 o1 o2 ⊢); omega)
  have hsm : us ≤ MS := (by have o0 := hm1.2; have o1 := hN; have o2 := hv; (try simp only [hX_sI, hX_sR, hX_sL, hX_sD, hX_sIa, hX_sRa, hV_sI, hV_sR, hV_sL, hV_sD, hV_sIa, hV_sRa, hX_new, hV_new] at o0 o1 o2 ⊢); omega)
  clear hm1
  unfold fX12_init_b333 at hf
  obtain ⟨hk123, hf⟩ := gd_some hf
  refine p_putRf (v := some _) X fl_X12_120 rfl (by decide) (fun q hq => by cases hq; exact ⟨rfl, rfl⟩) hnm (nar_rf _ (by decide)) (fit_rf _ (by decide)) (dcg dc_X12_init 176 rfl) hk123 ?_
  obtain ⟨h124, rfl, hf⟩ := lt_some hf
  refine p_aload_n X (dcg dc_X12_init 177 rfl) rfl rfl ?_
  refine p_bipush (v := 100) X (dcg dc_X12_init 178 rfl) (by decide) ?_
  obtain ⟨hg125, hf⟩ := gd_some hf
  have hm1 : lez _ (hX r) (hV r) := mX12_init_b341 hf
  have hm2 := lez_new hm1
  refine p_newa20 X tw_168 (dcg dc_X12_init 179 rfl) hg125.1 hg125.2 (show uc + 1 ≤ MC from (by have o0 := hm2.1; have o1 := hM; have o2 := hu; (try simp only [hX_sI, hX_sR, hX_sL, hX_sD, hX_sIa, hX_sRa, hV_sI, hV_sR, hV_sL, hV_sD, hV_sIa, hV_sRa, hX_new, hV_new] at o0 o1 o2 ⊢); omega)) (show us + (Int32.toNatClampNeg (100 : Int32)) ≤ MS from (by have o0 := hm2.2; have o1 := hN; have o2 := hv; (try simp only [hX_sI, hX_sR, hX_sL, hX_sD, hX_sIa, hX_sRa, hV_sI, hV_sR, hV_sL, hV_sD, hV_sIa, hV_sRa, hX_new, hV_new] at o0 o1 o2 ⊢); omega)) ?_
  refine p_pick [0] ?_
  exact wX12_init_b341 X hG hnm hM hN (by have o0 := hu; (try simp only [hX_sI, hX_sR, hX_sL, hX_sD, hX_sIa, hX_sRa, hV_sI, hV_sR, hV_sL, hV_sD, hV_sIa, hV_sRa, hX_new, hV_new] at o0 ⊢); omega) (by have o0 := hv; (try simp only [hX_sI, hX_sR, hX_sL, hX_sD, hX_sIa, hX_sRa, hV_sI, hV_sR, hV_sL, hV_sD, hV_sIa, hV_sRa, hX_new, hV_new] at o0 ⊢); omega) hf 
noncomputable def fX12_init_b325 (v0 : Nat) (t0 : Nat) (t1 : Nat) (h : PH) : Option PH :=
  gd (hK h t0 = 12) (lt (sR h 12 t0 48 (some t1)) (fun h121 =>
  gd (¬ (100 : Int32) < 0 ∧ (Int32.toNatClampNeg (100 : Int32)) ≤ 1000000) (fX12_init_b333 v0 v0 (hX h121) (hnew h121 20 (Int32.toNatClampNeg (100 : Int32))))))
set_option maxRecDepth 100000 in
theorem mX12_init_b325 {v0 : Nat} {t0 : Nat} {t1 : Nat} {h : PH} {r : PH} (hf : fX12_init_b325 v0 t0 t1 h = some r) : lez h (hX r) (hV r) := by
  unfold fX12_init_b325 at hf
  have hle := lez_rf h
  obtain ⟨hk120, hf⟩ := gd_some hf
  obtain ⟨h121, rfl, hf⟩ := lt_some hf
  obtain ⟨hg122, hf⟩ := gd_some hf
  have hle := lez_nw (c := 20) (n := (Int32.toNatClampNeg (100 : Int32))) hle
  exact lez_rt (mX12_init_b333 hf) hle
set_option maxRecDepth 100000 in
theorem wX12_init_b325 {E : PE} {p : Program} {l : Launch} {e : Env} {s : State} {m : MethodId} {args : Array Value} {below : List Frame} {meth : Method} {c : Code} {X0 V0 MC MS uc us : Nat} (X : Cx E p l e (rmv 1 MC MS) s m args below meth c RX12 cX12_init 1 (none)) (hG : Gs E l) (hnm : meth.name = yX12_init.name) {v0 : Nat} {t0 : Nat} {t1 : Nat} {h : PH} {r : PH} (hM : MC + X0 = (hX r)) (hN : MS + V0 = (hV r)) (hu : uc + X0 = hX h) (hv : us + V0 = hV h) (hf : fX12_init_b325 v0 t0 t1 h = some r)  : PW E p l e (rmv 1 MC MS) s m args below meth c 1 uc us (MQ below (QG E (fun v u => v = none ∧ u = r)) args s MC MS (pA E)) h 325 [(0, some (.ref v0))] [.ref t1, .ref t0] := by
  have hm1 : lez h (hX r) (hV r) := mX12_init_b325 hf
  have hcm : uc ≤ MC := (by have o0 := hm1.1; have o1 := hM; have o2 := hu; (try simp only [hX_sI, hX_sR, hX_sL, hX_sD, hX_sIa, hX_sRa, hV_sI, hV_sR, hV_sL, hV_sD, hV_sIa, hV_sRa, hX_new, hV_new] at o0 o1 o2 ⊢); omega)
  have hsm : us ≤ MS := (by have o0 := hm1.2; have o1 := hN; have o2 := hv; (try simp only [hX_sI, hX_sR, hX_sL, hX_sD, hX_sIa, hX_sRa, hV_sI, hV_sR, hV_sL, hV_sD, hV_sIa, hV_sRa, hX_new, hV_new] at o0 o1 o2 ⊢); omega)
  clear hm1
  unfold fX12_init_b325 at hf
  obtain ⟨hk120, hf⟩ := gd_some hf
  refine p_putRf (v := some _) X fl_X12_117 rfl (by decide) (fun q hq => by cases hq; exact ⟨rfl, rfl⟩) hnm (nar_rf _ (by decide)) (fit_rf _ (by decide)) (dcg dc_X12_init 172 rfl) hk120 ?_
  obtain ⟨h121, rfl, hf⟩ := lt_some hf
  refine p_aload_n X (dcg dc_X12_init 173 rfl) rfl rfl ?_
  refine p_bipush (v := 100) X (dcg dc_X12_init 174 rfl) (by decide) ?_
  obtain ⟨hg122, hf⟩ := gd_some hf
  have hm1 : lez _ (hX r) (hV r) := mX12_init_b333 hf
  have hm2 := lez_new hm1
  refine p_newa20 X tw_168 (dcg dc_X12_init 175 rfl) hg122.1 hg122.2 (show uc + 1 ≤ MC from (by have o0 := hm2.1; have o1 := hM; have o2 := hu; (try simp only [hX_sI, hX_sR, hX_sL, hX_sD, hX_sIa, hX_sRa, hV_sI, hV_sR, hV_sL, hV_sD, hV_sIa, hV_sRa, hX_new, hV_new] at o0 o1 o2 ⊢); omega)) (show us + (Int32.toNatClampNeg (100 : Int32)) ≤ MS from (by have o0 := hm2.2; have o1 := hN; have o2 := hv; (try simp only [hX_sI, hX_sR, hX_sL, hX_sD, hX_sIa, hX_sRa, hV_sI, hV_sR, hV_sL, hV_sD, hV_sIa, hV_sRa, hX_new, hV_new] at o0 o1 o2 ⊢); omega)) ?_
  refine p_pick [0] ?_
  exact wX12_init_b333 X hG hnm hM hN (by have o0 := hu; (try simp only [hX_sI, hX_sR, hX_sL, hX_sD, hX_sIa, hX_sRa, hV_sI, hV_sR, hV_sL, hV_sD, hV_sIa, hV_sRa, hX_new, hV_new] at o0 ⊢); omega) (by have o0 := hv; (try simp only [hX_sI, hX_sR, hX_sL, hX_sD, hX_sIa, hX_sRa, hV_sI, hV_sR, hV_sL, hV_sD, hV_sIa, hV_sRa, hX_new, hV_new] at o0 ⊢); omega) hf 
noncomputable def fX12_init_b317 (v0 : Nat) (t0 : Nat) (t1 : Nat) (h : PH) : Option PH :=
  gd (hK h t0 = 12) (lt (sR h 12 t0 47 (some t1)) (fun h118 =>
  gd (¬ (100 : Int32) < 0 ∧ (Int32.toNatClampNeg (100 : Int32)) ≤ 1000000) (fX12_init_b325 v0 v0 (hX h118) (hnew h118 20 (Int32.toNatClampNeg (100 : Int32))))))
set_option maxRecDepth 100000 in
theorem mX12_init_b317 {v0 : Nat} {t0 : Nat} {t1 : Nat} {h : PH} {r : PH} (hf : fX12_init_b317 v0 t0 t1 h = some r) : lez h (hX r) (hV r) := by
  unfold fX12_init_b317 at hf
  have hle := lez_rf h
  obtain ⟨hk117, hf⟩ := gd_some hf
  obtain ⟨h118, rfl, hf⟩ := lt_some hf
  obtain ⟨hg119, hf⟩ := gd_some hf
  have hle := lez_nw (c := 20) (n := (Int32.toNatClampNeg (100 : Int32))) hle
  exact lez_rt (mX12_init_b325 hf) hle
set_option maxRecDepth 100000 in
theorem wX12_init_b317 {E : PE} {p : Program} {l : Launch} {e : Env} {s : State} {m : MethodId} {args : Array Value} {below : List Frame} {meth : Method} {c : Code} {X0 V0 MC MS uc us : Nat} (X : Cx E p l e (rmv 1 MC MS) s m args below meth c RX12 cX12_init 1 (none)) (hG : Gs E l) (hnm : meth.name = yX12_init.name) {v0 : Nat} {t0 : Nat} {t1 : Nat} {h : PH} {r : PH} (hM : MC + X0 = (hX r)) (hN : MS + V0 = (hV r)) (hu : uc + X0 = hX h) (hv : us + V0 = hV h) (hf : fX12_init_b317 v0 t0 t1 h = some r)  : PW E p l e (rmv 1 MC MS) s m args below meth c 1 uc us (MQ below (QG E (fun v u => v = none ∧ u = r)) args s MC MS (pA E)) h 317 [(0, some (.ref v0))] [.ref t1, .ref t0] := by
  have hm1 : lez h (hX r) (hV r) := mX12_init_b317 hf
  have hcm : uc ≤ MC := (by have o0 := hm1.1; have o1 := hM; have o2 := hu; (try simp only [hX_sI, hX_sR, hX_sL, hX_sD, hX_sIa, hX_sRa, hV_sI, hV_sR, hV_sL, hV_sD, hV_sIa, hV_sRa, hX_new, hV_new] at o0 o1 o2 ⊢); omega)
  have hsm : us ≤ MS := (by have o0 := hm1.2; have o1 := hN; have o2 := hv; (try simp only [hX_sI, hX_sR, hX_sL, hX_sD, hX_sIa, hX_sRa, hV_sI, hV_sR, hV_sL, hV_sD, hV_sIa, hV_sRa, hX_new, hV_new] at o0 o1 o2 ⊢); omega)
  clear hm1
  unfold fX12_init_b317 at hf
  obtain ⟨hk117, hf⟩ := gd_some hf
  refine p_putRf (v := some _) X fl_X12_114 rfl (by decide) (fun q hq => by cases hq; exact ⟨rfl, rfl⟩) hnm (nar_rf _ (by decide)) (fit_rf _ (by decide)) (dcg dc_X12_init 168 rfl) hk117 ?_
  obtain ⟨h118, rfl, hf⟩ := lt_some hf
  refine p_aload_n X (dcg dc_X12_init 169 rfl) rfl rfl ?_
  refine p_bipush (v := 100) X (dcg dc_X12_init 170 rfl) (by decide) ?_
  obtain ⟨hg119, hf⟩ := gd_some hf
  have hm1 : lez _ (hX r) (hV r) := mX12_init_b325 hf
  have hm2 := lez_new hm1
  refine p_newa20 X tw_168 (dcg dc_X12_init 171 rfl) hg119.1 hg119.2 (show uc + 1 ≤ MC from (by have o0 := hm2.1; have o1 := hM; have o2 := hu; (try simp only [hX_sI, hX_sR, hX_sL, hX_sD, hX_sIa, hX_sRa, hV_sI, hV_sR, hV_sL, hV_sD, hV_sIa, hV_sRa, hX_new, hV_new] at o0 o1 o2 ⊢); omega)) (show us + (Int32.toNatClampNeg (100 : Int32)) ≤ MS from (by have o0 := hm2.2; have o1 := hN; have o2 := hv; (try simp only [hX_sI, hX_sR, hX_sL, hX_sD, hX_sIa, hX_sRa, hV_sI, hV_sR, hV_sL, hV_sD, hV_sIa, hV_sRa, hX_new, hV_new] at o0 o1 o2 ⊢); omega)) ?_
  refine p_pick [0] ?_
  exact wX12_init_b325 X hG hnm hM hN (by have o0 := hu; (try simp only [hX_sI, hX_sR, hX_sL, hX_sD, hX_sIa, hX_sRa, hV_sI, hV_sR, hV_sL, hV_sD, hV_sIa, hV_sRa, hX_new, hV_new] at o0 ⊢); omega) (by have o0 := hv; (try simp only [hX_sI, hX_sR, hX_sL, hX_sD, hX_sIa, hX_sRa, hV_sI, hV_sR, hV_sL, hV_sD, hV_sIa, hV_sRa, hX_new, hV_new] at o0 ⊢); omega) hf 
noncomputable def fX12_init_b308 (v0 : Nat) (t0 : Nat) (t1 : Nat) (h : PH) : Option PH :=
  gd (hK h t0 = 12) (lt (sR h 12 t0 46 (some t1)) (fun h115 =>
  gd (¬ (400 : Int32) < 0 ∧ (Int32.toNatClampNeg (400 : Int32)) ≤ 1000000) (fX12_init_b317 v0 v0 (hX h115) (hnew h115 21 (Int32.toNatClampNeg (400 : Int32))))))
set_option maxRecDepth 100000 in
theorem mX12_init_b308 {v0 : Nat} {t0 : Nat} {t1 : Nat} {h : PH} {r : PH} (hf : fX12_init_b308 v0 t0 t1 h = some r) : lez h (hX r) (hV r) := by
  unfold fX12_init_b308 at hf
  have hle := lez_rf h
  obtain ⟨hk114, hf⟩ := gd_some hf
  obtain ⟨h115, rfl, hf⟩ := lt_some hf
  obtain ⟨hg116, hf⟩ := gd_some hf
  have hle := lez_nw (c := 21) (n := (Int32.toNatClampNeg (400 : Int32))) hle
  exact lez_rt (mX12_init_b317 hf) hle
set_option maxRecDepth 100000 in
theorem wX12_init_b308 {E : PE} {p : Program} {l : Launch} {e : Env} {s : State} {m : MethodId} {args : Array Value} {below : List Frame} {meth : Method} {c : Code} {X0 V0 MC MS uc us : Nat} (X : Cx E p l e (rmv 1 MC MS) s m args below meth c RX12 cX12_init 1 (none)) (hG : Gs E l) (hnm : meth.name = yX12_init.name) {v0 : Nat} {t0 : Nat} {t1 : Nat} {h : PH} {r : PH} (hM : MC + X0 = (hX r)) (hN : MS + V0 = (hV r)) (hu : uc + X0 = hX h) (hv : us + V0 = hV h) (hf : fX12_init_b308 v0 t0 t1 h = some r)  : PW E p l e (rmv 1 MC MS) s m args below meth c 1 uc us (MQ below (QG E (fun v u => v = none ∧ u = r)) args s MC MS (pA E)) h 308 [(0, some (.ref v0))] [.ref t1, .ref t0] := by
  have hm1 : lez h (hX r) (hV r) := mX12_init_b308 hf
  have hcm : uc ≤ MC := (by have o0 := hm1.1; have o1 := hM; have o2 := hu; (try simp only [hX_sI, hX_sR, hX_sL, hX_sD, hX_sIa, hX_sRa, hV_sI, hV_sR, hV_sL, hV_sD, hV_sIa, hV_sRa, hX_new, hV_new] at o0 o1 o2 ⊢); omega)
  have hsm : us ≤ MS := (by have o0 := hm1.2; have o1 := hN; have o2 := hv; (try simp only [hX_sI, hX_sR, hX_sL, hX_sD, hX_sIa, hX_sRa, hV_sI, hV_sR, hV_sL, hV_sD, hV_sIa, hV_sRa, hX_new, hV_new] at o0 o1 o2 ⊢); omega)
  clear hm1
  unfold fX12_init_b308 at hf
  obtain ⟨hk114, hf⟩ := gd_some hf
  refine p_putRf (v := some _) X fl_X12_111 rfl (by decide) (fun q hq => by cases hq; exact ⟨rfl, rfl⟩) hnm (nar_rf _ (by decide)) (fit_rf _ (by decide)) (dcg dc_X12_init 164 rfl) hk114 ?_
  obtain ⟨h115, rfl, hf⟩ := lt_some hf
  refine p_aload_n X (dcg dc_X12_init 165 rfl) rfl rfl ?_
  refine p_sipush (v := 400) X (dcg dc_X12_init 166 rfl) (by decide) ?_
  obtain ⟨hg116, hf⟩ := gd_some hf
  have hm1 : lez _ (hX r) (hV r) := mX12_init_b317 hf
  have hm2 := lez_new hm1
  refine p_newa21 X tw_2064 (dcg dc_X12_init 167 rfl) hg116.1 hg116.2 (show uc + 1 ≤ MC from (by have o0 := hm2.1; have o1 := hM; have o2 := hu; (try simp only [hX_sI, hX_sR, hX_sL, hX_sD, hX_sIa, hX_sRa, hV_sI, hV_sR, hV_sL, hV_sD, hV_sIa, hV_sRa, hX_new, hV_new] at o0 o1 o2 ⊢); omega)) (show us + (Int32.toNatClampNeg (400 : Int32)) ≤ MS from (by have o0 := hm2.2; have o1 := hN; have o2 := hv; (try simp only [hX_sI, hX_sR, hX_sL, hX_sD, hX_sIa, hX_sRa, hV_sI, hV_sR, hV_sL, hV_sD, hV_sIa, hV_sRa, hX_new, hV_new] at o0 o1 o2 ⊢); omega)) ?_
  refine p_pick [0] ?_
  exact wX12_init_b317 X hG hnm hM hN (by have o0 := hu; (try simp only [hX_sI, hX_sR, hX_sL, hX_sD, hX_sIa, hX_sRa, hV_sI, hV_sR, hV_sL, hV_sD, hV_sIa, hV_sRa, hX_new, hV_new] at o0 ⊢); omega) (by have o0 := hv; (try simp only [hX_sI, hX_sR, hX_sL, hX_sD, hX_sIa, hX_sRa, hV_sI, hV_sR, hV_sL, hV_sD, hV_sIa, hV_sRa, hX_new, hV_new] at o0 ⊢); omega) hf 
noncomputable def fX12_init_b299 (v0 : Nat) (t0 : Nat) (t1 : Nat) (h : PH) : Option PH :=
  gd (hK h t0 = 12) (lt (sR h 12 t0 41 (some t1)) (fun h112 =>
  gd (¬ (400 : Int32) < 0 ∧ (Int32.toNatClampNeg (400 : Int32)) ≤ 1000000) (fX12_init_b308 v0 v0 (hX h112) (hnew h112 21 (Int32.toNatClampNeg (400 : Int32))))))
set_option maxRecDepth 100000 in
theorem mX12_init_b299 {v0 : Nat} {t0 : Nat} {t1 : Nat} {h : PH} {r : PH} (hf : fX12_init_b299 v0 t0 t1 h = some r) : lez h (hX r) (hV r) := by
  unfold fX12_init_b299 at hf
  have hle := lez_rf h
  obtain ⟨hk111, hf⟩ := gd_some hf
  obtain ⟨h112, rfl, hf⟩ := lt_some hf
  obtain ⟨hg113, hf⟩ := gd_some hf
  have hle := lez_nw (c := 21) (n := (Int32.toNatClampNeg (400 : Int32))) hle
  exact lez_rt (mX12_init_b308 hf) hle
set_option maxRecDepth 100000 in
theorem wX12_init_b299 {E : PE} {p : Program} {l : Launch} {e : Env} {s : State} {m : MethodId} {args : Array Value} {below : List Frame} {meth : Method} {c : Code} {X0 V0 MC MS uc us : Nat} (X : Cx E p l e (rmv 1 MC MS) s m args below meth c RX12 cX12_init 1 (none)) (hG : Gs E l) (hnm : meth.name = yX12_init.name) {v0 : Nat} {t0 : Nat} {t1 : Nat} {h : PH} {r : PH} (hM : MC + X0 = (hX r)) (hN : MS + V0 = (hV r)) (hu : uc + X0 = hX h) (hv : us + V0 = hV h) (hf : fX12_init_b299 v0 t0 t1 h = some r)  : PW E p l e (rmv 1 MC MS) s m args below meth c 1 uc us (MQ below (QG E (fun v u => v = none ∧ u = r)) args s MC MS (pA E)) h 299 [(0, some (.ref v0))] [.ref t1, .ref t0] := by
  have hm1 : lez h (hX r) (hV r) := mX12_init_b299 hf
  have hcm : uc ≤ MC := (by have o0 := hm1.1; have o1 := hM; have o2 := hu; (try simp only [hX_sI, hX_sR, hX_sL, hX_sD, hX_sIa, hX_sRa, hV_sI, hV_sR, hV_sL, hV_sD, hV_sIa, hV_sRa, hX_new, hV_new] at o0 o1 o2 ⊢); omega)
  have hsm : us ≤ MS := (by have o0 := hm1.2; have o1 := hN; have o2 := hv; (try simp only [hX_sI, hX_sR, hX_sL, hX_sD, hX_sIa, hX_sRa, hV_sI, hV_sR, hV_sL, hV_sD, hV_sIa, hV_sRa, hX_new, hV_new] at o0 o1 o2 ⊢); omega)
  clear hm1
  unfold fX12_init_b299 at hf
  obtain ⟨hk111, hf⟩ := gd_some hf
  refine p_putRf (v := some _) X fl_X12_108 rfl (by decide) (fun q hq => by cases hq; exact ⟨rfl, rfl⟩) hnm (nar_rf _ (by decide)) (fit_rf _ (by decide)) (dcg dc_X12_init 160 rfl) hk111 ?_
  obtain ⟨h112, rfl, hf⟩ := lt_some hf
  refine p_aload_n X (dcg dc_X12_init 161 rfl) rfl rfl ?_
  refine p_sipush (v := 400) X (dcg dc_X12_init 162 rfl) (by decide) ?_
  obtain ⟨hg113, hf⟩ := gd_some hf
  have hm1 : lez _ (hX r) (hV r) := mX12_init_b308 hf
  have hm2 := lez_new hm1
  refine p_newa21 X tw_2064 (dcg dc_X12_init 163 rfl) hg113.1 hg113.2 (show uc + 1 ≤ MC from (by have o0 := hm2.1; have o1 := hM; have o2 := hu; (try simp only [hX_sI, hX_sR, hX_sL, hX_sD, hX_sIa, hX_sRa, hV_sI, hV_sR, hV_sL, hV_sD, hV_sIa, hV_sRa, hX_new, hV_new] at o0 o1 o2 ⊢); omega)) (show us + (Int32.toNatClampNeg (400 : Int32)) ≤ MS from (by have o0 := hm2.2; have o1 := hN; have o2 := hv; (try simp only [hX_sI, hX_sR, hX_sL, hX_sD, hX_sIa, hX_sRa, hV_sI, hV_sR, hV_sL, hV_sD, hV_sIa, hV_sRa, hX_new, hV_new] at o0 o1 o2 ⊢); omega)) ?_
  refine p_pick [0] ?_
  exact wX12_init_b308 X hG hnm hM hN (by have o0 := hu; (try simp only [hX_sI, hX_sR, hX_sL, hX_sD, hX_sIa, hX_sRa, hV_sI, hV_sR, hV_sL, hV_sD, hV_sIa, hV_sRa, hX_new, hV_new] at o0 ⊢); omega) (by have o0 := hv; (try simp only [hX_sI, hX_sR, hX_sL, hX_sD, hX_sIa, hX_sRa, hV_sI, hV_sR, hV_sL, hV_sD, hV_sIa, hV_sRa, hX_new, hV_new] at o0 ⊢); omega) hf 
noncomputable def fX12_init_b291 (v0 : Nat) (t0 : Nat) (t1 : Nat) (h : PH) : Option PH :=
  gd (hK h t0 = 12) (lt (sR h 12 t0 40 (some t1)) (fun h109 =>
  gd (¬ (9 : Int32) < 0 ∧ (Int32.toNatClampNeg (9 : Int32)) ≤ 1000000) (fX12_init_b299 v0 v0 (hX h109) (hnew h109 20 (Int32.toNatClampNeg (9 : Int32))))))
set_option maxRecDepth 100000 in
theorem mX12_init_b291 {v0 : Nat} {t0 : Nat} {t1 : Nat} {h : PH} {r : PH} (hf : fX12_init_b291 v0 t0 t1 h = some r) : lez h (hX r) (hV r) := by
  unfold fX12_init_b291 at hf
  have hle := lez_rf h
  obtain ⟨hk108, hf⟩ := gd_some hf
  obtain ⟨h109, rfl, hf⟩ := lt_some hf
  obtain ⟨hg110, hf⟩ := gd_some hf
  have hle := lez_nw (c := 20) (n := (Int32.toNatClampNeg (9 : Int32))) hle
  exact lez_rt (mX12_init_b299 hf) hle
set_option maxRecDepth 100000 in
theorem wX12_init_b291 {E : PE} {p : Program} {l : Launch} {e : Env} {s : State} {m : MethodId} {args : Array Value} {below : List Frame} {meth : Method} {c : Code} {X0 V0 MC MS uc us : Nat} (X : Cx E p l e (rmv 1 MC MS) s m args below meth c RX12 cX12_init 1 (none)) (hG : Gs E l) (hnm : meth.name = yX12_init.name) {v0 : Nat} {t0 : Nat} {t1 : Nat} {h : PH} {r : PH} (hM : MC + X0 = (hX r)) (hN : MS + V0 = (hV r)) (hu : uc + X0 = hX h) (hv : us + V0 = hV h) (hf : fX12_init_b291 v0 t0 t1 h = some r)  : PW E p l e (rmv 1 MC MS) s m args below meth c 1 uc us (MQ below (QG E (fun v u => v = none ∧ u = r)) args s MC MS (pA E)) h 291 [(0, some (.ref v0))] [.ref t1, .ref t0] := by
  have hm1 : lez h (hX r) (hV r) := mX12_init_b291 hf
  have hcm : uc ≤ MC := (by have o0 := hm1.1; have o1 := hM; have o2 := hu; (try simp only [hX_sI, hX_sR, hX_sL, hX_sD, hX_sIa, hX_sRa, hV_sI, hV_sR, hV_sL, hV_sD, hV_sIa, hV_sRa, hX_new, hV_new] at o0 o1 o2 ⊢); omega)
  have hsm : us ≤ MS := (by have o0 := hm1.2; have o1 := hN; have o2 := hv; (try simp only [hX_sI, hX_sR, hX_sL, hX_sD, hX_sIa, hX_sRa, hV_sI, hV_sR, hV_sL, hV_sD, hV_sIa, hV_sRa, hX_new, hV_new] at o0 o1 o2 ⊢); omega)
  clear hm1
  unfold fX12_init_b291 at hf
  obtain ⟨hk108, hf⟩ := gd_some hf
  refine p_putRf (v := some _) X fl_X12_105 rfl (by decide) (fun q hq => by cases hq; exact ⟨rfl, rfl⟩) hnm (nar_rf _ (by decide)) (fit_rf _ (by decide)) (dcg dc_X12_init 156 rfl) hk108 ?_
  obtain ⟨h109, rfl, hf⟩ := lt_some hf
  refine p_aload_n X (dcg dc_X12_init 157 rfl) rfl rfl ?_
  refine p_bipush (v := 9) X (dcg dc_X12_init 158 rfl) (by decide) ?_
  obtain ⟨hg110, hf⟩ := gd_some hf
  have hm1 : lez _ (hX r) (hV r) := mX12_init_b299 hf
  have hm2 := lez_new hm1
  refine p_newa20 X tw_168 (dcg dc_X12_init 159 rfl) hg110.1 hg110.2 (show uc + 1 ≤ MC from (by have o0 := hm2.1; have o1 := hM; have o2 := hu; (try simp only [hX_sI, hX_sR, hX_sL, hX_sD, hX_sIa, hX_sRa, hV_sI, hV_sR, hV_sL, hV_sD, hV_sIa, hV_sRa, hX_new, hV_new] at o0 o1 o2 ⊢); omega)) (show us + (Int32.toNatClampNeg (9 : Int32)) ≤ MS from (by have o0 := hm2.2; have o1 := hN; have o2 := hv; (try simp only [hX_sI, hX_sR, hX_sL, hX_sD, hX_sIa, hX_sRa, hV_sI, hV_sR, hV_sL, hV_sD, hV_sIa, hV_sRa, hX_new, hV_new] at o0 o1 o2 ⊢); omega)) ?_
  refine p_pick [0] ?_
  exact wX12_init_b299 X hG hnm hM hN (by have o0 := hu; (try simp only [hX_sI, hX_sR, hX_sL, hX_sD, hX_sIa, hX_sRa, hV_sI, hV_sR, hV_sL, hV_sD, hV_sIa, hV_sRa, hX_new, hV_new] at o0 ⊢); omega) (by have o0 := hv; (try simp only [hX_sI, hX_sR, hX_sL, hX_sD, hX_sIa, hX_sRa, hV_sI, hV_sR, hV_sL, hV_sD, hV_sIa, hV_sRa, hX_new, hV_new] at o0 ⊢); omega) hf 
noncomputable def fX12_init_b283 (v0 : Nat) (t0 : Nat) (t1 : Nat) (h : PH) : Option PH :=
  gd (hK h t0 = 12) (lt (sR h 12 t0 39 (some t1)) (fun h106 =>
  gd (¬ (9 : Int32) < 0 ∧ (Int32.toNatClampNeg (9 : Int32)) ≤ 1000000) (fX12_init_b291 v0 v0 (hX h106) (hnew h106 20 (Int32.toNatClampNeg (9 : Int32))))))
set_option maxRecDepth 100000 in
theorem mX12_init_b283 {v0 : Nat} {t0 : Nat} {t1 : Nat} {h : PH} {r : PH} (hf : fX12_init_b283 v0 t0 t1 h = some r) : lez h (hX r) (hV r) := by
  unfold fX12_init_b283 at hf
  have hle := lez_rf h
  obtain ⟨hk105, hf⟩ := gd_some hf
  obtain ⟨h106, rfl, hf⟩ := lt_some hf
  obtain ⟨hg107, hf⟩ := gd_some hf
  have hle := lez_nw (c := 20) (n := (Int32.toNatClampNeg (9 : Int32))) hle
  exact lez_rt (mX12_init_b291 hf) hle
set_option maxRecDepth 100000 in
theorem wX12_init_b283 {E : PE} {p : Program} {l : Launch} {e : Env} {s : State} {m : MethodId} {args : Array Value} {below : List Frame} {meth : Method} {c : Code} {X0 V0 MC MS uc us : Nat} (X : Cx E p l e (rmv 1 MC MS) s m args below meth c RX12 cX12_init 1 (none)) (hG : Gs E l) (hnm : meth.name = yX12_init.name) {v0 : Nat} {t0 : Nat} {t1 : Nat} {h : PH} {r : PH} (hM : MC + X0 = (hX r)) (hN : MS + V0 = (hV r)) (hu : uc + X0 = hX h) (hv : us + V0 = hV h) (hf : fX12_init_b283 v0 t0 t1 h = some r)  : PW E p l e (rmv 1 MC MS) s m args below meth c 1 uc us (MQ below (QG E (fun v u => v = none ∧ u = r)) args s MC MS (pA E)) h 283 [(0, some (.ref v0))] [.ref t1, .ref t0] := by
  have hm1 : lez h (hX r) (hV r) := mX12_init_b283 hf
  have hcm : uc ≤ MC := (by have o0 := hm1.1; have o1 := hM; have o2 := hu; (try simp only [hX_sI, hX_sR, hX_sL, hX_sD, hX_sIa, hX_sRa, hV_sI, hV_sR, hV_sL, hV_sD, hV_sIa, hV_sRa, hX_new, hV_new] at o0 o1 o2 ⊢); omega)
  have hsm : us ≤ MS := (by have o0 := hm1.2; have o1 := hN; have o2 := hv; (try simp only [hX_sI, hX_sR, hX_sL, hX_sD, hX_sIa, hX_sRa, hV_sI, hV_sR, hV_sL, hV_sD, hV_sIa, hV_sRa, hX_new, hV_new] at o0 o1 o2 ⊢); omega)
  clear hm1
  unfold fX12_init_b283 at hf
  obtain ⟨hk105, hf⟩ := gd_some hf
  refine p_putRf (v := some _) X fl_X12_102 rfl (by decide) (fun q hq => by cases hq; exact ⟨rfl, rfl⟩) hnm (nar_rf _ (by decide)) (fit_rf _ (by decide)) (dcg dc_X12_init 152 rfl) hk105 ?_
  obtain ⟨h106, rfl, hf⟩ := lt_some hf
  refine p_aload_n X (dcg dc_X12_init 153 rfl) rfl rfl ?_
  refine p_bipush (v := 9) X (dcg dc_X12_init 154 rfl) (by decide) ?_
  obtain ⟨hg107, hf⟩ := gd_some hf
  have hm1 : lez _ (hX r) (hV r) := mX12_init_b291 hf
  have hm2 := lez_new hm1
  refine p_newa20 X tw_168 (dcg dc_X12_init 155 rfl) hg107.1 hg107.2 (show uc + 1 ≤ MC from (by have o0 := hm2.1; have o1 := hM; have o2 := hu; (try simp only [hX_sI, hX_sR, hX_sL, hX_sD, hX_sIa, hX_sRa, hV_sI, hV_sR, hV_sL, hV_sD, hV_sIa, hV_sRa, hX_new, hV_new] at o0 o1 o2 ⊢); omega)) (show us + (Int32.toNatClampNeg (9 : Int32)) ≤ MS from (by have o0 := hm2.2; have o1 := hN; have o2 := hv; (try simp only [hX_sI, hX_sR, hX_sL, hX_sD, hX_sIa, hX_sRa, hV_sI, hV_sR, hV_sL, hV_sD, hV_sIa, hV_sRa, hX_new, hV_new] at o0 o1 o2 ⊢); omega)) ?_
  refine p_pick [0] ?_
  exact wX12_init_b291 X hG hnm hM hN (by have o0 := hu; (try simp only [hX_sI, hX_sR, hX_sL, hX_sD, hX_sIa, hX_sRa, hV_sI, hV_sR, hV_sL, hV_sD, hV_sIa, hV_sRa, hX_new, hV_new] at o0 ⊢); omega) (by have o0 := hv; (try simp only [hX_sI, hX_sR, hX_sL, hX_sD, hX_sIa, hX_sRa, hV_sI, hV_sR, hV_sL, hV_sD, hV_sIa, hV_sRa, hX_new, hV_new] at o0 ⊢); omega) hf 
noncomputable def fX12_init_b275 (v0 : Nat) (t0 : Nat) (t1 : Nat) (h : PH) : Option PH :=
  gd (hK h t0 = 12) (lt (sR h 12 t0 38 (some t1)) (fun h103 =>
  gd (¬ (9 : Int32) < 0 ∧ (Int32.toNatClampNeg (9 : Int32)) ≤ 1000000) (fX12_init_b283 v0 v0 (hX h103) (hnew h103 20 (Int32.toNatClampNeg (9 : Int32))))))
set_option maxRecDepth 100000 in
theorem mX12_init_b275 {v0 : Nat} {t0 : Nat} {t1 : Nat} {h : PH} {r : PH} (hf : fX12_init_b275 v0 t0 t1 h = some r) : lez h (hX r) (hV r) := by
  unfold fX12_init_b275 at hf
  have hle := lez_rf h
  obtain ⟨hk102, hf⟩ := gd_some hf
  obtain ⟨h103, rfl, hf⟩ := lt_some hf
  obtain ⟨hg104, hf⟩ := gd_some hf
  have hle := lez_nw (c := 20) (n := (Int32.toNatClampNeg (9 : Int32))) hle
  exact lez_rt (mX12_init_b283 hf) hle
set_option maxRecDepth 100000 in
theorem wX12_init_b275 {E : PE} {p : Program} {l : Launch} {e : Env} {s : State} {m : MethodId} {args : Array Value} {below : List Frame} {meth : Method} {c : Code} {X0 V0 MC MS uc us : Nat} (X : Cx E p l e (rmv 1 MC MS) s m args below meth c RX12 cX12_init 1 (none)) (hG : Gs E l) (hnm : meth.name = yX12_init.name) {v0 : Nat} {t0 : Nat} {t1 : Nat} {h : PH} {r : PH} (hM : MC + X0 = (hX r)) (hN : MS + V0 = (hV r)) (hu : uc + X0 = hX h) (hv : us + V0 = hV h) (hf : fX12_init_b275 v0 t0 t1 h = some r)  : PW E p l e (rmv 1 MC MS) s m args below meth c 1 uc us (MQ below (QG E (fun v u => v = none ∧ u = r)) args s MC MS (pA E)) h 275 [(0, some (.ref v0))] [.ref t1, .ref t0] := by
  have hm1 : lez h (hX r) (hV r) := mX12_init_b275 hf
  have hcm : uc ≤ MC := (by have o0 := hm1.1; have o1 := hM; have o2 := hu; (try simp only [hX_sI, hX_sR, hX_sL, hX_sD, hX_sIa, hX_sRa, hV_sI, hV_sR, hV_sL, hV_sD, hV_sIa, hV_sRa, hX_new, hV_new] at o0 o1 o2 ⊢); omega)
  have hsm : us ≤ MS := (by have o0 := hm1.2; have o1 := hN; have o2 := hv; (try simp only [hX_sI, hX_sR, hX_sL, hX_sD, hX_sIa, hX_sRa, hV_sI, hV_sR, hV_sL, hV_sD, hV_sIa, hV_sRa, hX_new, hV_new] at o0 o1 o2 ⊢); omega)
  clear hm1
  unfold fX12_init_b275 at hf
  obtain ⟨hk102, hf⟩ := gd_some hf
  refine p_putRf (v := some _) X fl_X12_99 rfl (by decide) (fun q hq => by cases hq; exact ⟨rfl, rfl⟩) hnm (nar_rf _ (by decide)) (fit_rf _ (by decide)) (dcg dc_X12_init 148 rfl) hk102 ?_
  obtain ⟨h103, rfl, hf⟩ := lt_some hf
  refine p_aload_n X (dcg dc_X12_init 149 rfl) rfl rfl ?_
  refine p_bipush (v := 9) X (dcg dc_X12_init 150 rfl) (by decide) ?_
  obtain ⟨hg104, hf⟩ := gd_some hf
  have hm1 : lez _ (hX r) (hV r) := mX12_init_b283 hf
  have hm2 := lez_new hm1
  refine p_newa20 X tw_168 (dcg dc_X12_init 151 rfl) hg104.1 hg104.2 (show uc + 1 ≤ MC from (by have o0 := hm2.1; have o1 := hM; have o2 := hu; (try simp only [hX_sI, hX_sR, hX_sL, hX_sD, hX_sIa, hX_sRa, hV_sI, hV_sR, hV_sL, hV_sD, hV_sIa, hV_sRa, hX_new, hV_new] at o0 o1 o2 ⊢); omega)) (show us + (Int32.toNatClampNeg (9 : Int32)) ≤ MS from (by have o0 := hm2.2; have o1 := hN; have o2 := hv; (try simp only [hX_sI, hX_sR, hX_sL, hX_sD, hX_sIa, hX_sRa, hV_sI, hV_sR, hV_sL, hV_sD, hV_sIa, hV_sRa, hX_new, hV_new] at o0 o1 o2 ⊢); omega)) ?_
  refine p_pick [0] ?_
  exact wX12_init_b283 X hG hnm hM hN (by have o0 := hu; (try simp only [hX_sI, hX_sR, hX_sL, hX_sD, hX_sIa, hX_sRa, hV_sI, hV_sR, hV_sL, hV_sD, hV_sIa, hV_sRa, hX_new, hV_new] at o0 ⊢); omega) (by have o0 := hv; (try simp only [hX_sI, hX_sR, hX_sL, hX_sD, hX_sIa, hX_sRa, hV_sI, hV_sR, hV_sL, hV_sD, hV_sIa, hV_sRa, hX_new, hV_new] at o0 ⊢); omega) hf 
noncomputable def fX12_init_b267 (v0 : Nat) (t0 : Nat) (t1 : Nat) (h : PH) : Option PH :=
  gd (hK h t0 = 12) (lt (sR h 12 t0 37 (some t1)) (fun h100 =>
  gd (¬ (9 : Int32) < 0 ∧ (Int32.toNatClampNeg (9 : Int32)) ≤ 1000000) (fX12_init_b275 v0 v0 (hX h100) (hnew h100 20 (Int32.toNatClampNeg (9 : Int32))))))
set_option maxRecDepth 100000 in
theorem mX12_init_b267 {v0 : Nat} {t0 : Nat} {t1 : Nat} {h : PH} {r : PH} (hf : fX12_init_b267 v0 t0 t1 h = some r) : lez h (hX r) (hV r) := by
  unfold fX12_init_b267 at hf
  have hle := lez_rf h
  obtain ⟨hk99, hf⟩ := gd_some hf
  obtain ⟨h100, rfl, hf⟩ := lt_some hf
  obtain ⟨hg101, hf⟩ := gd_some hf
  have hle := lez_nw (c := 20) (n := (Int32.toNatClampNeg (9 : Int32))) hle
  exact lez_rt (mX12_init_b275 hf) hle
set_option maxRecDepth 100000 in
theorem wX12_init_b267 {E : PE} {p : Program} {l : Launch} {e : Env} {s : State} {m : MethodId} {args : Array Value} {below : List Frame} {meth : Method} {c : Code} {X0 V0 MC MS uc us : Nat} (X : Cx E p l e (rmv 1 MC MS) s m args below meth c RX12 cX12_init 1 (none)) (hG : Gs E l) (hnm : meth.name = yX12_init.name) {v0 : Nat} {t0 : Nat} {t1 : Nat} {h : PH} {r : PH} (hM : MC + X0 = (hX r)) (hN : MS + V0 = (hV r)) (hu : uc + X0 = hX h) (hv : us + V0 = hV h) (hf : fX12_init_b267 v0 t0 t1 h = some r)  : PW E p l e (rmv 1 MC MS) s m args below meth c 1 uc us (MQ below (QG E (fun v u => v = none ∧ u = r)) args s MC MS (pA E)) h 267 [(0, some (.ref v0))] [.ref t1, .ref t0] := by
  have hm1 : lez h (hX r) (hV r) := mX12_init_b267 hf
  have hcm : uc ≤ MC := (by have o0 := hm1.1; have o1 := hM; have o2 := hu; (try simp only [hX_sI, hX_sR, hX_sL, hX_sD, hX_sIa, hX_sRa, hV_sI, hV_sR, hV_sL, hV_sD, hV_sIa, hV_sRa, hX_new, hV_new] at o0 o1 o2 ⊢); omega)
  have hsm : us ≤ MS := (by have o0 := hm1.2; have o1 := hN; have o2 := hv; (try simp only [hX_sI, hX_sR, hX_sL, hX_sD, hX_sIa, hX_sRa, hV_sI, hV_sR, hV_sL, hV_sD, hV_sIa, hV_sRa, hX_new, hV_new] at o0 o1 o2 ⊢); omega)
  clear hm1
  unfold fX12_init_b267 at hf
  obtain ⟨hk99, hf⟩ := gd_some hf
  refine p_putRf (v := some _) X fl_X12_96 rfl (by decide) (fun q hq => by cases hq; exact ⟨rfl, rfl⟩) hnm (nar_rf _ (by decide)) (fit_rf _ (by decide)) (dcg dc_X12_init 144 rfl) hk99 ?_
  obtain ⟨h100, rfl, hf⟩ := lt_some hf
  refine p_aload_n X (dcg dc_X12_init 145 rfl) rfl rfl ?_
  refine p_bipush (v := 9) X (dcg dc_X12_init 146 rfl) (by decide) ?_
  obtain ⟨hg101, hf⟩ := gd_some hf
  have hm1 : lez _ (hX r) (hV r) := mX12_init_b275 hf
  have hm2 := lez_new hm1
  refine p_newa20 X tw_168 (dcg dc_X12_init 147 rfl) hg101.1 hg101.2 (show uc + 1 ≤ MC from (by have o0 := hm2.1; have o1 := hM; have o2 := hu; (try simp only [hX_sI, hX_sR, hX_sL, hX_sD, hX_sIa, hX_sRa, hV_sI, hV_sR, hV_sL, hV_sD, hV_sIa, hV_sRa, hX_new, hV_new] at o0 o1 o2 ⊢); omega)) (show us + (Int32.toNatClampNeg (9 : Int32)) ≤ MS from (by have o0 := hm2.2; have o1 := hN; have o2 := hv; (try simp only [hX_sI, hX_sR, hX_sL, hX_sD, hX_sIa, hX_sRa, hV_sI, hV_sR, hV_sL, hV_sD, hV_sIa, hV_sRa, hX_new, hV_new] at o0 o1 o2 ⊢); omega)) ?_
  refine p_pick [0] ?_
  exact wX12_init_b275 X hG hnm hM hN (by have o0 := hu; (try simp only [hX_sI, hX_sR, hX_sL, hX_sD, hX_sIa, hX_sRa, hV_sI, hV_sR, hV_sL, hV_sD, hV_sIa, hV_sRa, hX_new, hV_new] at o0 ⊢); omega) (by have o0 := hv; (try simp only [hX_sI, hX_sR, hX_sL, hX_sD, hX_sIa, hX_sRa, hV_sI, hV_sR, hV_sL, hV_sD, hV_sIa, hV_sRa, hX_new, hV_new] at o0 ⊢); omega) hf 
noncomputable def fX12_init_b259 (v0 : Nat) (t0 : Nat) (t1 : Nat) (h : PH) : Option PH :=
  gd (hK h t0 = 12) (lt (sR h 12 t0 36 (some t1)) (fun h97 =>
  gd (¬ (9 : Int32) < 0 ∧ (Int32.toNatClampNeg (9 : Int32)) ≤ 1000000) (fX12_init_b267 v0 v0 (hX h97) (hnew h97 20 (Int32.toNatClampNeg (9 : Int32))))))
set_option maxRecDepth 100000 in
theorem mX12_init_b259 {v0 : Nat} {t0 : Nat} {t1 : Nat} {h : PH} {r : PH} (hf : fX12_init_b259 v0 t0 t1 h = some r) : lez h (hX r) (hV r) := by
  unfold fX12_init_b259 at hf
  have hle := lez_rf h
  obtain ⟨hk96, hf⟩ := gd_some hf
  obtain ⟨h97, rfl, hf⟩ := lt_some hf
  obtain ⟨hg98, hf⟩ := gd_some hf
  have hle := lez_nw (c := 20) (n := (Int32.toNatClampNeg (9 : Int32))) hle
  exact lez_rt (mX12_init_b267 hf) hle
set_option maxRecDepth 100000 in
theorem wX12_init_b259 {E : PE} {p : Program} {l : Launch} {e : Env} {s : State} {m : MethodId} {args : Array Value} {below : List Frame} {meth : Method} {c : Code} {X0 V0 MC MS uc us : Nat} (X : Cx E p l e (rmv 1 MC MS) s m args below meth c RX12 cX12_init 1 (none)) (hG : Gs E l) (hnm : meth.name = yX12_init.name) {v0 : Nat} {t0 : Nat} {t1 : Nat} {h : PH} {r : PH} (hM : MC + X0 = (hX r)) (hN : MS + V0 = (hV r)) (hu : uc + X0 = hX h) (hv : us + V0 = hV h) (hf : fX12_init_b259 v0 t0 t1 h = some r)  : PW E p l e (rmv 1 MC MS) s m args below meth c 1 uc us (MQ below (QG E (fun v u => v = none ∧ u = r)) args s MC MS (pA E)) h 259 [(0, some (.ref v0))] [.ref t1, .ref t0] := by
  have hm1 : lez h (hX r) (hV r) := mX12_init_b259 hf
  have hcm : uc ≤ MC := (by have o0 := hm1.1; have o1 := hM; have o2 := hu; (try simp only [hX_sI, hX_sR, hX_sL, hX_sD, hX_sIa, hX_sRa, hV_sI, hV_sR, hV_sL, hV_sD, hV_sIa, hV_sRa, hX_new, hV_new] at o0 o1 o2 ⊢); omega)
  have hsm : us ≤ MS := (by have o0 := hm1.2; have o1 := hN; have o2 := hv; (try simp only [hX_sI, hX_sR, hX_sL, hX_sD, hX_sIa, hX_sRa, hV_sI, hV_sR, hV_sL, hV_sD, hV_sIa, hV_sRa, hX_new, hV_new] at o0 o1 o2 ⊢); omega)
  clear hm1
  unfold fX12_init_b259 at hf
  obtain ⟨hk96, hf⟩ := gd_some hf
  refine p_putRf (v := some _) X fl_X12_93 rfl (by decide) (fun q hq => by cases hq; exact ⟨rfl, rfl⟩) hnm (nar_rf _ (by decide)) (fit_rf _ (by decide)) (dcg dc_X12_init 140 rfl) hk96 ?_
  obtain ⟨h97, rfl, hf⟩ := lt_some hf
  refine p_aload_n X (dcg dc_X12_init 141 rfl) rfl rfl ?_
  refine p_bipush (v := 9) X (dcg dc_X12_init 142 rfl) (by decide) ?_
  obtain ⟨hg98, hf⟩ := gd_some hf
  have hm1 : lez _ (hX r) (hV r) := mX12_init_b267 hf
  have hm2 := lez_new hm1
  refine p_newa20 X tw_168 (dcg dc_X12_init 143 rfl) hg98.1 hg98.2 (show uc + 1 ≤ MC from (by have o0 := hm2.1; have o1 := hM; have o2 := hu; (try simp only [hX_sI, hX_sR, hX_sL, hX_sD, hX_sIa, hX_sRa, hV_sI, hV_sR, hV_sL, hV_sD, hV_sIa, hV_sRa, hX_new, hV_new] at o0 o1 o2 ⊢); omega)) (show us + (Int32.toNatClampNeg (9 : Int32)) ≤ MS from (by have o0 := hm2.2; have o1 := hN; have o2 := hv; (try simp only [hX_sI, hX_sR, hX_sL, hX_sD, hX_sIa, hX_sRa, hV_sI, hV_sR, hV_sL, hV_sD, hV_sIa, hV_sRa, hX_new, hV_new] at o0 o1 o2 ⊢); omega)) ?_
  refine p_pick [0] ?_
  exact wX12_init_b267 X hG hnm hM hN (by have o0 := hu; (try simp only [hX_sI, hX_sR, hX_sL, hX_sD, hX_sIa, hX_sRa, hV_sI, hV_sR, hV_sL, hV_sD, hV_sIa, hV_sRa, hX_new, hV_new] at o0 ⊢); omega) (by have o0 := hv; (try simp only [hX_sI, hX_sR, hX_sL, hX_sD, hX_sIa, hX_sRa, hV_sI, hV_sR, hV_sL, hV_sD, hV_sIa, hV_sRa, hX_new, hV_new] at o0 ⊢); omega) hf 
noncomputable def fX12_init_b251 (v0 : Nat) (t0 : Nat) (t1 : Nat) (h : PH) : Option PH :=
  gd (hK h t0 = 12) (lt (sR h 12 t0 35 (some t1)) (fun h94 =>
  gd (¬ (9 : Int32) < 0 ∧ (Int32.toNatClampNeg (9 : Int32)) ≤ 1000000) (fX12_init_b259 v0 v0 (hX h94) (hnew h94 20 (Int32.toNatClampNeg (9 : Int32))))))
set_option maxRecDepth 100000 in
theorem mX12_init_b251 {v0 : Nat} {t0 : Nat} {t1 : Nat} {h : PH} {r : PH} (hf : fX12_init_b251 v0 t0 t1 h = some r) : lez h (hX r) (hV r) := by
  unfold fX12_init_b251 at hf
  have hle := lez_rf h
  obtain ⟨hk93, hf⟩ := gd_some hf
  obtain ⟨h94, rfl, hf⟩ := lt_some hf
  obtain ⟨hg95, hf⟩ := gd_some hf
  have hle := lez_nw (c := 20) (n := (Int32.toNatClampNeg (9 : Int32))) hle
  exact lez_rt (mX12_init_b259 hf) hle
set_option maxRecDepth 100000 in
theorem wX12_init_b251 {E : PE} {p : Program} {l : Launch} {e : Env} {s : State} {m : MethodId} {args : Array Value} {below : List Frame} {meth : Method} {c : Code} {X0 V0 MC MS uc us : Nat} (X : Cx E p l e (rmv 1 MC MS) s m args below meth c RX12 cX12_init 1 (none)) (hG : Gs E l) (hnm : meth.name = yX12_init.name) {v0 : Nat} {t0 : Nat} {t1 : Nat} {h : PH} {r : PH} (hM : MC + X0 = (hX r)) (hN : MS + V0 = (hV r)) (hu : uc + X0 = hX h) (hv : us + V0 = hV h) (hf : fX12_init_b251 v0 t0 t1 h = some r)  : PW E p l e (rmv 1 MC MS) s m args below meth c 1 uc us (MQ below (QG E (fun v u => v = none ∧ u = r)) args s MC MS (pA E)) h 251 [(0, some (.ref v0))] [.ref t1, .ref t0] := by
  have hm1 : lez h (hX r) (hV r) := mX12_init_b251 hf
  have hcm : uc ≤ MC := (by have o0 := hm1.1; have o1 := hM; have o2 := hu; (try simp only [hX_sI, hX_sR, hX_sL, hX_sD, hX_sIa, hX_sRa, hV_sI, hV_sR, hV_sL, hV_sD, hV_sIa, hV_sRa, hX_new, hV_new] at o0 o1 o2 ⊢); omega)
  have hsm : us ≤ MS := (by have o0 := hm1.2; have o1 := hN; have o2 := hv; (try simp only [hX_sI, hX_sR, hX_sL, hX_sD, hX_sIa, hX_sRa, hV_sI, hV_sR, hV_sL, hV_sD, hV_sIa, hV_sRa, hX_new, hV_new] at o0 o1 o2 ⊢); omega)
  clear hm1
  unfold fX12_init_b251 at hf
  obtain ⟨hk93, hf⟩ := gd_some hf
  refine p_putRf (v := some _) X fl_X12_90 rfl (by decide) (fun q hq => by cases hq; exact ⟨rfl, rfl⟩) hnm (nar_rf _ (by decide)) (fit_rf _ (by decide)) (dcg dc_X12_init 136 rfl) hk93 ?_
  obtain ⟨h94, rfl, hf⟩ := lt_some hf
  refine p_aload_n X (dcg dc_X12_init 137 rfl) rfl rfl ?_
  refine p_bipush (v := 9) X (dcg dc_X12_init 138 rfl) (by decide) ?_
  obtain ⟨hg95, hf⟩ := gd_some hf
  have hm1 : lez _ (hX r) (hV r) := mX12_init_b259 hf
  have hm2 := lez_new hm1
  refine p_newa20 X tw_168 (dcg dc_X12_init 139 rfl) hg95.1 hg95.2 (show uc + 1 ≤ MC from (by have o0 := hm2.1; have o1 := hM; have o2 := hu; (try simp only [hX_sI, hX_sR, hX_sL, hX_sD, hX_sIa, hX_sRa, hV_sI, hV_sR, hV_sL, hV_sD, hV_sIa, hV_sRa, hX_new, hV_new] at o0 o1 o2 ⊢); omega)) (show us + (Int32.toNatClampNeg (9 : Int32)) ≤ MS from (by have o0 := hm2.2; have o1 := hN; have o2 := hv; (try simp only [hX_sI, hX_sR, hX_sL, hX_sD, hX_sIa, hX_sRa, hV_sI, hV_sR, hV_sL, hV_sD, hV_sIa, hV_sRa, hX_new, hV_new] at o0 o1 o2 ⊢); omega)) ?_
  refine p_pick [0] ?_
  exact wX12_init_b259 X hG hnm hM hN (by have o0 := hu; (try simp only [hX_sI, hX_sR, hX_sL, hX_sD, hX_sIa, hX_sRa, hV_sI, hV_sR, hV_sL, hV_sD, hV_sIa, hV_sRa, hX_new, hV_new] at o0 ⊢); omega) (by have o0 := hv; (try simp only [hX_sI, hX_sR, hX_sL, hX_sD, hX_sIa, hX_sRa, hV_sI, hV_sR, hV_sL, hV_sD, hV_sIa, hV_sRa, hX_new, hV_new] at o0 ⊢); omega) hf 
noncomputable def fX12_init_b209 (v0 : Nat) (t0 : Nat) (t1 : Nat) (h : PH) : Option PH :=
  gd (hK h t1 = 20 ∧ inb (0 : Int32) (hN h t1)) (lt (sI h 20 t1 (Int32.toNatClampNeg (0 : Int32)) (-1 : Int32)) (fun h75 =>
  gd (inb (1 : Int32) (hN h75 t1)) (lt (sI h75 20 t1 (Int32.toNatClampNeg (1 : Int32)) (-1 : Int32)) (fun h77 =>
  gd (inb (2 : Int32) (hN h77 t1)) (lt (sI h77 20 t1 (Int32.toNatClampNeg (2 : Int32)) (-1 : Int32)) (fun h79 =>
  gd (inb (3 : Int32) (hN h79 t1)) (lt (sI h79 20 t1 (Int32.toNatClampNeg (3 : Int32)) (-1 : Int32)) (fun h81 =>
  gd (inb (4 : Int32) (hN h81 t1)) (lt (sI h81 20 t1 (Int32.toNatClampNeg (4 : Int32)) (-1 : Int32)) (fun h83 =>
  gd (inb (5 : Int32) (hN h83 t1)) (lt (sI h83 20 t1 (Int32.toNatClampNeg (5 : Int32)) (-1 : Int32)) (fun h85 =>
  gd (inb (6 : Int32) (hN h85 t1)) (lt (sI h85 20 t1 (Int32.toNatClampNeg (6 : Int32)) (-1 : Int32)) (fun h87 =>
  gd (inb (7 : Int32) (hN h87 t1)) (lt (sI h87 20 t1 (Int32.toNatClampNeg (7 : Int32)) (-1 : Int32)) (fun h89 =>
  gd (hK h89 t0 = 12) (lt (sR h89 12 t0 34 (some t1)) (fun h91 =>
  gd (¬ (9 : Int32) < 0 ∧ (Int32.toNatClampNeg (9 : Int32)) ≤ 1000000) (fX12_init_b251 v0 v0 (hX h91) (hnew h91 20 (Int32.toNatClampNeg (9 : Int32))))))))))))))))))))))
set_option maxRecDepth 100000 in
theorem mX12_init_b209 {v0 : Nat} {t0 : Nat} {t1 : Nat} {h : PH} {r : PH} (hf : fX12_init_b209 v0 t0 t1 h = some r) : lez h (hX r) (hV r) := by
  unfold fX12_init_b209 at hf
  have hle := lez_rf h
  obtain ⟨⟨hk74, hb73⟩, hf⟩ := gd_some hf
  obtain ⟨h75, rfl, hf⟩ := lt_some hf
  obtain ⟨hb76, hf⟩ := gd_some hf
  obtain ⟨h77, rfl, hf⟩ := lt_some hf
  obtain ⟨hb78, hf⟩ := gd_some hf
  obtain ⟨h79, rfl, hf⟩ := lt_some hf
  obtain ⟨hb80, hf⟩ := gd_some hf
  obtain ⟨h81, rfl, hf⟩ := lt_some hf
  obtain ⟨hb82, hf⟩ := gd_some hf
  obtain ⟨h83, rfl, hf⟩ := lt_some hf
  obtain ⟨hb84, hf⟩ := gd_some hf
  obtain ⟨h85, rfl, hf⟩ := lt_some hf
  obtain ⟨hb86, hf⟩ := gd_some hf
  obtain ⟨h87, rfl, hf⟩ := lt_some hf
  obtain ⟨hb88, hf⟩ := gd_some hf
  obtain ⟨h89, rfl, hf⟩ := lt_some hf
  obtain ⟨hk90, hf⟩ := gd_some hf
  obtain ⟨h91, rfl, hf⟩ := lt_some hf
  obtain ⟨hg92, hf⟩ := gd_some hf
  have hle := lez_nw (c := 20) (n := (Int32.toNatClampNeg (9 : Int32))) hle
  exact lez_rt (mX12_init_b251 hf) hle
set_option maxRecDepth 100000 in
theorem wX12_init_b209 {E : PE} {p : Program} {l : Launch} {e : Env} {s : State} {m : MethodId} {args : Array Value} {below : List Frame} {meth : Method} {c : Code} {X0 V0 MC MS uc us : Nat} (X : Cx E p l e (rmv 1 MC MS) s m args below meth c RX12 cX12_init 1 (none)) (hG : Gs E l) (hnm : meth.name = yX12_init.name) {v0 : Nat} {t0 : Nat} {t1 : Nat} {h : PH} {r : PH} (hM : MC + X0 = (hX r)) (hN : MS + V0 = (hV r)) (hu : uc + X0 = hX h) (hv : us + V0 = hV h) (hf : fX12_init_b209 v0 t0 t1 h = some r)  : PW E p l e (rmv 1 MC MS) s m args below meth c 1 uc us (MQ below (QG E (fun v u => v = none ∧ u = r)) args s MC MS (pA E)) h 209 [(0, some (.ref v0))] [.ref t1, .ref t0] := by
  have hm1 : lez h (hX r) (hV r) := mX12_init_b209 hf
  have hcm : uc ≤ MC := (by have o0 := hm1.1; have o1 := hM; have o2 := hu; (try simp only [hX_sI, hX_sR, hX_sL, hX_sD, hX_sIa, hX_sRa, hV_sI, hV_sR, hV_sL, hV_sD, hV_sIa, hV_sRa, hX_new, hV_new] at o0 o1 o2 ⊢); omega)
  have hsm : us ≤ MS := (by have o0 := hm1.2; have o1 := hN; have o2 := hv; (try simp only [hX_sI, hX_sR, hX_sL, hX_sD, hX_sIa, hX_sRa, hV_sI, hV_sR, hV_sL, hV_sD, hV_sIa, hV_sRa, hX_new, hV_new] at o0 o1 o2 ⊢); omega)
  clear hm1
  unfold fX12_init_b209 at hf
  refine p_dup X (dcg dc_X12_init 100 rfl) rfl ?_
  refine p_iconst (v := 0) X (dcg dc_X12_init 101 rfl) (by decide) ?_
  refine p_iconst (v := -1) X (dcg dc_X12_init 102 rfl) (by decide) ?_
  obtain ⟨⟨hk74, hb73⟩, hf⟩ := gd_some hf
  refine p_iast X (dcg dc_X12_init 103 rfl) hk74 (vp_of_inb hb73) ?_
  obtain ⟨h75, rfl, hf⟩ := lt_some hf
  refine p_dup X (dcg dc_X12_init 104 rfl) rfl ?_
  refine p_iconst (v := 1) X (dcg dc_X12_init 105 rfl) (by decide) ?_
  refine p_iconst (v := -1) X (dcg dc_X12_init 106 rfl) (by decide) ?_
  obtain ⟨hb76, hf⟩ := gd_some hf
  refine p_iast X (dcg dc_X12_init 107 rfl) hk74 (vp_of_inb hb76) ?_
  obtain ⟨h77, rfl, hf⟩ := lt_some hf
  refine p_dup X (dcg dc_X12_init 108 rfl) rfl ?_
  refine p_iconst (v := 2) X (dcg dc_X12_init 109 rfl) (by decide) ?_
  refine p_iconst (v := -1) X (dcg dc_X12_init 110 rfl) (by decide) ?_
  obtain ⟨hb78, hf⟩ := gd_some hf
  refine p_iast X (dcg dc_X12_init 111 rfl) hk74 (vp_of_inb hb78) ?_
  obtain ⟨h79, rfl, hf⟩ := lt_some hf
  refine p_dup X (dcg dc_X12_init 112 rfl) rfl ?_
  refine p_iconst (v := 3) X (dcg dc_X12_init 113 rfl) (by decide) ?_
  refine p_iconst (v := -1) X (dcg dc_X12_init 114 rfl) (by decide) ?_
  obtain ⟨hb80, hf⟩ := gd_some hf
  refine p_iast X (dcg dc_X12_init 115 rfl) hk74 (vp_of_inb hb80) ?_
  obtain ⟨h81, rfl, hf⟩ := lt_some hf
  refine p_dup X (dcg dc_X12_init 116 rfl) rfl ?_
  refine p_iconst (v := 4) X (dcg dc_X12_init 117 rfl) (by decide) ?_
  refine p_iconst (v := -1) X (dcg dc_X12_init 118 rfl) (by decide) ?_
  obtain ⟨hb82, hf⟩ := gd_some hf
  refine p_iast X (dcg dc_X12_init 119 rfl) hk74 (vp_of_inb hb82) ?_
  obtain ⟨h83, rfl, hf⟩ := lt_some hf
  refine p_dup X (dcg dc_X12_init 120 rfl) rfl ?_
  refine p_iconst (v := 5) X (dcg dc_X12_init 121 rfl) (by decide) ?_
  refine p_iconst (v := -1) X (dcg dc_X12_init 122 rfl) (by decide) ?_
  obtain ⟨hb84, hf⟩ := gd_some hf
  refine p_iast X (dcg dc_X12_init 123 rfl) hk74 (vp_of_inb hb84) ?_
  obtain ⟨h85, rfl, hf⟩ := lt_some hf
  refine p_dup X (dcg dc_X12_init 124 rfl) rfl ?_
  refine p_bipush (v := 6) X (dcg dc_X12_init 125 rfl) (by decide) ?_
  refine p_iconst (v := -1) X (dcg dc_X12_init 126 rfl) (by decide) ?_
  obtain ⟨hb86, hf⟩ := gd_some hf
  refine p_iast X (dcg dc_X12_init 127 rfl) hk74 (vp_of_inb hb86) ?_
  obtain ⟨h87, rfl, hf⟩ := lt_some hf
  refine p_dup X (dcg dc_X12_init 128 rfl) rfl ?_
  refine p_bipush (v := 7) X (dcg dc_X12_init 129 rfl) (by decide) ?_
  refine p_iconst (v := -1) X (dcg dc_X12_init 130 rfl) (by decide) ?_
  obtain ⟨hb88, hf⟩ := gd_some hf
  refine p_iast X (dcg dc_X12_init 131 rfl) hk74 (vp_of_inb hb88) ?_
  obtain ⟨h89, rfl, hf⟩ := lt_some hf
  obtain ⟨hk90, hf⟩ := gd_some hf
  refine p_putRf (v := some _) X fl_X12_87 rfl (by decide) (fun q hq => by cases hq; exact ⟨rfl, rfl⟩) hnm (nar_rf _ (by decide)) (fit_rf _ (by decide)) (dcg dc_X12_init 132 rfl) hk90 ?_
  obtain ⟨h91, rfl, hf⟩ := lt_some hf
  refine p_aload_n X (dcg dc_X12_init 133 rfl) rfl rfl ?_
  refine p_bipush (v := 9) X (dcg dc_X12_init 134 rfl) (by decide) ?_
  obtain ⟨hg92, hf⟩ := gd_some hf
  have hm1 : lez _ (hX r) (hV r) := mX12_init_b251 hf
  have hm2 := lez_new hm1
  refine p_newa20 X tw_168 (dcg dc_X12_init 135 rfl) hg92.1 hg92.2 (show uc + 1 ≤ MC from (by have o0 := hm2.1; have o1 := hM; have o2 := hu; (try simp only [hX_sI, hX_sR, hX_sL, hX_sD, hX_sIa, hX_sRa, hV_sI, hV_sR, hV_sL, hV_sD, hV_sIa, hV_sRa, hX_new, hV_new] at o0 o1 o2 ⊢); omega)) (show us + (Int32.toNatClampNeg (9 : Int32)) ≤ MS from (by have o0 := hm2.2; have o1 := hN; have o2 := hv; (try simp only [hX_sI, hX_sR, hX_sL, hX_sD, hX_sIa, hX_sRa, hV_sI, hV_sR, hV_sL, hV_sD, hV_sIa, hV_sRa, hX_new, hV_new] at o0 o1 o2 ⊢); omega)) ?_
  refine p_pick [0] ?_
  exact wX12_init_b251 X hG hnm hM hN (by have o0 := hu; (try simp only [hX_sI, hX_sR, hX_sL, hX_sD, hX_sIa, hX_sRa, hV_sI, hV_sR, hV_sL, hV_sD, hV_sIa, hV_sRa, hX_new, hV_new] at o0 ⊢); omega) (by have o0 := hv; (try simp only [hX_sI, hX_sR, hX_sL, hX_sD, hX_sIa, hX_sRa, hV_sI, hV_sR, hV_sL, hV_sD, hV_sIa, hV_sRa, hX_new, hV_new] at o0 ⊢); omega) hf 
noncomputable def fX12_init_b201 (v0 : Nat) (t0 : Nat) (t1 : Nat) (h : PH) : Option PH :=
  gd (hK h t0 = 12) (lt (sR h 12 t0 33 (some t1)) (fun h71 =>
  gd (¬ (8 : Int32) < 0 ∧ (Int32.toNatClampNeg (8 : Int32)) ≤ 1000000) (fX12_init_b209 v0 v0 (hX h71) (hnew h71 20 (Int32.toNatClampNeg (8 : Int32))))))
set_option maxRecDepth 100000 in
theorem mX12_init_b201 {v0 : Nat} {t0 : Nat} {t1 : Nat} {h : PH} {r : PH} (hf : fX12_init_b201 v0 t0 t1 h = some r) : lez h (hX r) (hV r) := by
  unfold fX12_init_b201 at hf
  have hle := lez_rf h
  obtain ⟨hk70, hf⟩ := gd_some hf
  obtain ⟨h71, rfl, hf⟩ := lt_some hf
  obtain ⟨hg72, hf⟩ := gd_some hf
  have hle := lez_nw (c := 20) (n := (Int32.toNatClampNeg (8 : Int32))) hle
  exact lez_rt (mX12_init_b209 hf) hle
set_option maxRecDepth 100000 in
theorem wX12_init_b201 {E : PE} {p : Program} {l : Launch} {e : Env} {s : State} {m : MethodId} {args : Array Value} {below : List Frame} {meth : Method} {c : Code} {X0 V0 MC MS uc us : Nat} (X : Cx E p l e (rmv 1 MC MS) s m args below meth c RX12 cX12_init 1 (none)) (hG : Gs E l) (hnm : meth.name = yX12_init.name) {v0 : Nat} {t0 : Nat} {t1 : Nat} {h : PH} {r : PH} (hM : MC + X0 = (hX r)) (hN : MS + V0 = (hV r)) (hu : uc + X0 = hX h) (hv : us + V0 = hV h) (hf : fX12_init_b201 v0 t0 t1 h = some r)  : PW E p l e (rmv 1 MC MS) s m args below meth c 1 uc us (MQ below (QG E (fun v u => v = none ∧ u = r)) args s MC MS (pA E)) h 201 [(0, some (.ref v0))] [.ref t1, .ref t0] := by
  have hm1 : lez h (hX r) (hV r) := mX12_init_b201 hf
  have hcm : uc ≤ MC := (by have o0 := hm1.1; have o1 := hM; have o2 := hu; (try simp only [hX_sI, hX_sR, hX_sL, hX_sD, hX_sIa, hX_sRa, hV_sI, hV_sR, hV_sL, hV_sD, hV_sIa, hV_sRa, hX_new, hV_new] at o0 o1 o2 ⊢); omega)
  have hsm : us ≤ MS := (by have o0 := hm1.2; have o1 := hN; have o2 := hv; (try simp only [hX_sI, hX_sR, hX_sL, hX_sD, hX_sIa, hX_sRa, hV_sI, hV_sR, hV_sL, hV_sD, hV_sIa, hV_sRa, hX_new, hV_new] at o0 o1 o2 ⊢); omega)
  clear hm1
  unfold fX12_init_b201 at hf
  obtain ⟨hk70, hf⟩ := gd_some hf
  refine p_putRf (v := some _) X fl_X12_84 rfl (by decide) (fun q hq => by cases hq; exact ⟨rfl, rfl⟩) hnm (nar_rf _ (by decide)) (fit_rf _ (by decide)) (dcg dc_X12_init 96 rfl) hk70 ?_
  obtain ⟨h71, rfl, hf⟩ := lt_some hf
  refine p_aload_n X (dcg dc_X12_init 97 rfl) rfl rfl ?_
  refine p_bipush (v := 8) X (dcg dc_X12_init 98 rfl) (by decide) ?_
  obtain ⟨hg72, hf⟩ := gd_some hf
  have hm1 : lez _ (hX r) (hV r) := mX12_init_b209 hf
  have hm2 := lez_new hm1
  refine p_newa20 X tw_168 (dcg dc_X12_init 99 rfl) hg72.1 hg72.2 (show uc + 1 ≤ MC from (by have o0 := hm2.1; have o1 := hM; have o2 := hu; (try simp only [hX_sI, hX_sR, hX_sL, hX_sD, hX_sIa, hX_sRa, hV_sI, hV_sR, hV_sL, hV_sD, hV_sIa, hV_sRa, hX_new, hV_new] at o0 o1 o2 ⊢); omega)) (show us + (Int32.toNatClampNeg (8 : Int32)) ≤ MS from (by have o0 := hm2.2; have o1 := hN; have o2 := hv; (try simp only [hX_sI, hX_sR, hX_sL, hX_sD, hX_sIa, hX_sRa, hV_sI, hV_sR, hV_sL, hV_sD, hV_sIa, hV_sRa, hX_new, hV_new] at o0 o1 o2 ⊢); omega)) ?_
  refine p_pick [0] ?_
  exact wX12_init_b209 X hG hnm hM hN (by have o0 := hu; (try simp only [hX_sI, hX_sR, hX_sL, hX_sD, hX_sIa, hX_sRa, hV_sI, hV_sR, hV_sL, hV_sD, hV_sIa, hV_sRa, hX_new, hV_new] at o0 ⊢); omega) (by have o0 := hv; (try simp only [hX_sI, hX_sR, hX_sL, hX_sD, hX_sIa, hX_sRa, hV_sI, hV_sR, hV_sL, hV_sD, hV_sIa, hV_sRa, hX_new, hV_new] at o0 ⊢); omega) hf 
noncomputable def fX12_init_b193 (v0 : Nat) (t0 : Nat) (t1 : Nat) (h : PH) : Option PH :=
  gd (hK h t0 = 12) (lt (sR h 12 t0 32 (some t1)) (fun h68 =>
  gd (¬ (8 : Int32) < 0 ∧ (Int32.toNatClampNeg (8 : Int32)) ≤ 1000000) (fX12_init_b201 v0 v0 (hX h68) (hnew h68 20 (Int32.toNatClampNeg (8 : Int32))))))
set_option maxRecDepth 100000 in
theorem mX12_init_b193 {v0 : Nat} {t0 : Nat} {t1 : Nat} {h : PH} {r : PH} (hf : fX12_init_b193 v0 t0 t1 h = some r) : lez h (hX r) (hV r) := by
  unfold fX12_init_b193 at hf
  have hle := lez_rf h
  obtain ⟨hk67, hf⟩ := gd_some hf
  obtain ⟨h68, rfl, hf⟩ := lt_some hf
  obtain ⟨hg69, hf⟩ := gd_some hf
  have hle := lez_nw (c := 20) (n := (Int32.toNatClampNeg (8 : Int32))) hle
  exact lez_rt (mX12_init_b201 hf) hle
set_option maxRecDepth 100000 in
theorem wX12_init_b193 {E : PE} {p : Program} {l : Launch} {e : Env} {s : State} {m : MethodId} {args : Array Value} {below : List Frame} {meth : Method} {c : Code} {X0 V0 MC MS uc us : Nat} (X : Cx E p l e (rmv 1 MC MS) s m args below meth c RX12 cX12_init 1 (none)) (hG : Gs E l) (hnm : meth.name = yX12_init.name) {v0 : Nat} {t0 : Nat} {t1 : Nat} {h : PH} {r : PH} (hM : MC + X0 = (hX r)) (hN : MS + V0 = (hV r)) (hu : uc + X0 = hX h) (hv : us + V0 = hV h) (hf : fX12_init_b193 v0 t0 t1 h = some r)  : PW E p l e (rmv 1 MC MS) s m args below meth c 1 uc us (MQ below (QG E (fun v u => v = none ∧ u = r)) args s MC MS (pA E)) h 193 [(0, some (.ref v0))] [.ref t1, .ref t0] := by
  have hm1 : lez h (hX r) (hV r) := mX12_init_b193 hf
  have hcm : uc ≤ MC := (by have o0 := hm1.1; have o1 := hM; have o2 := hu; (try simp only [hX_sI, hX_sR, hX_sL, hX_sD, hX_sIa, hX_sRa, hV_sI, hV_sR, hV_sL, hV_sD, hV_sIa, hV_sRa, hX_new, hV_new] at o0 o1 o2 ⊢); omega)
  have hsm : us ≤ MS := (by have o0 := hm1.2; have o1 := hN; have o2 := hv; (try simp only [hX_sI, hX_sR, hX_sL, hX_sD, hX_sIa, hX_sRa, hV_sI, hV_sR, hV_sL, hV_sD, hV_sIa, hV_sRa, hX_new, hV_new] at o0 o1 o2 ⊢); omega)
  clear hm1
  unfold fX12_init_b193 at hf
  obtain ⟨hk67, hf⟩ := gd_some hf
  refine p_putRf (v := some _) X fl_X12_81 rfl (by decide) (fun q hq => by cases hq; exact ⟨rfl, rfl⟩) hnm (nar_rf _ (by decide)) (fit_rf _ (by decide)) (dcg dc_X12_init 92 rfl) hk67 ?_
  obtain ⟨h68, rfl, hf⟩ := lt_some hf
  refine p_aload_n X (dcg dc_X12_init 93 rfl) rfl rfl ?_
  refine p_bipush (v := 8) X (dcg dc_X12_init 94 rfl) (by decide) ?_
  obtain ⟨hg69, hf⟩ := gd_some hf
  have hm1 : lez _ (hX r) (hV r) := mX12_init_b201 hf
  have hm2 := lez_new hm1
  refine p_newa20 X tw_168 (dcg dc_X12_init 95 rfl) hg69.1 hg69.2 (show uc + 1 ≤ MC from (by have o0 := hm2.1; have o1 := hM; have o2 := hu; (try simp only [hX_sI, hX_sR, hX_sL, hX_sD, hX_sIa, hX_sRa, hV_sI, hV_sR, hV_sL, hV_sD, hV_sIa, hV_sRa, hX_new, hV_new] at o0 o1 o2 ⊢); omega)) (show us + (Int32.toNatClampNeg (8 : Int32)) ≤ MS from (by have o0 := hm2.2; have o1 := hN; have o2 := hv; (try simp only [hX_sI, hX_sR, hX_sL, hX_sD, hX_sIa, hX_sRa, hV_sI, hV_sR, hV_sL, hV_sD, hV_sIa, hV_sRa, hX_new, hV_new] at o0 o1 o2 ⊢); omega)) ?_
  refine p_pick [0] ?_
  exact wX12_init_b201 X hG hnm hM hN (by have o0 := hu; (try simp only [hX_sI, hX_sR, hX_sL, hX_sD, hX_sIa, hX_sRa, hV_sI, hV_sR, hV_sL, hV_sD, hV_sIa, hV_sRa, hX_new, hV_new] at o0 ⊢); omega) (by have o0 := hv; (try simp only [hX_sI, hX_sR, hX_sL, hX_sD, hX_sIa, hX_sRa, hV_sI, hV_sR, hV_sL, hV_sD, hV_sIa, hV_sRa, hX_new, hV_new] at o0 ⊢); omega) hf 
noncomputable def fX12_init_b185 (v0 : Nat) (t0 : Nat) (t1 : Nat) (h : PH) : Option PH :=
  gd (hK h t0 = 12) (lt (sR h 12 t0 31 (some t1)) (fun h65 =>
  gd (¬ (8 : Int32) < 0 ∧ (Int32.toNatClampNeg (8 : Int32)) ≤ 1000000) (fX12_init_b193 v0 v0 (hX h65) (hnew h65 20 (Int32.toNatClampNeg (8 : Int32))))))
set_option maxRecDepth 100000 in
theorem mX12_init_b185 {v0 : Nat} {t0 : Nat} {t1 : Nat} {h : PH} {r : PH} (hf : fX12_init_b185 v0 t0 t1 h = some r) : lez h (hX r) (hV r) := by
  unfold fX12_init_b185 at hf
  have hle := lez_rf h
  obtain ⟨hk64, hf⟩ := gd_some hf
  obtain ⟨h65, rfl, hf⟩ := lt_some hf
  obtain ⟨hg66, hf⟩ := gd_some hf
  have hle := lez_nw (c := 20) (n := (Int32.toNatClampNeg (8 : Int32))) hle
  exact lez_rt (mX12_init_b193 hf) hle
set_option maxRecDepth 100000 in
theorem wX12_init_b185 {E : PE} {p : Program} {l : Launch} {e : Env} {s : State} {m : MethodId} {args : Array Value} {below : List Frame} {meth : Method} {c : Code} {X0 V0 MC MS uc us : Nat} (X : Cx E p l e (rmv 1 MC MS) s m args below meth c RX12 cX12_init 1 (none)) (hG : Gs E l) (hnm : meth.name = yX12_init.name) {v0 : Nat} {t0 : Nat} {t1 : Nat} {h : PH} {r : PH} (hM : MC + X0 = (hX r)) (hN : MS + V0 = (hV r)) (hu : uc + X0 = hX h) (hv : us + V0 = hV h) (hf : fX12_init_b185 v0 t0 t1 h = some r)  : PW E p l e (rmv 1 MC MS) s m args below meth c 1 uc us (MQ below (QG E (fun v u => v = none ∧ u = r)) args s MC MS (pA E)) h 185 [(0, some (.ref v0))] [.ref t1, .ref t0] := by
  have hm1 : lez h (hX r) (hV r) := mX12_init_b185 hf
  have hcm : uc ≤ MC := (by have o0 := hm1.1; have o1 := hM; have o2 := hu; (try simp only [hX_sI, hX_sR, hX_sL, hX_sD, hX_sIa, hX_sRa, hV_sI, hV_sR, hV_sL, hV_sD, hV_sIa, hV_sRa, hX_new, hV_new] at o0 o1 o2 ⊢); omega)
  have hsm : us ≤ MS := (by have o0 := hm1.2; have o1 := hN; have o2 := hv; (try simp only [hX_sI, hX_sR, hX_sL, hX_sD, hX_sIa, hX_sRa, hV_sI, hV_sR, hV_sL, hV_sD, hV_sIa, hV_sRa, hX_new, hV_new] at o0 o1 o2 ⊢); omega)
  clear hm1
  unfold fX12_init_b185 at hf
  obtain ⟨hk64, hf⟩ := gd_some hf
  refine p_putRf (v := some _) X fl_X12_78 rfl (by decide) (fun q hq => by cases hq; exact ⟨rfl, rfl⟩) hnm (nar_rf _ (by decide)) (fit_rf _ (by decide)) (dcg dc_X12_init 88 rfl) hk64 ?_
  obtain ⟨h65, rfl, hf⟩ := lt_some hf
  refine p_aload_n X (dcg dc_X12_init 89 rfl) rfl rfl ?_
  refine p_bipush (v := 8) X (dcg dc_X12_init 90 rfl) (by decide) ?_
  obtain ⟨hg66, hf⟩ := gd_some hf
  have hm1 : lez _ (hX r) (hV r) := mX12_init_b193 hf
  have hm2 := lez_new hm1
  refine p_newa20 X tw_168 (dcg dc_X12_init 91 rfl) hg66.1 hg66.2 (show uc + 1 ≤ MC from (by have o0 := hm2.1; have o1 := hM; have o2 := hu; (try simp only [hX_sI, hX_sR, hX_sL, hX_sD, hX_sIa, hX_sRa, hV_sI, hV_sR, hV_sL, hV_sD, hV_sIa, hV_sRa, hX_new, hV_new] at o0 o1 o2 ⊢); omega)) (show us + (Int32.toNatClampNeg (8 : Int32)) ≤ MS from (by have o0 := hm2.2; have o1 := hN; have o2 := hv; (try simp only [hX_sI, hX_sR, hX_sL, hX_sD, hX_sIa, hX_sRa, hV_sI, hV_sR, hV_sL, hV_sD, hV_sIa, hV_sRa, hX_new, hV_new] at o0 o1 o2 ⊢); omega)) ?_
  refine p_pick [0] ?_
  exact wX12_init_b193 X hG hnm hM hN (by have o0 := hu; (try simp only [hX_sI, hX_sR, hX_sL, hX_sD, hX_sIa, hX_sRa, hV_sI, hV_sR, hV_sL, hV_sD, hV_sIa, hV_sRa, hX_new, hV_new] at o0 ⊢); omega) (by have o0 := hv; (try simp only [hX_sI, hX_sR, hX_sL, hX_sD, hX_sIa, hX_sRa, hV_sI, hV_sR, hV_sL, hV_sD, hV_sIa, hV_sRa, hX_new, hV_new] at o0 ⊢); omega) hf 
noncomputable def fX12_init_b176 (v0 : Nat) (t0 : Nat) (t1 : Nat) (h : PH) : Option PH :=
  gd (hK h t0 = 12) (lt (sR h 12 t0 30 (some t1)) (fun h62 =>
  gd (¬ (160 : Int32) < 0 ∧ (Int32.toNatClampNeg (160 : Int32)) ≤ 1000000) (fX12_init_b185 v0 v0 (hX h62) (hnew h62 20 (Int32.toNatClampNeg (160 : Int32))))))
set_option maxRecDepth 100000 in
theorem mX12_init_b176 {v0 : Nat} {t0 : Nat} {t1 : Nat} {h : PH} {r : PH} (hf : fX12_init_b176 v0 t0 t1 h = some r) : lez h (hX r) (hV r) := by
  unfold fX12_init_b176 at hf
  have hle := lez_rf h
  obtain ⟨hk61, hf⟩ := gd_some hf
  obtain ⟨h62, rfl, hf⟩ := lt_some hf
  obtain ⟨hg63, hf⟩ := gd_some hf
  have hle := lez_nw (c := 20) (n := (Int32.toNatClampNeg (160 : Int32))) hle
  exact lez_rt (mX12_init_b185 hf) hle
set_option maxRecDepth 100000 in
theorem wX12_init_b176 {E : PE} {p : Program} {l : Launch} {e : Env} {s : State} {m : MethodId} {args : Array Value} {below : List Frame} {meth : Method} {c : Code} {X0 V0 MC MS uc us : Nat} (X : Cx E p l e (rmv 1 MC MS) s m args below meth c RX12 cX12_init 1 (none)) (hG : Gs E l) (hnm : meth.name = yX12_init.name) {v0 : Nat} {t0 : Nat} {t1 : Nat} {h : PH} {r : PH} (hM : MC + X0 = (hX r)) (hN : MS + V0 = (hV r)) (hu : uc + X0 = hX h) (hv : us + V0 = hV h) (hf : fX12_init_b176 v0 t0 t1 h = some r)  : PW E p l e (rmv 1 MC MS) s m args below meth c 1 uc us (MQ below (QG E (fun v u => v = none ∧ u = r)) args s MC MS (pA E)) h 176 [(0, some (.ref v0))] [.ref t1, .ref t0] := by
  have hm1 : lez h (hX r) (hV r) := mX12_init_b176 hf
  have hcm : uc ≤ MC := (by have o0 := hm1.1; have o1 := hM; have o2 := hu; (try simp only [hX_sI, hX_sR, hX_sL, hX_sD, hX_sIa, hX_sRa, hV_sI, hV_sR, hV_sL, hV_sD, hV_sIa, hV_sRa, hX_new, hV_new] at o0 o1 o2 ⊢); omega)
  have hsm : us ≤ MS := (by have o0 := hm1.2; have o1 := hN; have o2 := hv; (try simp only [hX_sI, hX_sR, hX_sL, hX_sD, hX_sIa, hX_sRa, hV_sI, hV_sR, hV_sL, hV_sD, hV_sIa, hV_sRa, hX_new, hV_new] at o0 o1 o2 ⊢); omega)
  clear hm1
  unfold fX12_init_b176 at hf
  obtain ⟨hk61, hf⟩ := gd_some hf
  refine p_putRf (v := some _) X fl_X12_75 rfl (by decide) (fun q hq => by cases hq; exact ⟨rfl, rfl⟩) hnm (nar_rf _ (by decide)) (fit_rf _ (by decide)) (dcg dc_X12_init 84 rfl) hk61 ?_
  obtain ⟨h62, rfl, hf⟩ := lt_some hf
  refine p_aload_n X (dcg dc_X12_init 85 rfl) rfl rfl ?_
  refine p_sipush (v := 160) X (dcg dc_X12_init 86 rfl) (by decide) ?_
  obtain ⟨hg63, hf⟩ := gd_some hf
  have hm1 : lez _ (hX r) (hV r) := mX12_init_b185 hf
  have hm2 := lez_new hm1
  refine p_newa20 X tw_168 (dcg dc_X12_init 87 rfl) hg63.1 hg63.2 (show uc + 1 ≤ MC from (by have o0 := hm2.1; have o1 := hM; have o2 := hu; (try simp only [hX_sI, hX_sR, hX_sL, hX_sD, hX_sIa, hX_sRa, hV_sI, hV_sR, hV_sL, hV_sD, hV_sIa, hV_sRa, hX_new, hV_new] at o0 o1 o2 ⊢); omega)) (show us + (Int32.toNatClampNeg (160 : Int32)) ≤ MS from (by have o0 := hm2.2; have o1 := hN; have o2 := hv; (try simp only [hX_sI, hX_sR, hX_sL, hX_sD, hX_sIa, hX_sRa, hV_sI, hV_sR, hV_sL, hV_sD, hV_sIa, hV_sRa, hX_new, hV_new] at o0 o1 o2 ⊢); omega)) ?_
  refine p_pick [0] ?_
  exact wX12_init_b185 X hG hnm hM hN (by have o0 := hu; (try simp only [hX_sI, hX_sR, hX_sL, hX_sD, hX_sIa, hX_sRa, hV_sI, hV_sR, hV_sL, hV_sD, hV_sIa, hV_sRa, hX_new, hV_new] at o0 ⊢); omega) (by have o0 := hv; (try simp only [hX_sI, hX_sR, hX_sL, hX_sD, hX_sIa, hX_sRa, hV_sI, hV_sR, hV_sL, hV_sD, hV_sIa, hV_sRa, hX_new, hV_new] at o0 ⊢); omega) hf 
noncomputable def fX12_init_b167 (v0 : Nat) (t0 : Nat) (t1 : Nat) (h : PH) : Option PH :=
  gd (hK h t0 = 12) (lt (sR h 12 t0 29 (some t1)) (fun h59 =>
  gd (¬ (3200 : Int32) < 0 ∧ (Int32.toNatClampNeg (3200 : Int32)) ≤ 1000000) (fX12_init_b176 v0 v0 (hX h59) (hnew h59 20 (Int32.toNatClampNeg (3200 : Int32))))))
set_option maxRecDepth 100000 in
theorem mX12_init_b167 {v0 : Nat} {t0 : Nat} {t1 : Nat} {h : PH} {r : PH} (hf : fX12_init_b167 v0 t0 t1 h = some r) : lez h (hX r) (hV r) := by
  unfold fX12_init_b167 at hf
  have hle := lez_rf h
  obtain ⟨hk58, hf⟩ := gd_some hf
  obtain ⟨h59, rfl, hf⟩ := lt_some hf
  obtain ⟨hg60, hf⟩ := gd_some hf
  have hle := lez_nw (c := 20) (n := (Int32.toNatClampNeg (3200 : Int32))) hle
  exact lez_rt (mX12_init_b176 hf) hle
set_option maxRecDepth 100000 in
theorem wX12_init_b167 {E : PE} {p : Program} {l : Launch} {e : Env} {s : State} {m : MethodId} {args : Array Value} {below : List Frame} {meth : Method} {c : Code} {X0 V0 MC MS uc us : Nat} (X : Cx E p l e (rmv 1 MC MS) s m args below meth c RX12 cX12_init 1 (none)) (hG : Gs E l) (hnm : meth.name = yX12_init.name) {v0 : Nat} {t0 : Nat} {t1 : Nat} {h : PH} {r : PH} (hM : MC + X0 = (hX r)) (hN : MS + V0 = (hV r)) (hu : uc + X0 = hX h) (hv : us + V0 = hV h) (hf : fX12_init_b167 v0 t0 t1 h = some r)  : PW E p l e (rmv 1 MC MS) s m args below meth c 1 uc us (MQ below (QG E (fun v u => v = none ∧ u = r)) args s MC MS (pA E)) h 167 [(0, some (.ref v0))] [.ref t1, .ref t0] := by
  have hm1 : lez h (hX r) (hV r) := mX12_init_b167 hf
  have hcm : uc ≤ MC := (by have o0 := hm1.1; have o1 := hM; have o2 := hu; (try simp only [hX_sI, hX_sR, hX_sL, hX_sD, hX_sIa, hX_sRa, hV_sI, hV_sR, hV_sL, hV_sD, hV_sIa, hV_sRa, hX_new, hV_new] at o0 o1 o2 ⊢); omega)
  have hsm : us ≤ MS := (by have o0 := hm1.2; have o1 := hN; have o2 := hv; (try simp only [hX_sI, hX_sR, hX_sL, hX_sD, hX_sIa, hX_sRa, hV_sI, hV_sR, hV_sL, hV_sD, hV_sIa, hV_sRa, hX_new, hV_new] at o0 o1 o2 ⊢); omega)
  clear hm1
  unfold fX12_init_b167 at hf
  obtain ⟨hk58, hf⟩ := gd_some hf
  refine p_putRf (v := some _) X fl_X12_72 rfl (by decide) (fun q hq => by cases hq; exact ⟨rfl, rfl⟩) hnm (nar_rf _ (by decide)) (fit_rf _ (by decide)) (dcg dc_X12_init 80 rfl) hk58 ?_
  obtain ⟨h59, rfl, hf⟩ := lt_some hf
  refine p_aload_n X (dcg dc_X12_init 81 rfl) rfl rfl ?_
  refine p_sipush (v := 3200) X (dcg dc_X12_init 82 rfl) (by decide) ?_
  obtain ⟨hg60, hf⟩ := gd_some hf
  have hm1 : lez _ (hX r) (hV r) := mX12_init_b176 hf
  have hm2 := lez_new hm1
  refine p_newa20 X tw_168 (dcg dc_X12_init 83 rfl) hg60.1 hg60.2 (show uc + 1 ≤ MC from (by have o0 := hm2.1; have o1 := hM; have o2 := hu; (try simp only [hX_sI, hX_sR, hX_sL, hX_sD, hX_sIa, hX_sRa, hV_sI, hV_sR, hV_sL, hV_sD, hV_sIa, hV_sRa, hX_new, hV_new] at o0 o1 o2 ⊢); omega)) (show us + (Int32.toNatClampNeg (3200 : Int32)) ≤ MS from (by have o0 := hm2.2; have o1 := hN; have o2 := hv; (try simp only [hX_sI, hX_sR, hX_sL, hX_sD, hX_sIa, hX_sRa, hV_sI, hV_sR, hV_sL, hV_sD, hV_sIa, hV_sRa, hX_new, hV_new] at o0 o1 o2 ⊢); omega)) ?_
  refine p_pick [0] ?_
  exact wX12_init_b176 X hG hnm hM hN (by have o0 := hu; (try simp only [hX_sI, hX_sR, hX_sL, hX_sD, hX_sIa, hX_sRa, hV_sI, hV_sR, hV_sL, hV_sD, hV_sIa, hV_sRa, hX_new, hV_new] at o0 ⊢); omega) (by have o0 := hv; (try simp only [hX_sI, hX_sR, hX_sL, hX_sD, hX_sIa, hX_sRa, hV_sI, hV_sR, hV_sL, hV_sD, hV_sIa, hV_sRa, hX_new, hV_new] at o0 ⊢); omega) hf 
noncomputable def fX12_init_b158 (v0 : Nat) (t0 : Nat) (t1 : Nat) (h : PH) : Option PH :=
  gd (hK h t0 = 12) (lt (sR h 12 t0 28 (some t1)) (fun h56 =>
  gd (¬ (3200 : Int32) < 0 ∧ (Int32.toNatClampNeg (3200 : Int32)) ≤ 1000000) (fX12_init_b167 v0 v0 (hX h56) (hnew h56 20 (Int32.toNatClampNeg (3200 : Int32))))))
set_option maxRecDepth 100000 in
theorem mX12_init_b158 {v0 : Nat} {t0 : Nat} {t1 : Nat} {h : PH} {r : PH} (hf : fX12_init_b158 v0 t0 t1 h = some r) : lez h (hX r) (hV r) := by
  unfold fX12_init_b158 at hf
  have hle := lez_rf h
  obtain ⟨hk55, hf⟩ := gd_some hf
  obtain ⟨h56, rfl, hf⟩ := lt_some hf
  obtain ⟨hg57, hf⟩ := gd_some hf
  have hle := lez_nw (c := 20) (n := (Int32.toNatClampNeg (3200 : Int32))) hle
  exact lez_rt (mX12_init_b167 hf) hle
set_option maxRecDepth 100000 in
theorem wX12_init_b158 {E : PE} {p : Program} {l : Launch} {e : Env} {s : State} {m : MethodId} {args : Array Value} {below : List Frame} {meth : Method} {c : Code} {X0 V0 MC MS uc us : Nat} (X : Cx E p l e (rmv 1 MC MS) s m args below meth c RX12 cX12_init 1 (none)) (hG : Gs E l) (hnm : meth.name = yX12_init.name) {v0 : Nat} {t0 : Nat} {t1 : Nat} {h : PH} {r : PH} (hM : MC + X0 = (hX r)) (hN : MS + V0 = (hV r)) (hu : uc + X0 = hX h) (hv : us + V0 = hV h) (hf : fX12_init_b158 v0 t0 t1 h = some r)  : PW E p l e (rmv 1 MC MS) s m args below meth c 1 uc us (MQ below (QG E (fun v u => v = none ∧ u = r)) args s MC MS (pA E)) h 158 [(0, some (.ref v0))] [.ref t1, .ref t0] := by
  have hm1 : lez h (hX r) (hV r) := mX12_init_b158 hf
  have hcm : uc ≤ MC := (by have o0 := hm1.1; have o1 := hM; have o2 := hu; (try simp only [hX_sI, hX_sR, hX_sL, hX_sD, hX_sIa, hX_sRa, hV_sI, hV_sR, hV_sL, hV_sD, hV_sIa, hV_sRa, hX_new, hV_new] at o0 o1 o2 ⊢); omega)
  have hsm : us ≤ MS := (by have o0 := hm1.2; have o1 := hN; have o2 := hv; (try simp only [hX_sI, hX_sR, hX_sL, hX_sD, hX_sIa, hX_sRa, hV_sI, hV_sR, hV_sL, hV_sD, hV_sIa, hV_sRa, hX_new, hV_new] at o0 o1 o2 ⊢); omega)
  clear hm1
  unfold fX12_init_b158 at hf
  obtain ⟨hk55, hf⟩ := gd_some hf
  refine p_putRf (v := some _) X fl_X12_69 rfl (by decide) (fun q hq => by cases hq; exact ⟨rfl, rfl⟩) hnm (nar_rf _ (by decide)) (fit_rf _ (by decide)) (dcg dc_X12_init 76 rfl) hk55 ?_
  obtain ⟨h56, rfl, hf⟩ := lt_some hf
  refine p_aload_n X (dcg dc_X12_init 77 rfl) rfl rfl ?_
  refine p_sipush (v := 3200) X (dcg dc_X12_init 78 rfl) (by decide) ?_
  obtain ⟨hg57, hf⟩ := gd_some hf
  have hm1 : lez _ (hX r) (hV r) := mX12_init_b167 hf
  have hm2 := lez_new hm1
  refine p_newa20 X tw_168 (dcg dc_X12_init 79 rfl) hg57.1 hg57.2 (show uc + 1 ≤ MC from (by have o0 := hm2.1; have o1 := hM; have o2 := hu; (try simp only [hX_sI, hX_sR, hX_sL, hX_sD, hX_sIa, hX_sRa, hV_sI, hV_sR, hV_sL, hV_sD, hV_sIa, hV_sRa, hX_new, hV_new] at o0 o1 o2 ⊢); omega)) (show us + (Int32.toNatClampNeg (3200 : Int32)) ≤ MS from (by have o0 := hm2.2; have o1 := hN; have o2 := hv; (try simp only [hX_sI, hX_sR, hX_sL, hX_sD, hX_sIa, hX_sRa, hV_sI, hV_sR, hV_sL, hV_sD, hV_sIa, hV_sRa, hX_new, hV_new] at o0 o1 o2 ⊢); omega)) ?_
  refine p_pick [0] ?_
  exact wX12_init_b167 X hG hnm hM hN (by have o0 := hu; (try simp only [hX_sI, hX_sR, hX_sL, hX_sD, hX_sIa, hX_sRa, hV_sI, hV_sR, hV_sL, hV_sD, hV_sIa, hV_sRa, hX_new, hV_new] at o0 ⊢); omega) (by have o0 := hv; (try simp only [hX_sI, hX_sR, hX_sL, hX_sD, hX_sIa, hX_sRa, hV_sI, hV_sR, hV_sL, hV_sD, hV_sIa, hV_sRa, hX_new, hV_new] at o0 ⊢); omega) hf 
noncomputable def fX12_init_b149 (v0 : Nat) (t0 : Nat) (t1 : Nat) (h : PH) : Option PH :=
  gd (hK h t0 = 12) (lt (sR h 12 t0 27 (some t1)) (fun h53 =>
  gd (¬ (3200 : Int32) < 0 ∧ (Int32.toNatClampNeg (3200 : Int32)) ≤ 1000000) (fX12_init_b158 v0 v0 (hX h53) (hnew h53 20 (Int32.toNatClampNeg (3200 : Int32))))))
set_option maxRecDepth 100000 in
theorem mX12_init_b149 {v0 : Nat} {t0 : Nat} {t1 : Nat} {h : PH} {r : PH} (hf : fX12_init_b149 v0 t0 t1 h = some r) : lez h (hX r) (hV r) := by
  unfold fX12_init_b149 at hf
  have hle := lez_rf h
  obtain ⟨hk52, hf⟩ := gd_some hf
  obtain ⟨h53, rfl, hf⟩ := lt_some hf
  obtain ⟨hg54, hf⟩ := gd_some hf
  have hle := lez_nw (c := 20) (n := (Int32.toNatClampNeg (3200 : Int32))) hle
  exact lez_rt (mX12_init_b158 hf) hle
set_option maxRecDepth 100000 in
theorem wX12_init_b149 {E : PE} {p : Program} {l : Launch} {e : Env} {s : State} {m : MethodId} {args : Array Value} {below : List Frame} {meth : Method} {c : Code} {X0 V0 MC MS uc us : Nat} (X : Cx E p l e (rmv 1 MC MS) s m args below meth c RX12 cX12_init 1 (none)) (hG : Gs E l) (hnm : meth.name = yX12_init.name) {v0 : Nat} {t0 : Nat} {t1 : Nat} {h : PH} {r : PH} (hM : MC + X0 = (hX r)) (hN : MS + V0 = (hV r)) (hu : uc + X0 = hX h) (hv : us + V0 = hV h) (hf : fX12_init_b149 v0 t0 t1 h = some r)  : PW E p l e (rmv 1 MC MS) s m args below meth c 1 uc us (MQ below (QG E (fun v u => v = none ∧ u = r)) args s MC MS (pA E)) h 149 [(0, some (.ref v0))] [.ref t1, .ref t0] := by
  have hm1 : lez h (hX r) (hV r) := mX12_init_b149 hf
  have hcm : uc ≤ MC := (by have o0 := hm1.1; have o1 := hM; have o2 := hu; (try simp only [hX_sI, hX_sR, hX_sL, hX_sD, hX_sIa, hX_sRa, hV_sI, hV_sR, hV_sL, hV_sD, hV_sIa, hV_sRa, hX_new, hV_new] at o0 o1 o2 ⊢); omega)
  have hsm : us ≤ MS := (by have o0 := hm1.2; have o1 := hN; have o2 := hv; (try simp only [hX_sI, hX_sR, hX_sL, hX_sD, hX_sIa, hX_sRa, hV_sI, hV_sR, hV_sL, hV_sD, hV_sIa, hV_sRa, hX_new, hV_new] at o0 o1 o2 ⊢); omega)
  clear hm1
  unfold fX12_init_b149 at hf
  obtain ⟨hk52, hf⟩ := gd_some hf
  refine p_putRf (v := some _) X fl_X12_66 rfl (by decide) (fun q hq => by cases hq; exact ⟨rfl, rfl⟩) hnm (nar_rf _ (by decide)) (fit_rf _ (by decide)) (dcg dc_X12_init 72 rfl) hk52 ?_
  obtain ⟨h53, rfl, hf⟩ := lt_some hf
  refine p_aload_n X (dcg dc_X12_init 73 rfl) rfl rfl ?_
  refine p_sipush (v := 3200) X (dcg dc_X12_init 74 rfl) (by decide) ?_
  obtain ⟨hg54, hf⟩ := gd_some hf
  have hm1 : lez _ (hX r) (hV r) := mX12_init_b158 hf
  have hm2 := lez_new hm1
  refine p_newa20 X tw_168 (dcg dc_X12_init 75 rfl) hg54.1 hg54.2 (show uc + 1 ≤ MC from (by have o0 := hm2.1; have o1 := hM; have o2 := hu; (try simp only [hX_sI, hX_sR, hX_sL, hX_sD, hX_sIa, hX_sRa, hV_sI, hV_sR, hV_sL, hV_sD, hV_sIa, hV_sRa, hX_new, hV_new] at o0 o1 o2 ⊢); omega)) (show us + (Int32.toNatClampNeg (3200 : Int32)) ≤ MS from (by have o0 := hm2.2; have o1 := hN; have o2 := hv; (try simp only [hX_sI, hX_sR, hX_sL, hX_sD, hX_sIa, hX_sRa, hV_sI, hV_sR, hV_sL, hV_sD, hV_sIa, hV_sRa, hX_new, hV_new] at o0 o1 o2 ⊢); omega)) ?_
  refine p_pick [0] ?_
  exact wX12_init_b158 X hG hnm hM hN (by have o0 := hu; (try simp only [hX_sI, hX_sR, hX_sL, hX_sD, hX_sIa, hX_sRa, hV_sI, hV_sR, hV_sL, hV_sD, hV_sIa, hV_sRa, hX_new, hV_new] at o0 ⊢); omega) (by have o0 := hv; (try simp only [hX_sI, hX_sR, hX_sL, hX_sD, hX_sIa, hX_sRa, hV_sI, hV_sR, hV_sL, hV_sD, hV_sIa, hV_sRa, hX_new, hV_new] at o0 ⊢); omega) hf 
noncomputable def fX12_init_b140 (v0 : Nat) (t0 : Nat) (t1 : Nat) (h : PH) : Option PH :=
  gd (hK h t0 = 12) (lt (sR h 12 t0 26 (some t1)) (fun h50 =>
  gd (¬ (3200 : Int32) < 0 ∧ (Int32.toNatClampNeg (3200 : Int32)) ≤ 1000000) (fX12_init_b149 v0 v0 (hX h50) (hnew h50 20 (Int32.toNatClampNeg (3200 : Int32))))))
set_option maxRecDepth 100000 in
theorem mX12_init_b140 {v0 : Nat} {t0 : Nat} {t1 : Nat} {h : PH} {r : PH} (hf : fX12_init_b140 v0 t0 t1 h = some r) : lez h (hX r) (hV r) := by
  unfold fX12_init_b140 at hf
  have hle := lez_rf h
  obtain ⟨hk49, hf⟩ := gd_some hf
  obtain ⟨h50, rfl, hf⟩ := lt_some hf
  obtain ⟨hg51, hf⟩ := gd_some hf
  have hle := lez_nw (c := 20) (n := (Int32.toNatClampNeg (3200 : Int32))) hle
  exact lez_rt (mX12_init_b149 hf) hle
set_option maxRecDepth 100000 in
theorem wX12_init_b140 {E : PE} {p : Program} {l : Launch} {e : Env} {s : State} {m : MethodId} {args : Array Value} {below : List Frame} {meth : Method} {c : Code} {X0 V0 MC MS uc us : Nat} (X : Cx E p l e (rmv 1 MC MS) s m args below meth c RX12 cX12_init 1 (none)) (hG : Gs E l) (hnm : meth.name = yX12_init.name) {v0 : Nat} {t0 : Nat} {t1 : Nat} {h : PH} {r : PH} (hM : MC + X0 = (hX r)) (hN : MS + V0 = (hV r)) (hu : uc + X0 = hX h) (hv : us + V0 = hV h) (hf : fX12_init_b140 v0 t0 t1 h = some r)  : PW E p l e (rmv 1 MC MS) s m args below meth c 1 uc us (MQ below (QG E (fun v u => v = none ∧ u = r)) args s MC MS (pA E)) h 140 [(0, some (.ref v0))] [.ref t1, .ref t0] := by
  have hm1 : lez h (hX r) (hV r) := mX12_init_b140 hf
  have hcm : uc ≤ MC := (by have o0 := hm1.1; have o1 := hM; have o2 := hu; (try simp only [hX_sI, hX_sR, hX_sL, hX_sD, hX_sIa, hX_sRa, hV_sI, hV_sR, hV_sL, hV_sD, hV_sIa, hV_sRa, hX_new, hV_new] at o0 o1 o2 ⊢); omega)
  have hsm : us ≤ MS := (by have o0 := hm1.2; have o1 := hN; have o2 := hv; (try simp only [hX_sI, hX_sR, hX_sL, hX_sD, hX_sIa, hX_sRa, hV_sI, hV_sR, hV_sL, hV_sD, hV_sIa, hV_sRa, hX_new, hV_new] at o0 o1 o2 ⊢); omega)
  clear hm1
  unfold fX12_init_b140 at hf
  obtain ⟨hk49, hf⟩ := gd_some hf
  refine p_putRf (v := some _) X fl_X12_63 rfl (by decide) (fun q hq => by cases hq; exact ⟨rfl, rfl⟩) hnm (nar_rf _ (by decide)) (fit_rf _ (by decide)) (dcg dc_X12_init 68 rfl) hk49 ?_
  obtain ⟨h50, rfl, hf⟩ := lt_some hf
  refine p_aload_n X (dcg dc_X12_init 69 rfl) rfl rfl ?_
  refine p_sipush (v := 3200) X (dcg dc_X12_init 70 rfl) (by decide) ?_
  obtain ⟨hg51, hf⟩ := gd_some hf
  have hm1 : lez _ (hX r) (hV r) := mX12_init_b149 hf
  have hm2 := lez_new hm1
  refine p_newa20 X tw_168 (dcg dc_X12_init 71 rfl) hg51.1 hg51.2 (show uc + 1 ≤ MC from (by have o0 := hm2.1; have o1 := hM; have o2 := hu; (try simp only [hX_sI, hX_sR, hX_sL, hX_sD, hX_sIa, hX_sRa, hV_sI, hV_sR, hV_sL, hV_sD, hV_sIa, hV_sRa, hX_new, hV_new] at o0 o1 o2 ⊢); omega)) (show us + (Int32.toNatClampNeg (3200 : Int32)) ≤ MS from (by have o0 := hm2.2; have o1 := hN; have o2 := hv; (try simp only [hX_sI, hX_sR, hX_sL, hX_sD, hX_sIa, hX_sRa, hV_sI, hV_sR, hV_sL, hV_sD, hV_sIa, hV_sRa, hX_new, hV_new] at o0 o1 o2 ⊢); omega)) ?_
  refine p_pick [0] ?_
  exact wX12_init_b149 X hG hnm hM hN (by have o0 := hu; (try simp only [hX_sI, hX_sR, hX_sL, hX_sD, hX_sIa, hX_sRa, hV_sI, hV_sR, hV_sL, hV_sD, hV_sIa, hV_sRa, hX_new, hV_new] at o0 ⊢); omega) (by have o0 := hv; (try simp only [hX_sI, hX_sR, hX_sL, hX_sD, hX_sIa, hX_sRa, hV_sI, hV_sR, hV_sL, hV_sD, hV_sIa, hV_sRa, hX_new, hV_new] at o0 ⊢); omega) hf 
noncomputable def fX12_init_b131 (v0 : Nat) (t0 : Nat) (t1 : Nat) (h : PH) : Option PH :=
  gd (hK h t0 = 12) (lt (sR h 12 t0 25 (some t1)) (fun h47 =>
  gd (¬ (3200 : Int32) < 0 ∧ (Int32.toNatClampNeg (3200 : Int32)) ≤ 1000000) (fX12_init_b140 v0 v0 (hX h47) (hnew h47 20 (Int32.toNatClampNeg (3200 : Int32))))))
set_option maxRecDepth 100000 in
theorem mX12_init_b131 {v0 : Nat} {t0 : Nat} {t1 : Nat} {h : PH} {r : PH} (hf : fX12_init_b131 v0 t0 t1 h = some r) : lez h (hX r) (hV r) := by
  unfold fX12_init_b131 at hf
  have hle := lez_rf h
  obtain ⟨hk46, hf⟩ := gd_some hf
  obtain ⟨h47, rfl, hf⟩ := lt_some hf
  obtain ⟨hg48, hf⟩ := gd_some hf
  have hle := lez_nw (c := 20) (n := (Int32.toNatClampNeg (3200 : Int32))) hle
  exact lez_rt (mX12_init_b140 hf) hle
set_option maxRecDepth 100000 in
theorem wX12_init_b131 {E : PE} {p : Program} {l : Launch} {e : Env} {s : State} {m : MethodId} {args : Array Value} {below : List Frame} {meth : Method} {c : Code} {X0 V0 MC MS uc us : Nat} (X : Cx E p l e (rmv 1 MC MS) s m args below meth c RX12 cX12_init 1 (none)) (hG : Gs E l) (hnm : meth.name = yX12_init.name) {v0 : Nat} {t0 : Nat} {t1 : Nat} {h : PH} {r : PH} (hM : MC + X0 = (hX r)) (hN : MS + V0 = (hV r)) (hu : uc + X0 = hX h) (hv : us + V0 = hV h) (hf : fX12_init_b131 v0 t0 t1 h = some r)  : PW E p l e (rmv 1 MC MS) s m args below meth c 1 uc us (MQ below (QG E (fun v u => v = none ∧ u = r)) args s MC MS (pA E)) h 131 [(0, some (.ref v0))] [.ref t1, .ref t0] := by
  have hm1 : lez h (hX r) (hV r) := mX12_init_b131 hf
  have hcm : uc ≤ MC := (by have o0 := hm1.1; have o1 := hM; have o2 := hu; (try simp only [hX_sI, hX_sR, hX_sL, hX_sD, hX_sIa, hX_sRa, hV_sI, hV_sR, hV_sL, hV_sD, hV_sIa, hV_sRa, hX_new, hV_new] at o0 o1 o2 ⊢); omega)
  have hsm : us ≤ MS := (by have o0 := hm1.2; have o1 := hN; have o2 := hv; (try simp only [hX_sI, hX_sR, hX_sL, hX_sD, hX_sIa, hX_sRa, hV_sI, hV_sR, hV_sL, hV_sD, hV_sIa, hV_sRa, hX_new, hV_new] at o0 o1 o2 ⊢); omega)
  clear hm1
  unfold fX12_init_b131 at hf
  obtain ⟨hk46, hf⟩ := gd_some hf
  refine p_putRf (v := some _) X fl_X12_60 rfl (by decide) (fun q hq => by cases hq; exact ⟨rfl, rfl⟩) hnm (nar_rf _ (by decide)) (fit_rf _ (by decide)) (dcg dc_X12_init 64 rfl) hk46 ?_
  obtain ⟨h47, rfl, hf⟩ := lt_some hf
  refine p_aload_n X (dcg dc_X12_init 65 rfl) rfl rfl ?_
  refine p_sipush (v := 3200) X (dcg dc_X12_init 66 rfl) (by decide) ?_
  obtain ⟨hg48, hf⟩ := gd_some hf
  have hm1 : lez _ (hX r) (hV r) := mX12_init_b140 hf
  have hm2 := lez_new hm1
  refine p_newa20 X tw_168 (dcg dc_X12_init 67 rfl) hg48.1 hg48.2 (show uc + 1 ≤ MC from (by have o0 := hm2.1; have o1 := hM; have o2 := hu; (try simp only [hX_sI, hX_sR, hX_sL, hX_sD, hX_sIa, hX_sRa, hV_sI, hV_sR, hV_sL, hV_sD, hV_sIa, hV_sRa, hX_new, hV_new] at o0 o1 o2 ⊢); omega)) (show us + (Int32.toNatClampNeg (3200 : Int32)) ≤ MS from (by have o0 := hm2.2; have o1 := hN; have o2 := hv; (try simp only [hX_sI, hX_sR, hX_sL, hX_sD, hX_sIa, hX_sRa, hV_sI, hV_sR, hV_sL, hV_sD, hV_sIa, hV_sRa, hX_new, hV_new] at o0 o1 o2 ⊢); omega)) ?_
  refine p_pick [0] ?_
  exact wX12_init_b140 X hG hnm hM hN (by have o0 := hu; (try simp only [hX_sI, hX_sR, hX_sL, hX_sD, hX_sIa, hX_sRa, hV_sI, hV_sR, hV_sL, hV_sD, hV_sIa, hV_sRa, hX_new, hV_new] at o0 ⊢); omega) (by have o0 := hv; (try simp only [hX_sI, hX_sR, hX_sL, hX_sD, hX_sIa, hX_sRa, hV_sI, hV_sR, hV_sL, hV_sD, hV_sIa, hV_sRa, hX_new, hV_new] at o0 ⊢); omega) hf 
noncomputable def fX12_init_b122 (v0 : Nat) (t0 : Nat) (t1 : Nat) (h : PH) : Option PH :=
  gd (hK h t0 = 12) (lt (sR h 12 t0 19 (some t1)) (fun h44 =>
  gd (¬ (3200 : Int32) < 0 ∧ (Int32.toNatClampNeg (3200 : Int32)) ≤ 1000000) (fX12_init_b131 v0 v0 (hX h44) (hnew h44 20 (Int32.toNatClampNeg (3200 : Int32))))))
set_option maxRecDepth 100000 in
theorem mX12_init_b122 {v0 : Nat} {t0 : Nat} {t1 : Nat} {h : PH} {r : PH} (hf : fX12_init_b122 v0 t0 t1 h = some r) : lez h (hX r) (hV r) := by
  unfold fX12_init_b122 at hf
  have hle := lez_rf h
  obtain ⟨hk43, hf⟩ := gd_some hf
  obtain ⟨h44, rfl, hf⟩ := lt_some hf
  obtain ⟨hg45, hf⟩ := gd_some hf
  have hle := lez_nw (c := 20) (n := (Int32.toNatClampNeg (3200 : Int32))) hle
  exact lez_rt (mX12_init_b131 hf) hle
set_option maxRecDepth 100000 in
theorem wX12_init_b122 {E : PE} {p : Program} {l : Launch} {e : Env} {s : State} {m : MethodId} {args : Array Value} {below : List Frame} {meth : Method} {c : Code} {X0 V0 MC MS uc us : Nat} (X : Cx E p l e (rmv 1 MC MS) s m args below meth c RX12 cX12_init 1 (none)) (hG : Gs E l) (hnm : meth.name = yX12_init.name) {v0 : Nat} {t0 : Nat} {t1 : Nat} {h : PH} {r : PH} (hM : MC + X0 = (hX r)) (hN : MS + V0 = (hV r)) (hu : uc + X0 = hX h) (hv : us + V0 = hV h) (hf : fX12_init_b122 v0 t0 t1 h = some r)  : PW E p l e (rmv 1 MC MS) s m args below meth c 1 uc us (MQ below (QG E (fun v u => v = none ∧ u = r)) args s MC MS (pA E)) h 122 [(0, some (.ref v0))] [.ref t1, .ref t0] := by
  have hm1 : lez h (hX r) (hV r) := mX12_init_b122 hf
  have hcm : uc ≤ MC := (by have o0 := hm1.1; have o1 := hM; have o2 := hu; (try simp only [hX_sI, hX_sR, hX_sL, hX_sD, hX_sIa, hX_sRa, hV_sI, hV_sR, hV_sL, hV_sD, hV_sIa, hV_sRa, hX_new, hV_new] at o0 o1 o2 ⊢); omega)
  have hsm : us ≤ MS := (by have o0 := hm1.2; have o1 := hN; have o2 := hv; (try simp only [hX_sI, hX_sR, hX_sL, hX_sD, hX_sIa, hX_sRa, hV_sI, hV_sR, hV_sL, hV_sD, hV_sIa, hV_sRa, hX_new, hV_new] at o0 o1 o2 ⊢); omega)
  clear hm1
  unfold fX12_init_b122 at hf
  obtain ⟨hk43, hf⟩ := gd_some hf
  refine p_putRf (v := some _) X fl_X12_57 rfl (by decide) (fun q hq => by cases hq; exact ⟨rfl, rfl⟩) hnm (nar_rf _ (by decide)) (fit_rf _ (by decide)) (dcg dc_X12_init 60 rfl) hk43 ?_
  obtain ⟨h44, rfl, hf⟩ := lt_some hf
  refine p_aload_n X (dcg dc_X12_init 61 rfl) rfl rfl ?_
  refine p_sipush (v := 3200) X (dcg dc_X12_init 62 rfl) (by decide) ?_
  obtain ⟨hg45, hf⟩ := gd_some hf
  have hm1 : lez _ (hX r) (hV r) := mX12_init_b131 hf
  have hm2 := lez_new hm1
  refine p_newa20 X tw_168 (dcg dc_X12_init 63 rfl) hg45.1 hg45.2 (show uc + 1 ≤ MC from (by have o0 := hm2.1; have o1 := hM; have o2 := hu; (try simp only [hX_sI, hX_sR, hX_sL, hX_sD, hX_sIa, hX_sRa, hV_sI, hV_sR, hV_sL, hV_sD, hV_sIa, hV_sRa, hX_new, hV_new] at o0 o1 o2 ⊢); omega)) (show us + (Int32.toNatClampNeg (3200 : Int32)) ≤ MS from (by have o0 := hm2.2; have o1 := hN; have o2 := hv; (try simp only [hX_sI, hX_sR, hX_sL, hX_sD, hX_sIa, hX_sRa, hV_sI, hV_sR, hV_sL, hV_sD, hV_sIa, hV_sRa, hX_new, hV_new] at o0 o1 o2 ⊢); omega)) ?_
  refine p_pick [0] ?_
  exact wX12_init_b131 X hG hnm hM hN (by have o0 := hu; (try simp only [hX_sI, hX_sR, hX_sL, hX_sD, hX_sIa, hX_sRa, hV_sI, hV_sR, hV_sL, hV_sD, hV_sIa, hV_sRa, hX_new, hV_new] at o0 ⊢); omega) (by have o0 := hv; (try simp only [hX_sI, hX_sR, hX_sL, hX_sD, hX_sIa, hX_sRa, hV_sI, hV_sR, hV_sL, hV_sD, hV_sIa, hV_sRa, hX_new, hV_new] at o0 ⊢); omega) hf 
noncomputable def fX12_init_b113 (v0 : Nat) (t0 : Nat) (t1 : Nat) (h : PH) : Option PH :=
  gd (hK h t0 = 12) (lt (sR h 12 t0 17 (some t1)) (fun h41 =>
  gd (¬ (4000 : Int32) < 0 ∧ (Int32.toNatClampNeg (4000 : Int32)) ≤ 1000000) (fX12_init_b122 v0 v0 (hX h41) (hnew h41 20 (Int32.toNatClampNeg (4000 : Int32))))))
set_option maxRecDepth 100000 in
theorem mX12_init_b113 {v0 : Nat} {t0 : Nat} {t1 : Nat} {h : PH} {r : PH} (hf : fX12_init_b113 v0 t0 t1 h = some r) : lez h (hX r) (hV r) := by
  unfold fX12_init_b113 at hf
  have hle := lez_rf h
  obtain ⟨hk40, hf⟩ := gd_some hf
  obtain ⟨h41, rfl, hf⟩ := lt_some hf
  obtain ⟨hg42, hf⟩ := gd_some hf
  have hle := lez_nw (c := 20) (n := (Int32.toNatClampNeg (4000 : Int32))) hle
  exact lez_rt (mX12_init_b122 hf) hle
set_option maxRecDepth 100000 in
theorem wX12_init_b113 {E : PE} {p : Program} {l : Launch} {e : Env} {s : State} {m : MethodId} {args : Array Value} {below : List Frame} {meth : Method} {c : Code} {X0 V0 MC MS uc us : Nat} (X : Cx E p l e (rmv 1 MC MS) s m args below meth c RX12 cX12_init 1 (none)) (hG : Gs E l) (hnm : meth.name = yX12_init.name) {v0 : Nat} {t0 : Nat} {t1 : Nat} {h : PH} {r : PH} (hM : MC + X0 = (hX r)) (hN : MS + V0 = (hV r)) (hu : uc + X0 = hX h) (hv : us + V0 = hV h) (hf : fX12_init_b113 v0 t0 t1 h = some r)  : PW E p l e (rmv 1 MC MS) s m args below meth c 1 uc us (MQ below (QG E (fun v u => v = none ∧ u = r)) args s MC MS (pA E)) h 113 [(0, some (.ref v0))] [.ref t1, .ref t0] := by
  have hm1 : lez h (hX r) (hV r) := mX12_init_b113 hf
  have hcm : uc ≤ MC := (by have o0 := hm1.1; have o1 := hM; have o2 := hu; (try simp only [hX_sI, hX_sR, hX_sL, hX_sD, hX_sIa, hX_sRa, hV_sI, hV_sR, hV_sL, hV_sD, hV_sIa, hV_sRa, hX_new, hV_new] at o0 o1 o2 ⊢); omega)
  have hsm : us ≤ MS := (by have o0 := hm1.2; have o1 := hN; have o2 := hv; (try simp only [hX_sI, hX_sR, hX_sL, hX_sD, hX_sIa, hX_sRa, hV_sI, hV_sR, hV_sL, hV_sD, hV_sIa, hV_sRa, hX_new, hV_new] at o0 o1 o2 ⊢); omega)
  clear hm1
  unfold fX12_init_b113 at hf
  obtain ⟨hk40, hf⟩ := gd_some hf
  refine p_putRf (v := some _) X fl_X12_54 rfl (by decide) (fun q hq => by cases hq; exact ⟨rfl, rfl⟩) hnm (nar_rf _ (by decide)) (fit_rf _ (by decide)) (dcg dc_X12_init 56 rfl) hk40 ?_
  obtain ⟨h41, rfl, hf⟩ := lt_some hf
  refine p_aload_n X (dcg dc_X12_init 57 rfl) rfl rfl ?_
  refine p_sipush (v := 4000) X (dcg dc_X12_init 58 rfl) (by decide) ?_
  obtain ⟨hg42, hf⟩ := gd_some hf
  have hm1 : lez _ (hX r) (hV r) := mX12_init_b122 hf
  have hm2 := lez_new hm1
  refine p_newa20 X tw_168 (dcg dc_X12_init 59 rfl) hg42.1 hg42.2 (show uc + 1 ≤ MC from (by have o0 := hm2.1; have o1 := hM; have o2 := hu; (try simp only [hX_sI, hX_sR, hX_sL, hX_sD, hX_sIa, hX_sRa, hV_sI, hV_sR, hV_sL, hV_sD, hV_sIa, hV_sRa, hX_new, hV_new] at o0 o1 o2 ⊢); omega)) (show us + (Int32.toNatClampNeg (4000 : Int32)) ≤ MS from (by have o0 := hm2.2; have o1 := hN; have o2 := hv; (try simp only [hX_sI, hX_sR, hX_sL, hX_sD, hX_sIa, hX_sRa, hV_sI, hV_sR, hV_sL, hV_sD, hV_sIa, hV_sRa, hX_new, hV_new] at o0 o1 o2 ⊢); omega)) ?_
  refine p_pick [0] ?_
  exact wX12_init_b122 X hG hnm hM hN (by have o0 := hu; (try simp only [hX_sI, hX_sR, hX_sL, hX_sD, hX_sIa, hX_sRa, hV_sI, hV_sR, hV_sL, hV_sD, hV_sIa, hV_sRa, hX_new, hV_new] at o0 ⊢); omega) (by have o0 := hv; (try simp only [hX_sI, hX_sR, hX_sL, hX_sD, hX_sIa, hX_sRa, hV_sI, hV_sR, hV_sL, hV_sD, hV_sIa, hV_sRa, hX_new, hV_new] at o0 ⊢); omega) hf 
noncomputable def fX12_init_b105 (v0 : Nat) (t0 : Nat) (t1 : Nat) (h : PH) : Option PH :=
  gd (hK h t0 = 12) (lt (sR h 12 t0 16 (some t1)) (fun h38 =>
  gd (¬ (100 : Int32) < 0 ∧ (Int32.toNatClampNeg (100 : Int32)) ≤ 1000000) (fX12_init_b113 v0 v0 (hX h38) (hnew h38 20 (Int32.toNatClampNeg (100 : Int32))))))
set_option maxRecDepth 100000 in
theorem mX12_init_b105 {v0 : Nat} {t0 : Nat} {t1 : Nat} {h : PH} {r : PH} (hf : fX12_init_b105 v0 t0 t1 h = some r) : lez h (hX r) (hV r) := by
  unfold fX12_init_b105 at hf
  have hle := lez_rf h
  obtain ⟨hk37, hf⟩ := gd_some hf
  obtain ⟨h38, rfl, hf⟩ := lt_some hf
  obtain ⟨hg39, hf⟩ := gd_some hf
  have hle := lez_nw (c := 20) (n := (Int32.toNatClampNeg (100 : Int32))) hle
  exact lez_rt (mX12_init_b113 hf) hle
set_option maxRecDepth 100000 in
theorem wX12_init_b105 {E : PE} {p : Program} {l : Launch} {e : Env} {s : State} {m : MethodId} {args : Array Value} {below : List Frame} {meth : Method} {c : Code} {X0 V0 MC MS uc us : Nat} (X : Cx E p l e (rmv 1 MC MS) s m args below meth c RX12 cX12_init 1 (none)) (hG : Gs E l) (hnm : meth.name = yX12_init.name) {v0 : Nat} {t0 : Nat} {t1 : Nat} {h : PH} {r : PH} (hM : MC + X0 = (hX r)) (hN : MS + V0 = (hV r)) (hu : uc + X0 = hX h) (hv : us + V0 = hV h) (hf : fX12_init_b105 v0 t0 t1 h = some r)  : PW E p l e (rmv 1 MC MS) s m args below meth c 1 uc us (MQ below (QG E (fun v u => v = none ∧ u = r)) args s MC MS (pA E)) h 105 [(0, some (.ref v0))] [.ref t1, .ref t0] := by
  have hm1 : lez h (hX r) (hV r) := mX12_init_b105 hf
  have hcm : uc ≤ MC := (by have o0 := hm1.1; have o1 := hM; have o2 := hu; (try simp only [hX_sI, hX_sR, hX_sL, hX_sD, hX_sIa, hX_sRa, hV_sI, hV_sR, hV_sL, hV_sD, hV_sIa, hV_sRa, hX_new, hV_new] at o0 o1 o2 ⊢); omega)
  have hsm : us ≤ MS := (by have o0 := hm1.2; have o1 := hN; have o2 := hv; (try simp only [hX_sI, hX_sR, hX_sL, hX_sD, hX_sIa, hX_sRa, hV_sI, hV_sR, hV_sL, hV_sD, hV_sIa, hV_sRa, hX_new, hV_new] at o0 o1 o2 ⊢); omega)
  clear hm1
  unfold fX12_init_b105 at hf
  obtain ⟨hk37, hf⟩ := gd_some hf
  refine p_putRf (v := some _) X fl_X12_51 rfl (by decide) (fun q hq => by cases hq; exact ⟨rfl, rfl⟩) hnm (nar_rf _ (by decide)) (fit_rf _ (by decide)) (dcg dc_X12_init 52 rfl) hk37 ?_
  obtain ⟨h38, rfl, hf⟩ := lt_some hf
  refine p_aload_n X (dcg dc_X12_init 53 rfl) rfl rfl ?_
  refine p_bipush (v := 100) X (dcg dc_X12_init 54 rfl) (by decide) ?_
  obtain ⟨hg39, hf⟩ := gd_some hf
  have hm1 : lez _ (hX r) (hV r) := mX12_init_b113 hf
  have hm2 := lez_new hm1
  refine p_newa20 X tw_168 (dcg dc_X12_init 55 rfl) hg39.1 hg39.2 (show uc + 1 ≤ MC from (by have o0 := hm2.1; have o1 := hM; have o2 := hu; (try simp only [hX_sI, hX_sR, hX_sL, hX_sD, hX_sIa, hX_sRa, hV_sI, hV_sR, hV_sL, hV_sD, hV_sIa, hV_sRa, hX_new, hV_new] at o0 o1 o2 ⊢); omega)) (show us + (Int32.toNatClampNeg (100 : Int32)) ≤ MS from (by have o0 := hm2.2; have o1 := hN; have o2 := hv; (try simp only [hX_sI, hX_sR, hX_sL, hX_sD, hX_sIa, hX_sRa, hV_sI, hV_sR, hV_sL, hV_sD, hV_sIa, hV_sRa, hX_new, hV_new] at o0 o1 o2 ⊢); omega)) ?_
  refine p_pick [0] ?_
  exact wX12_init_b113 X hG hnm hM hN (by have o0 := hu; (try simp only [hX_sI, hX_sR, hX_sL, hX_sD, hX_sIa, hX_sRa, hV_sI, hV_sR, hV_sL, hV_sD, hV_sIa, hV_sRa, hX_new, hV_new] at o0 ⊢); omega) (by have o0 := hv; (try simp only [hX_sI, hX_sR, hX_sL, hX_sD, hX_sIa, hX_sRa, hV_sI, hV_sR, hV_sL, hV_sD, hV_sIa, hV_sRa, hX_new, hV_new] at o0 ⊢); omega) hf 
noncomputable def fX12_init_b97 (v0 : Nat) (t0 : Nat) (t1 : Nat) (h : PH) : Option PH :=
  gd (hK h t0 = 12) (lt (sR h 12 t0 15 (some t1)) (fun h35 =>
  gd (¬ (100 : Int32) < 0 ∧ (Int32.toNatClampNeg (100 : Int32)) ≤ 1000000) (fX12_init_b105 v0 v0 (hX h35) (hnew h35 20 (Int32.toNatClampNeg (100 : Int32))))))
set_option maxRecDepth 100000 in
theorem mX12_init_b97 {v0 : Nat} {t0 : Nat} {t1 : Nat} {h : PH} {r : PH} (hf : fX12_init_b97 v0 t0 t1 h = some r) : lez h (hX r) (hV r) := by
  unfold fX12_init_b97 at hf
  have hle := lez_rf h
  obtain ⟨hk34, hf⟩ := gd_some hf
  obtain ⟨h35, rfl, hf⟩ := lt_some hf
  obtain ⟨hg36, hf⟩ := gd_some hf
  have hle := lez_nw (c := 20) (n := (Int32.toNatClampNeg (100 : Int32))) hle
  exact lez_rt (mX12_init_b105 hf) hle
set_option maxRecDepth 100000 in
theorem wX12_init_b97 {E : PE} {p : Program} {l : Launch} {e : Env} {s : State} {m : MethodId} {args : Array Value} {below : List Frame} {meth : Method} {c : Code} {X0 V0 MC MS uc us : Nat} (X : Cx E p l e (rmv 1 MC MS) s m args below meth c RX12 cX12_init 1 (none)) (hG : Gs E l) (hnm : meth.name = yX12_init.name) {v0 : Nat} {t0 : Nat} {t1 : Nat} {h : PH} {r : PH} (hM : MC + X0 = (hX r)) (hN : MS + V0 = (hV r)) (hu : uc + X0 = hX h) (hv : us + V0 = hV h) (hf : fX12_init_b97 v0 t0 t1 h = some r)  : PW E p l e (rmv 1 MC MS) s m args below meth c 1 uc us (MQ below (QG E (fun v u => v = none ∧ u = r)) args s MC MS (pA E)) h 97 [(0, some (.ref v0))] [.ref t1, .ref t0] := by
  have hm1 : lez h (hX r) (hV r) := mX12_init_b97 hf
  have hcm : uc ≤ MC := (by have o0 := hm1.1; have o1 := hM; have o2 := hu; (try simp only [hX_sI, hX_sR, hX_sL, hX_sD, hX_sIa, hX_sRa, hV_sI, hV_sR, hV_sL, hV_sD, hV_sIa, hV_sRa, hX_new, hV_new] at o0 o1 o2 ⊢); omega)
  have hsm : us ≤ MS := (by have o0 := hm1.2; have o1 := hN; have o2 := hv; (try simp only [hX_sI, hX_sR, hX_sL, hX_sD, hX_sIa, hX_sRa, hV_sI, hV_sR, hV_sL, hV_sD, hV_sIa, hV_sRa, hX_new, hV_new] at o0 o1 o2 ⊢); omega)
  clear hm1
  unfold fX12_init_b97 at hf
  obtain ⟨hk34, hf⟩ := gd_some hf
  refine p_putRf (v := some _) X fl_X12_48 rfl (by decide) (fun q hq => by cases hq; exact ⟨rfl, rfl⟩) hnm (nar_rf _ (by decide)) (fit_rf _ (by decide)) (dcg dc_X12_init 48 rfl) hk34 ?_
  obtain ⟨h35, rfl, hf⟩ := lt_some hf
  refine p_aload_n X (dcg dc_X12_init 49 rfl) rfl rfl ?_
  refine p_bipush (v := 100) X (dcg dc_X12_init 50 rfl) (by decide) ?_
  obtain ⟨hg36, hf⟩ := gd_some hf
  have hm1 : lez _ (hX r) (hV r) := mX12_init_b105 hf
  have hm2 := lez_new hm1
  refine p_newa20 X tw_168 (dcg dc_X12_init 51 rfl) hg36.1 hg36.2 (show uc + 1 ≤ MC from (by have o0 := hm2.1; have o1 := hM; have o2 := hu; (try simp only [hX_sI, hX_sR, hX_sL, hX_sD, hX_sIa, hX_sRa, hV_sI, hV_sR, hV_sL, hV_sD, hV_sIa, hV_sRa, hX_new, hV_new] at o0 o1 o2 ⊢); omega)) (show us + (Int32.toNatClampNeg (100 : Int32)) ≤ MS from (by have o0 := hm2.2; have o1 := hN; have o2 := hv; (try simp only [hX_sI, hX_sR, hX_sL, hX_sD, hX_sIa, hX_sRa, hV_sI, hV_sR, hV_sL, hV_sD, hV_sIa, hV_sRa, hX_new, hV_new] at o0 o1 o2 ⊢); omega)) ?_
  refine p_pick [0] ?_
  exact wX12_init_b105 X hG hnm hM hN (by have o0 := hu; (try simp only [hX_sI, hX_sR, hX_sL, hX_sD, hX_sIa, hX_sRa, hV_sI, hV_sR, hV_sL, hV_sD, hV_sIa, hV_sRa, hX_new, hV_new] at o0 ⊢); omega) (by have o0 := hv; (try simp only [hX_sI, hX_sR, hX_sL, hX_sD, hX_sIa, hX_sRa, hV_sI, hV_sR, hV_sL, hV_sD, hV_sIa, hV_sRa, hX_new, hV_new] at o0 ⊢); omega) hf 
noncomputable def fX12_init_b89 (v0 : Nat) (t0 : Nat) (t1 : Nat) (h : PH) : Option PH :=
  gd (hK h t0 = 12) (lt (sR h 12 t0 13 (some t1)) (fun h32 =>
  gd (¬ (100 : Int32) < 0 ∧ (Int32.toNatClampNeg (100 : Int32)) ≤ 1000000) (fX12_init_b97 v0 v0 (hX h32) (hnew h32 20 (Int32.toNatClampNeg (100 : Int32))))))
set_option maxRecDepth 100000 in
theorem mX12_init_b89 {v0 : Nat} {t0 : Nat} {t1 : Nat} {h : PH} {r : PH} (hf : fX12_init_b89 v0 t0 t1 h = some r) : lez h (hX r) (hV r) := by
  unfold fX12_init_b89 at hf
  have hle := lez_rf h
  obtain ⟨hk31, hf⟩ := gd_some hf
  obtain ⟨h32, rfl, hf⟩ := lt_some hf
  obtain ⟨hg33, hf⟩ := gd_some hf
  have hle := lez_nw (c := 20) (n := (Int32.toNatClampNeg (100 : Int32))) hle
  exact lez_rt (mX12_init_b97 hf) hle
set_option maxRecDepth 100000 in
theorem wX12_init_b89 {E : PE} {p : Program} {l : Launch} {e : Env} {s : State} {m : MethodId} {args : Array Value} {below : List Frame} {meth : Method} {c : Code} {X0 V0 MC MS uc us : Nat} (X : Cx E p l e (rmv 1 MC MS) s m args below meth c RX12 cX12_init 1 (none)) (hG : Gs E l) (hnm : meth.name = yX12_init.name) {v0 : Nat} {t0 : Nat} {t1 : Nat} {h : PH} {r : PH} (hM : MC + X0 = (hX r)) (hN : MS + V0 = (hV r)) (hu : uc + X0 = hX h) (hv : us + V0 = hV h) (hf : fX12_init_b89 v0 t0 t1 h = some r)  : PW E p l e (rmv 1 MC MS) s m args below meth c 1 uc us (MQ below (QG E (fun v u => v = none ∧ u = r)) args s MC MS (pA E)) h 89 [(0, some (.ref v0))] [.ref t1, .ref t0] := by
  have hm1 : lez h (hX r) (hV r) := mX12_init_b89 hf
  have hcm : uc ≤ MC := (by have o0 := hm1.1; have o1 := hM; have o2 := hu; (try simp only [hX_sI, hX_sR, hX_sL, hX_sD, hX_sIa, hX_sRa, hV_sI, hV_sR, hV_sL, hV_sD, hV_sIa, hV_sRa, hX_new, hV_new] at o0 o1 o2 ⊢); omega)
  have hsm : us ≤ MS := (by have o0 := hm1.2; have o1 := hN; have o2 := hv; (try simp only [hX_sI, hX_sR, hX_sL, hX_sD, hX_sIa, hX_sRa, hV_sI, hV_sR, hV_sL, hV_sD, hV_sIa, hV_sRa, hX_new, hV_new] at o0 o1 o2 ⊢); omega)
  clear hm1
  unfold fX12_init_b89 at hf
  obtain ⟨hk31, hf⟩ := gd_some hf
  refine p_putRf (v := some _) X fl_X12_45 rfl (by decide) (fun q hq => by cases hq; exact ⟨rfl, rfl⟩) hnm (nar_rf _ (by decide)) (fit_rf _ (by decide)) (dcg dc_X12_init 44 rfl) hk31 ?_
  obtain ⟨h32, rfl, hf⟩ := lt_some hf
  refine p_aload_n X (dcg dc_X12_init 45 rfl) rfl rfl ?_
  refine p_bipush (v := 100) X (dcg dc_X12_init 46 rfl) (by decide) ?_
  obtain ⟨hg33, hf⟩ := gd_some hf
  have hm1 : lez _ (hX r) (hV r) := mX12_init_b97 hf
  have hm2 := lez_new hm1
  refine p_newa20 X tw_168 (dcg dc_X12_init 47 rfl) hg33.1 hg33.2 (show uc + 1 ≤ MC from (by have o0 := hm2.1; have o1 := hM; have o2 := hu; (try simp only [hX_sI, hX_sR, hX_sL, hX_sD, hX_sIa, hX_sRa, hV_sI, hV_sR, hV_sL, hV_sD, hV_sIa, hV_sRa, hX_new, hV_new] at o0 o1 o2 ⊢); omega)) (show us + (Int32.toNatClampNeg (100 : Int32)) ≤ MS from (by have o0 := hm2.2; have o1 := hN; have o2 := hv; (try simp only [hX_sI, hX_sR, hX_sL, hX_sD, hX_sIa, hX_sRa, hV_sI, hV_sR, hV_sL, hV_sD, hV_sIa, hV_sRa, hX_new, hV_new] at o0 o1 o2 ⊢); omega)) ?_
  refine p_pick [0] ?_
  exact wX12_init_b97 X hG hnm hM hN (by have o0 := hu; (try simp only [hX_sI, hX_sR, hX_sL, hX_sD, hX_sIa, hX_sRa, hV_sI, hV_sR, hV_sL, hV_sD, hV_sIa, hV_sRa, hX_new, hV_new] at o0 ⊢); omega) (by have o0 := hv; (try simp only [hX_sI, hX_sR, hX_sL, hX_sD, hX_sIa, hX_sRa, hV_sI, hV_sR, hV_sL, hV_sD, hV_sIa, hV_sRa, hX_new, hV_new] at o0 ⊢); omega) hf 
noncomputable def fX12_init_b81 (v0 : Nat) (t0 : Nat) (t1 : Nat) (h : PH) : Option PH :=
  gd (hK h t0 = 12) (lt (sR h 12 t0 12 (some t1)) (fun h29 =>
  gd (¬ (6 : Int32) < 0 ∧ (Int32.toNatClampNeg (6 : Int32)) ≤ 1000000) (fX12_init_b89 v0 v0 (hX h29) (hnew h29 21 (Int32.toNatClampNeg (6 : Int32))))))
set_option maxRecDepth 100000 in
theorem mX12_init_b81 {v0 : Nat} {t0 : Nat} {t1 : Nat} {h : PH} {r : PH} (hf : fX12_init_b81 v0 t0 t1 h = some r) : lez h (hX r) (hV r) := by
  unfold fX12_init_b81 at hf
  have hle := lez_rf h
  obtain ⟨hk28, hf⟩ := gd_some hf
  obtain ⟨h29, rfl, hf⟩ := lt_some hf
  obtain ⟨hg30, hf⟩ := gd_some hf
  have hle := lez_nw (c := 21) (n := (Int32.toNatClampNeg (6 : Int32))) hle
  exact lez_rt (mX12_init_b89 hf) hle
set_option maxRecDepth 100000 in
theorem wX12_init_b81 {E : PE} {p : Program} {l : Launch} {e : Env} {s : State} {m : MethodId} {args : Array Value} {below : List Frame} {meth : Method} {c : Code} {X0 V0 MC MS uc us : Nat} (X : Cx E p l e (rmv 1 MC MS) s m args below meth c RX12 cX12_init 1 (none)) (hG : Gs E l) (hnm : meth.name = yX12_init.name) {v0 : Nat} {t0 : Nat} {t1 : Nat} {h : PH} {r : PH} (hM : MC + X0 = (hX r)) (hN : MS + V0 = (hV r)) (hu : uc + X0 = hX h) (hv : us + V0 = hV h) (hf : fX12_init_b81 v0 t0 t1 h = some r)  : PW E p l e (rmv 1 MC MS) s m args below meth c 1 uc us (MQ below (QG E (fun v u => v = none ∧ u = r)) args s MC MS (pA E)) h 81 [(0, some (.ref v0))] [.ref t1, .ref t0] := by
  have hm1 : lez h (hX r) (hV r) := mX12_init_b81 hf
  have hcm : uc ≤ MC := (by have o0 := hm1.1; have o1 := hM; have o2 := hu; (try simp only [hX_sI, hX_sR, hX_sL, hX_sD, hX_sIa, hX_sRa, hV_sI, hV_sR, hV_sL, hV_sD, hV_sIa, hV_sRa, hX_new, hV_new] at o0 o1 o2 ⊢); omega)
  have hsm : us ≤ MS := (by have o0 := hm1.2; have o1 := hN; have o2 := hv; (try simp only [hX_sI, hX_sR, hX_sL, hX_sD, hX_sIa, hX_sRa, hV_sI, hV_sR, hV_sL, hV_sD, hV_sIa, hV_sRa, hX_new, hV_new] at o0 o1 o2 ⊢); omega)
  clear hm1
  unfold fX12_init_b81 at hf
  obtain ⟨hk28, hf⟩ := gd_some hf
  refine p_putRf (v := some _) X fl_X12_42 rfl (by decide) (fun q hq => by cases hq; exact ⟨rfl, rfl⟩) hnm (nar_rf _ (by decide)) (fit_rf _ (by decide)) (dcg dc_X12_init 40 rfl) hk28 ?_
  obtain ⟨h29, rfl, hf⟩ := lt_some hf
  refine p_aload_n X (dcg dc_X12_init 41 rfl) rfl rfl ?_
  refine p_bipush (v := 6) X (dcg dc_X12_init 42 rfl) (by decide) ?_
  obtain ⟨hg30, hf⟩ := gd_some hf
  have hm1 : lez _ (hX r) (hV r) := mX12_init_b89 hf
  have hm2 := lez_new hm1
  refine p_newa21 X tw_2064 (dcg dc_X12_init 43 rfl) hg30.1 hg30.2 (show uc + 1 ≤ MC from (by have o0 := hm2.1; have o1 := hM; have o2 := hu; (try simp only [hX_sI, hX_sR, hX_sL, hX_sD, hX_sIa, hX_sRa, hV_sI, hV_sR, hV_sL, hV_sD, hV_sIa, hV_sRa, hX_new, hV_new] at o0 o1 o2 ⊢); omega)) (show us + (Int32.toNatClampNeg (6 : Int32)) ≤ MS from (by have o0 := hm2.2; have o1 := hN; have o2 := hv; (try simp only [hX_sI, hX_sR, hX_sL, hX_sD, hX_sIa, hX_sRa, hV_sI, hV_sR, hV_sL, hV_sD, hV_sIa, hV_sRa, hX_new, hV_new] at o0 o1 o2 ⊢); omega)) ?_
  refine p_pick [0] ?_
  exact wX12_init_b89 X hG hnm hM hN (by have o0 := hu; (try simp only [hX_sI, hX_sR, hX_sL, hX_sD, hX_sIa, hX_sRa, hV_sI, hV_sR, hV_sL, hV_sD, hV_sIa, hV_sRa, hX_new, hV_new] at o0 ⊢); omega) (by have o0 := hv; (try simp only [hX_sI, hX_sR, hX_sL, hX_sD, hX_sIa, hX_sRa, hV_sI, hV_sR, hV_sL, hV_sD, hV_sIa, hV_sRa, hX_new, hV_new] at o0 ⊢); omega) hf 
noncomputable def fX12_init_b73 (v0 : Nat) (t0 : Nat) (t1 : Nat) (h : PH) : Option PH :=
  gd (hK h t0 = 12) (lt (sR h 12 t0 11 (some t1)) (fun h26 =>
  gd (¬ (20 : Int32) < 0 ∧ (Int32.toNatClampNeg (20 : Int32)) ≤ 1000000) (fX12_init_b81 v0 v0 (hX h26) (hnew h26 21 (Int32.toNatClampNeg (20 : Int32))))))
set_option maxRecDepth 100000 in
theorem mX12_init_b73 {v0 : Nat} {t0 : Nat} {t1 : Nat} {h : PH} {r : PH} (hf : fX12_init_b73 v0 t0 t1 h = some r) : lez h (hX r) (hV r) := by
  unfold fX12_init_b73 at hf
  have hle := lez_rf h
  obtain ⟨hk25, hf⟩ := gd_some hf
  obtain ⟨h26, rfl, hf⟩ := lt_some hf
  obtain ⟨hg27, hf⟩ := gd_some hf
  have hle := lez_nw (c := 21) (n := (Int32.toNatClampNeg (20 : Int32))) hle
  exact lez_rt (mX12_init_b81 hf) hle
set_option maxRecDepth 100000 in
theorem wX12_init_b73 {E : PE} {p : Program} {l : Launch} {e : Env} {s : State} {m : MethodId} {args : Array Value} {below : List Frame} {meth : Method} {c : Code} {X0 V0 MC MS uc us : Nat} (X : Cx E p l e (rmv 1 MC MS) s m args below meth c RX12 cX12_init 1 (none)) (hG : Gs E l) (hnm : meth.name = yX12_init.name) {v0 : Nat} {t0 : Nat} {t1 : Nat} {h : PH} {r : PH} (hM : MC + X0 = (hX r)) (hN : MS + V0 = (hV r)) (hu : uc + X0 = hX h) (hv : us + V0 = hV h) (hf : fX12_init_b73 v0 t0 t1 h = some r)  : PW E p l e (rmv 1 MC MS) s m args below meth c 1 uc us (MQ below (QG E (fun v u => v = none ∧ u = r)) args s MC MS (pA E)) h 73 [(0, some (.ref v0))] [.ref t1, .ref t0] := by
  have hm1 : lez h (hX r) (hV r) := mX12_init_b73 hf
  have hcm : uc ≤ MC := (by have o0 := hm1.1; have o1 := hM; have o2 := hu; (try simp only [hX_sI, hX_sR, hX_sL, hX_sD, hX_sIa, hX_sRa, hV_sI, hV_sR, hV_sL, hV_sD, hV_sIa, hV_sRa, hX_new, hV_new] at o0 o1 o2 ⊢); omega)
  have hsm : us ≤ MS := (by have o0 := hm1.2; have o1 := hN; have o2 := hv; (try simp only [hX_sI, hX_sR, hX_sL, hX_sD, hX_sIa, hX_sRa, hV_sI, hV_sR, hV_sL, hV_sD, hV_sIa, hV_sRa, hX_new, hV_new] at o0 o1 o2 ⊢); omega)
  clear hm1
  unfold fX12_init_b73 at hf
  obtain ⟨hk25, hf⟩ := gd_some hf
  refine p_putRf (v := some _) X fl_X12_39 rfl (by decide) (fun q hq => by cases hq; exact ⟨rfl, rfl⟩) hnm (nar_rf _ (by decide)) (fit_rf _ (by decide)) (dcg dc_X12_init 36 rfl) hk25 ?_
  obtain ⟨h26, rfl, hf⟩ := lt_some hf
  refine p_aload_n X (dcg dc_X12_init 37 rfl) rfl rfl ?_
  refine p_bipush (v := 20) X (dcg dc_X12_init 38 rfl) (by decide) ?_
  obtain ⟨hg27, hf⟩ := gd_some hf
  have hm1 : lez _ (hX r) (hV r) := mX12_init_b81 hf
  have hm2 := lez_new hm1
  refine p_newa21 X tw_2064 (dcg dc_X12_init 39 rfl) hg27.1 hg27.2 (show uc + 1 ≤ MC from (by have o0 := hm2.1; have o1 := hM; have o2 := hu; (try simp only [hX_sI, hX_sR, hX_sL, hX_sD, hX_sIa, hX_sRa, hV_sI, hV_sR, hV_sL, hV_sD, hV_sIa, hV_sRa, hX_new, hV_new] at o0 o1 o2 ⊢); omega)) (show us + (Int32.toNatClampNeg (20 : Int32)) ≤ MS from (by have o0 := hm2.2; have o1 := hN; have o2 := hv; (try simp only [hX_sI, hX_sR, hX_sL, hX_sD, hX_sIa, hX_sRa, hV_sI, hV_sR, hV_sL, hV_sD, hV_sIa, hV_sRa, hX_new, hV_new] at o0 o1 o2 ⊢); omega)) ?_
  refine p_pick [0] ?_
  exact wX12_init_b81 X hG hnm hM hN (by have o0 := hu; (try simp only [hX_sI, hX_sR, hX_sL, hX_sD, hX_sIa, hX_sRa, hV_sI, hV_sR, hV_sL, hV_sD, hV_sIa, hV_sRa, hX_new, hV_new] at o0 ⊢); omega) (by have o0 := hv; (try simp only [hX_sI, hX_sR, hX_sL, hX_sD, hX_sIa, hX_sRa, hV_sI, hV_sR, hV_sL, hV_sD, hV_sIa, hV_sRa, hX_new, hV_new] at o0 ⊢); omega) hf 
noncomputable def fX12_init_b64 (v0 : Nat) (t0 : Nat) (t1 : Nat) (h : PH) : Option PH :=
  gd (hK h t0 = 12) (lt (sR h 12 t0 10 (some t1)) (fun h23 =>
  gd (¬ (800 : Int32) < 0 ∧ (Int32.toNatClampNeg (800 : Int32)) ≤ 1000000) (fX12_init_b73 v0 v0 (hX h23) (hnew h23 20 (Int32.toNatClampNeg (800 : Int32))))))
set_option maxRecDepth 100000 in
theorem mX12_init_b64 {v0 : Nat} {t0 : Nat} {t1 : Nat} {h : PH} {r : PH} (hf : fX12_init_b64 v0 t0 t1 h = some r) : lez h (hX r) (hV r) := by
  unfold fX12_init_b64 at hf
  have hle := lez_rf h
  obtain ⟨hk22, hf⟩ := gd_some hf
  obtain ⟨h23, rfl, hf⟩ := lt_some hf
  obtain ⟨hg24, hf⟩ := gd_some hf
  have hle := lez_nw (c := 20) (n := (Int32.toNatClampNeg (800 : Int32))) hle
  exact lez_rt (mX12_init_b73 hf) hle
set_option maxRecDepth 100000 in
theorem wX12_init_b64 {E : PE} {p : Program} {l : Launch} {e : Env} {s : State} {m : MethodId} {args : Array Value} {below : List Frame} {meth : Method} {c : Code} {X0 V0 MC MS uc us : Nat} (X : Cx E p l e (rmv 1 MC MS) s m args below meth c RX12 cX12_init 1 (none)) (hG : Gs E l) (hnm : meth.name = yX12_init.name) {v0 : Nat} {t0 : Nat} {t1 : Nat} {h : PH} {r : PH} (hM : MC + X0 = (hX r)) (hN : MS + V0 = (hV r)) (hu : uc + X0 = hX h) (hv : us + V0 = hV h) (hf : fX12_init_b64 v0 t0 t1 h = some r)  : PW E p l e (rmv 1 MC MS) s m args below meth c 1 uc us (MQ below (QG E (fun v u => v = none ∧ u = r)) args s MC MS (pA E)) h 64 [(0, some (.ref v0))] [.ref t1, .ref t0] := by
  have hm1 : lez h (hX r) (hV r) := mX12_init_b64 hf
  have hcm : uc ≤ MC := (by have o0 := hm1.1; have o1 := hM; have o2 := hu; (try simp only [hX_sI, hX_sR, hX_sL, hX_sD, hX_sIa, hX_sRa, hV_sI, hV_sR, hV_sL, hV_sD, hV_sIa, hV_sRa, hX_new, hV_new] at o0 o1 o2 ⊢); omega)
  have hsm : us ≤ MS := (by have o0 := hm1.2; have o1 := hN; have o2 := hv; (try simp only [hX_sI, hX_sR, hX_sL, hX_sD, hX_sIa, hX_sRa, hV_sI, hV_sR, hV_sL, hV_sD, hV_sIa, hV_sRa, hX_new, hV_new] at o0 o1 o2 ⊢); omega)
  clear hm1
  unfold fX12_init_b64 at hf
  obtain ⟨hk22, hf⟩ := gd_some hf
  refine p_putRf (v := some _) X fl_X12_36 rfl (by decide) (fun q hq => by cases hq; exact ⟨rfl, rfl⟩) hnm (nar_rf _ (by decide)) (fit_rf _ (by decide)) (dcg dc_X12_init 32 rfl) hk22 ?_
  obtain ⟨h23, rfl, hf⟩ := lt_some hf
  refine p_aload_n X (dcg dc_X12_init 33 rfl) rfl rfl ?_
  refine p_sipush (v := 800) X (dcg dc_X12_init 34 rfl) (by decide) ?_
  obtain ⟨hg24, hf⟩ := gd_some hf
  have hm1 : lez _ (hX r) (hV r) := mX12_init_b73 hf
  have hm2 := lez_new hm1
  refine p_newa20 X tw_168 (dcg dc_X12_init 35 rfl) hg24.1 hg24.2 (show uc + 1 ≤ MC from (by have o0 := hm2.1; have o1 := hM; have o2 := hu; (try simp only [hX_sI, hX_sR, hX_sL, hX_sD, hX_sIa, hX_sRa, hV_sI, hV_sR, hV_sL, hV_sD, hV_sIa, hV_sRa, hX_new, hV_new] at o0 o1 o2 ⊢); omega)) (show us + (Int32.toNatClampNeg (800 : Int32)) ≤ MS from (by have o0 := hm2.2; have o1 := hN; have o2 := hv; (try simp only [hX_sI, hX_sR, hX_sL, hX_sD, hX_sIa, hX_sRa, hV_sI, hV_sR, hV_sL, hV_sD, hV_sIa, hV_sRa, hX_new, hV_new] at o0 o1 o2 ⊢); omega)) ?_
  refine p_pick [0] ?_
  exact wX12_init_b73 X hG hnm hM hN (by have o0 := hu; (try simp only [hX_sI, hX_sR, hX_sL, hX_sD, hX_sIa, hX_sRa, hV_sI, hV_sR, hV_sL, hV_sD, hV_sIa, hV_sRa, hX_new, hV_new] at o0 ⊢); omega) (by have o0 := hv; (try simp only [hX_sI, hX_sR, hX_sL, hX_sD, hX_sIa, hX_sRa, hV_sI, hV_sR, hV_sL, hV_sD, hV_sIa, hV_sRa, hX_new, hV_new] at o0 ⊢); omega) hf 
noncomputable def fX12_init_b56 (v0 : Nat) (t0 : Nat) (t1 : Nat) (h : PH) : Option PH :=
  gd (hK h t0 = 12) (lt (sR h 12 t0 9 (some t1)) (fun h20 =>
  gd (¬ (20 : Int32) < 0 ∧ (Int32.toNatClampNeg (20 : Int32)) ≤ 1000000) (fX12_init_b64 v0 v0 (hX h20) (hnew h20 20 (Int32.toNatClampNeg (20 : Int32))))))
set_option maxRecDepth 100000 in
theorem mX12_init_b56 {v0 : Nat} {t0 : Nat} {t1 : Nat} {h : PH} {r : PH} (hf : fX12_init_b56 v0 t0 t1 h = some r) : lez h (hX r) (hV r) := by
  unfold fX12_init_b56 at hf
  have hle := lez_rf h
  obtain ⟨hk19, hf⟩ := gd_some hf
  obtain ⟨h20, rfl, hf⟩ := lt_some hf
  obtain ⟨hg21, hf⟩ := gd_some hf
  have hle := lez_nw (c := 20) (n := (Int32.toNatClampNeg (20 : Int32))) hle
  exact lez_rt (mX12_init_b64 hf) hle
set_option maxRecDepth 100000 in
theorem wX12_init_b56 {E : PE} {p : Program} {l : Launch} {e : Env} {s : State} {m : MethodId} {args : Array Value} {below : List Frame} {meth : Method} {c : Code} {X0 V0 MC MS uc us : Nat} (X : Cx E p l e (rmv 1 MC MS) s m args below meth c RX12 cX12_init 1 (none)) (hG : Gs E l) (hnm : meth.name = yX12_init.name) {v0 : Nat} {t0 : Nat} {t1 : Nat} {h : PH} {r : PH} (hM : MC + X0 = (hX r)) (hN : MS + V0 = (hV r)) (hu : uc + X0 = hX h) (hv : us + V0 = hV h) (hf : fX12_init_b56 v0 t0 t1 h = some r)  : PW E p l e (rmv 1 MC MS) s m args below meth c 1 uc us (MQ below (QG E (fun v u => v = none ∧ u = r)) args s MC MS (pA E)) h 56 [(0, some (.ref v0))] [.ref t1, .ref t0] := by
  have hm1 : lez h (hX r) (hV r) := mX12_init_b56 hf
  have hcm : uc ≤ MC := (by have o0 := hm1.1; have o1 := hM; have o2 := hu; (try simp only [hX_sI, hX_sR, hX_sL, hX_sD, hX_sIa, hX_sRa, hV_sI, hV_sR, hV_sL, hV_sD, hV_sIa, hV_sRa, hX_new, hV_new] at o0 o1 o2 ⊢); omega)
  have hsm : us ≤ MS := (by have o0 := hm1.2; have o1 := hN; have o2 := hv; (try simp only [hX_sI, hX_sR, hX_sL, hX_sD, hX_sIa, hX_sRa, hV_sI, hV_sR, hV_sL, hV_sD, hV_sIa, hV_sRa, hX_new, hV_new] at o0 o1 o2 ⊢); omega)
  clear hm1
  unfold fX12_init_b56 at hf
  obtain ⟨hk19, hf⟩ := gd_some hf
  refine p_putRf (v := some _) X fl_X12_33 rfl (by decide) (fun q hq => by cases hq; exact ⟨rfl, rfl⟩) hnm (nar_rf _ (by decide)) (fit_rf _ (by decide)) (dcg dc_X12_init 28 rfl) hk19 ?_
  obtain ⟨h20, rfl, hf⟩ := lt_some hf
  refine p_aload_n X (dcg dc_X12_init 29 rfl) rfl rfl ?_
  refine p_bipush (v := 20) X (dcg dc_X12_init 30 rfl) (by decide) ?_
  obtain ⟨hg21, hf⟩ := gd_some hf
  have hm1 : lez _ (hX r) (hV r) := mX12_init_b64 hf
  have hm2 := lez_new hm1
  refine p_newa20 X tw_168 (dcg dc_X12_init 31 rfl) hg21.1 hg21.2 (show uc + 1 ≤ MC from (by have o0 := hm2.1; have o1 := hM; have o2 := hu; (try simp only [hX_sI, hX_sR, hX_sL, hX_sD, hX_sIa, hX_sRa, hV_sI, hV_sR, hV_sL, hV_sD, hV_sIa, hV_sRa, hX_new, hV_new] at o0 o1 o2 ⊢); omega)) (show us + (Int32.toNatClampNeg (20 : Int32)) ≤ MS from (by have o0 := hm2.2; have o1 := hN; have o2 := hv; (try simp only [hX_sI, hX_sR, hX_sL, hX_sD, hX_sIa, hX_sRa, hV_sI, hV_sR, hV_sL, hV_sD, hV_sIa, hV_sRa, hX_new, hV_new] at o0 o1 o2 ⊢); omega)) ?_
  refine p_pick [0] ?_
  exact wX12_init_b64 X hG hnm hM hN (by have o0 := hu; (try simp only [hX_sI, hX_sR, hX_sL, hX_sD, hX_sIa, hX_sRa, hV_sI, hV_sR, hV_sL, hV_sD, hV_sIa, hV_sRa, hX_new, hV_new] at o0 ⊢); omega) (by have o0 := hv; (try simp only [hX_sI, hX_sR, hX_sL, hX_sD, hX_sIa, hX_sRa, hV_sI, hV_sR, hV_sL, hV_sD, hV_sIa, hV_sRa, hX_new, hV_new] at o0 ⊢); omega) hf 
noncomputable def fX12_init_b48 (v0 : Nat) (t0 : Nat) (t1 : Nat) (h : PH) : Option PH :=
  gd (hK h t0 = 12) (lt (sR h 12 t0 7 (some t1)) (fun h17 =>
  gd (¬ (20 : Int32) < 0 ∧ (Int32.toNatClampNeg (20 : Int32)) ≤ 1000000) (fX12_init_b56 v0 v0 (hX h17) (hnew h17 20 (Int32.toNatClampNeg (20 : Int32))))))
set_option maxRecDepth 100000 in
theorem mX12_init_b48 {v0 : Nat} {t0 : Nat} {t1 : Nat} {h : PH} {r : PH} (hf : fX12_init_b48 v0 t0 t1 h = some r) : lez h (hX r) (hV r) := by
  unfold fX12_init_b48 at hf
  have hle := lez_rf h
  obtain ⟨hk16, hf⟩ := gd_some hf
  obtain ⟨h17, rfl, hf⟩ := lt_some hf
  obtain ⟨hg18, hf⟩ := gd_some hf
  have hle := lez_nw (c := 20) (n := (Int32.toNatClampNeg (20 : Int32))) hle
  exact lez_rt (mX12_init_b56 hf) hle
set_option maxRecDepth 100000 in
theorem wX12_init_b48 {E : PE} {p : Program} {l : Launch} {e : Env} {s : State} {m : MethodId} {args : Array Value} {below : List Frame} {meth : Method} {c : Code} {X0 V0 MC MS uc us : Nat} (X : Cx E p l e (rmv 1 MC MS) s m args below meth c RX12 cX12_init 1 (none)) (hG : Gs E l) (hnm : meth.name = yX12_init.name) {v0 : Nat} {t0 : Nat} {t1 : Nat} {h : PH} {r : PH} (hM : MC + X0 = (hX r)) (hN : MS + V0 = (hV r)) (hu : uc + X0 = hX h) (hv : us + V0 = hV h) (hf : fX12_init_b48 v0 t0 t1 h = some r)  : PW E p l e (rmv 1 MC MS) s m args below meth c 1 uc us (MQ below (QG E (fun v u => v = none ∧ u = r)) args s MC MS (pA E)) h 48 [(0, some (.ref v0))] [.ref t1, .ref t0] := by
  have hm1 : lez h (hX r) (hV r) := mX12_init_b48 hf
  have hcm : uc ≤ MC := (by have o0 := hm1.1; have o1 := hM; have o2 := hu; (try simp only [hX_sI, hX_sR, hX_sL, hX_sD, hX_sIa, hX_sRa, hV_sI, hV_sR, hV_sL, hV_sD, hV_sIa, hV_sRa, hX_new, hV_new] at o0 o1 o2 ⊢); omega)
  have hsm : us ≤ MS := (by have o0 := hm1.2; have o1 := hN; have o2 := hv; (try simp only [hX_sI, hX_sR, hX_sL, hX_sD, hX_sIa, hX_sRa, hV_sI, hV_sR, hV_sL, hV_sD, hV_sIa, hV_sRa, hX_new, hV_new] at o0 o1 o2 ⊢); omega)
  clear hm1
  unfold fX12_init_b48 at hf
  obtain ⟨hk16, hf⟩ := gd_some hf
  refine p_putRf (v := some _) X fl_X12_30 rfl (by decide) (fun q hq => by cases hq; exact ⟨rfl, rfl⟩) hnm (nar_rf _ (by decide)) (fit_rf _ (by decide)) (dcg dc_X12_init 24 rfl) hk16 ?_
  obtain ⟨h17, rfl, hf⟩ := lt_some hf
  refine p_aload_n X (dcg dc_X12_init 25 rfl) rfl rfl ?_
  refine p_bipush (v := 20) X (dcg dc_X12_init 26 rfl) (by decide) ?_
  obtain ⟨hg18, hf⟩ := gd_some hf
  have hm1 : lez _ (hX r) (hV r) := mX12_init_b56 hf
  have hm2 := lez_new hm1
  refine p_newa20 X tw_168 (dcg dc_X12_init 27 rfl) hg18.1 hg18.2 (show uc + 1 ≤ MC from (by have o0 := hm2.1; have o1 := hM; have o2 := hu; (try simp only [hX_sI, hX_sR, hX_sL, hX_sD, hX_sIa, hX_sRa, hV_sI, hV_sR, hV_sL, hV_sD, hV_sIa, hV_sRa, hX_new, hV_new] at o0 o1 o2 ⊢); omega)) (show us + (Int32.toNatClampNeg (20 : Int32)) ≤ MS from (by have o0 := hm2.2; have o1 := hN; have o2 := hv; (try simp only [hX_sI, hX_sR, hX_sL, hX_sD, hX_sIa, hX_sRa, hV_sI, hV_sR, hV_sL, hV_sD, hV_sIa, hV_sRa, hX_new, hV_new] at o0 o1 o2 ⊢); omega)) ?_
  refine p_pick [0] ?_
  exact wX12_init_b56 X hG hnm hM hN (by have o0 := hu; (try simp only [hX_sI, hX_sR, hX_sL, hX_sD, hX_sIa, hX_sRa, hV_sI, hV_sR, hV_sL, hV_sD, hV_sIa, hV_sRa, hX_new, hV_new] at o0 ⊢); omega) (by have o0 := hv; (try simp only [hX_sI, hX_sR, hX_sL, hX_sD, hX_sIa, hX_sRa, hV_sI, hV_sR, hV_sL, hV_sD, hV_sIa, hV_sRa, hX_new, hV_new] at o0 ⊢); omega) hf 
noncomputable def fX12_init_b40 (v0 : Nat) (t0 : Nat) (t1 : Nat) (h : PH) : Option PH :=
  gd (hK h t0 = 12) (lt (sR h 12 t0 6 (some t1)) (fun h14 =>
  gd (¬ (40 : Int32) < 0 ∧ (Int32.toNatClampNeg (40 : Int32)) ≤ 1000000) (fX12_init_b48 v0 v0 (hX h14) (hnew h14 20 (Int32.toNatClampNeg (40 : Int32))))))
set_option maxRecDepth 100000 in
theorem mX12_init_b40 {v0 : Nat} {t0 : Nat} {t1 : Nat} {h : PH} {r : PH} (hf : fX12_init_b40 v0 t0 t1 h = some r) : lez h (hX r) (hV r) := by
  unfold fX12_init_b40 at hf
  have hle := lez_rf h
  obtain ⟨hk13, hf⟩ := gd_some hf
  obtain ⟨h14, rfl, hf⟩ := lt_some hf
  obtain ⟨hg15, hf⟩ := gd_some hf
  have hle := lez_nw (c := 20) (n := (Int32.toNatClampNeg (40 : Int32))) hle
  exact lez_rt (mX12_init_b48 hf) hle
set_option maxRecDepth 100000 in
theorem wX12_init_b40 {E : PE} {p : Program} {l : Launch} {e : Env} {s : State} {m : MethodId} {args : Array Value} {below : List Frame} {meth : Method} {c : Code} {X0 V0 MC MS uc us : Nat} (X : Cx E p l e (rmv 1 MC MS) s m args below meth c RX12 cX12_init 1 (none)) (hG : Gs E l) (hnm : meth.name = yX12_init.name) {v0 : Nat} {t0 : Nat} {t1 : Nat} {h : PH} {r : PH} (hM : MC + X0 = (hX r)) (hN : MS + V0 = (hV r)) (hu : uc + X0 = hX h) (hv : us + V0 = hV h) (hf : fX12_init_b40 v0 t0 t1 h = some r)  : PW E p l e (rmv 1 MC MS) s m args below meth c 1 uc us (MQ below (QG E (fun v u => v = none ∧ u = r)) args s MC MS (pA E)) h 40 [(0, some (.ref v0))] [.ref t1, .ref t0] := by
  have hm1 : lez h (hX r) (hV r) := mX12_init_b40 hf
  have hcm : uc ≤ MC := (by have o0 := hm1.1; have o1 := hM; have o2 := hu; (try simp only [hX_sI, hX_sR, hX_sL, hX_sD, hX_sIa, hX_sRa, hV_sI, hV_sR, hV_sL, hV_sD, hV_sIa, hV_sRa, hX_new, hV_new] at o0 o1 o2 ⊢); omega)
  have hsm : us ≤ MS := (by have o0 := hm1.2; have o1 := hN; have o2 := hv; (try simp only [hX_sI, hX_sR, hX_sL, hX_sD, hX_sIa, hX_sRa, hV_sI, hV_sR, hV_sL, hV_sD, hV_sIa, hV_sRa, hX_new, hV_new] at o0 o1 o2 ⊢); omega)
  clear hm1
  unfold fX12_init_b40 at hf
  obtain ⟨hk13, hf⟩ := gd_some hf
  refine p_putRf (v := some _) X fl_X12_27 rfl (by decide) (fun q hq => by cases hq; exact ⟨rfl, rfl⟩) hnm (nar_rf _ (by decide)) (fit_rf _ (by decide)) (dcg dc_X12_init 20 rfl) hk13 ?_
  obtain ⟨h14, rfl, hf⟩ := lt_some hf
  refine p_aload_n X (dcg dc_X12_init 21 rfl) rfl rfl ?_
  refine p_bipush (v := 40) X (dcg dc_X12_init 22 rfl) (by decide) ?_
  obtain ⟨hg15, hf⟩ := gd_some hf
  have hm1 : lez _ (hX r) (hV r) := mX12_init_b48 hf
  have hm2 := lez_new hm1
  refine p_newa20 X tw_168 (dcg dc_X12_init 23 rfl) hg15.1 hg15.2 (show uc + 1 ≤ MC from (by have o0 := hm2.1; have o1 := hM; have o2 := hu; (try simp only [hX_sI, hX_sR, hX_sL, hX_sD, hX_sIa, hX_sRa, hV_sI, hV_sR, hV_sL, hV_sD, hV_sIa, hV_sRa, hX_new, hV_new] at o0 o1 o2 ⊢); omega)) (show us + (Int32.toNatClampNeg (40 : Int32)) ≤ MS from (by have o0 := hm2.2; have o1 := hN; have o2 := hv; (try simp only [hX_sI, hX_sR, hX_sL, hX_sD, hX_sIa, hX_sRa, hV_sI, hV_sR, hV_sL, hV_sD, hV_sIa, hV_sRa, hX_new, hV_new] at o0 o1 o2 ⊢); omega)) ?_
  refine p_pick [0] ?_
  exact wX12_init_b48 X hG hnm hM hN (by have o0 := hu; (try simp only [hX_sI, hX_sR, hX_sL, hX_sD, hX_sIa, hX_sRa, hV_sI, hV_sR, hV_sL, hV_sD, hV_sIa, hV_sRa, hX_new, hV_new] at o0 ⊢); omega) (by have o0 := hv; (try simp only [hX_sI, hX_sR, hX_sL, hX_sD, hX_sIa, hX_sRa, hV_sI, hV_sR, hV_sL, hV_sD, hV_sIa, hV_sRa, hX_new, hV_new] at o0 ⊢); omega) hf 
noncomputable def fX12_init_b32 (v0 : Nat) (t0 : Nat) (t1 : Nat) (h : PH) : Option PH :=
  gd (hK h t0 = 12) (lt (sR h 12 t0 5 (some t1)) (fun h11 =>
  gd (¬ (100 : Int32) < 0 ∧ (Int32.toNatClampNeg (100 : Int32)) ≤ 1000000) (fX12_init_b40 v0 v0 (hX h11) (hnew h11 20 (Int32.toNatClampNeg (100 : Int32))))))
set_option maxRecDepth 100000 in
theorem mX12_init_b32 {v0 : Nat} {t0 : Nat} {t1 : Nat} {h : PH} {r : PH} (hf : fX12_init_b32 v0 t0 t1 h = some r) : lez h (hX r) (hV r) := by
  unfold fX12_init_b32 at hf
  have hle := lez_rf h
  obtain ⟨hk10, hf⟩ := gd_some hf
  obtain ⟨h11, rfl, hf⟩ := lt_some hf
  obtain ⟨hg12, hf⟩ := gd_some hf
  have hle := lez_nw (c := 20) (n := (Int32.toNatClampNeg (100 : Int32))) hle
  exact lez_rt (mX12_init_b40 hf) hle
set_option maxRecDepth 100000 in
theorem wX12_init_b32 {E : PE} {p : Program} {l : Launch} {e : Env} {s : State} {m : MethodId} {args : Array Value} {below : List Frame} {meth : Method} {c : Code} {X0 V0 MC MS uc us : Nat} (X : Cx E p l e (rmv 1 MC MS) s m args below meth c RX12 cX12_init 1 (none)) (hG : Gs E l) (hnm : meth.name = yX12_init.name) {v0 : Nat} {t0 : Nat} {t1 : Nat} {h : PH} {r : PH} (hM : MC + X0 = (hX r)) (hN : MS + V0 = (hV r)) (hu : uc + X0 = hX h) (hv : us + V0 = hV h) (hf : fX12_init_b32 v0 t0 t1 h = some r)  : PW E p l e (rmv 1 MC MS) s m args below meth c 1 uc us (MQ below (QG E (fun v u => v = none ∧ u = r)) args s MC MS (pA E)) h 32 [(0, some (.ref v0))] [.ref t1, .ref t0] := by
  have hm1 : lez h (hX r) (hV r) := mX12_init_b32 hf
  have hcm : uc ≤ MC := (by have o0 := hm1.1; have o1 := hM; have o2 := hu; (try simp only [hX_sI, hX_sR, hX_sL, hX_sD, hX_sIa, hX_sRa, hV_sI, hV_sR, hV_sL, hV_sD, hV_sIa, hV_sRa, hX_new, hV_new] at o0 o1 o2 ⊢); omega)
  have hsm : us ≤ MS := (by have o0 := hm1.2; have o1 := hN; have o2 := hv; (try simp only [hX_sI, hX_sR, hX_sL, hX_sD, hX_sIa, hX_sRa, hV_sI, hV_sR, hV_sL, hV_sD, hV_sIa, hV_sRa, hX_new, hV_new] at o0 o1 o2 ⊢); omega)
  clear hm1
  unfold fX12_init_b32 at hf
  obtain ⟨hk10, hf⟩ := gd_some hf
  refine p_putRf (v := some _) X fl_X12_24 rfl (by decide) (fun q hq => by cases hq; exact ⟨rfl, rfl⟩) hnm (nar_rf _ (by decide)) (fit_rf _ (by decide)) (dcg dc_X12_init 16 rfl) hk10 ?_
  obtain ⟨h11, rfl, hf⟩ := lt_some hf
  refine p_aload_n X (dcg dc_X12_init 17 rfl) rfl rfl ?_
  refine p_bipush (v := 100) X (dcg dc_X12_init 18 rfl) (by decide) ?_
  obtain ⟨hg12, hf⟩ := gd_some hf
  have hm1 : lez _ (hX r) (hV r) := mX12_init_b40 hf
  have hm2 := lez_new hm1
  refine p_newa20 X tw_168 (dcg dc_X12_init 19 rfl) hg12.1 hg12.2 (show uc + 1 ≤ MC from (by have o0 := hm2.1; have o1 := hM; have o2 := hu; (try simp only [hX_sI, hX_sR, hX_sL, hX_sD, hX_sIa, hX_sRa, hV_sI, hV_sR, hV_sL, hV_sD, hV_sIa, hV_sRa, hX_new, hV_new] at o0 o1 o2 ⊢); omega)) (show us + (Int32.toNatClampNeg (100 : Int32)) ≤ MS from (by have o0 := hm2.2; have o1 := hN; have o2 := hv; (try simp only [hX_sI, hX_sR, hX_sL, hX_sD, hX_sIa, hX_sRa, hV_sI, hV_sR, hV_sL, hV_sD, hV_sIa, hV_sRa, hX_new, hV_new] at o0 o1 o2 ⊢); omega)) ?_
  refine p_pick [0] ?_
  exact wX12_init_b40 X hG hnm hM hN (by have o0 := hu; (try simp only [hX_sI, hX_sR, hX_sL, hX_sD, hX_sIa, hX_sRa, hV_sI, hV_sR, hV_sL, hV_sD, hV_sIa, hV_sRa, hX_new, hV_new] at o0 ⊢); omega) (by have o0 := hv; (try simp only [hX_sI, hX_sR, hX_sL, hX_sD, hX_sIa, hX_sRa, hV_sI, hV_sR, hV_sL, hV_sD, hV_sIa, hV_sRa, hX_new, hV_new] at o0 ⊢); omega) hf 
noncomputable def fX12_init_b23 (v0 : Nat) (t0 : Nat) (t1 : Nat) (h : PH) : Option PH :=
  gd (hK h t0 = 12) (lt (sR h 12 t0 4 (some t1)) (fun h8 =>
  gd (¬ (4000 : Int32) < 0 ∧ (Int32.toNatClampNeg (4000 : Int32)) ≤ 1000000) (fX12_init_b32 v0 v0 (hX h8) (hnew h8 20 (Int32.toNatClampNeg (4000 : Int32))))))
set_option maxRecDepth 100000 in
theorem mX12_init_b23 {v0 : Nat} {t0 : Nat} {t1 : Nat} {h : PH} {r : PH} (hf : fX12_init_b23 v0 t0 t1 h = some r) : lez h (hX r) (hV r) := by
  unfold fX12_init_b23 at hf
  have hle := lez_rf h
  obtain ⟨hk7, hf⟩ := gd_some hf
  obtain ⟨h8, rfl, hf⟩ := lt_some hf
  obtain ⟨hg9, hf⟩ := gd_some hf
  have hle := lez_nw (c := 20) (n := (Int32.toNatClampNeg (4000 : Int32))) hle
  exact lez_rt (mX12_init_b32 hf) hle
set_option maxRecDepth 100000 in
theorem wX12_init_b23 {E : PE} {p : Program} {l : Launch} {e : Env} {s : State} {m : MethodId} {args : Array Value} {below : List Frame} {meth : Method} {c : Code} {X0 V0 MC MS uc us : Nat} (X : Cx E p l e (rmv 1 MC MS) s m args below meth c RX12 cX12_init 1 (none)) (hG : Gs E l) (hnm : meth.name = yX12_init.name) {v0 : Nat} {t0 : Nat} {t1 : Nat} {h : PH} {r : PH} (hM : MC + X0 = (hX r)) (hN : MS + V0 = (hV r)) (hu : uc + X0 = hX h) (hv : us + V0 = hV h) (hf : fX12_init_b23 v0 t0 t1 h = some r)  : PW E p l e (rmv 1 MC MS) s m args below meth c 1 uc us (MQ below (QG E (fun v u => v = none ∧ u = r)) args s MC MS (pA E)) h 23 [(0, some (.ref v0))] [.ref t1, .ref t0] := by
  have hm1 : lez h (hX r) (hV r) := mX12_init_b23 hf
  have hcm : uc ≤ MC := (by have o0 := hm1.1; have o1 := hM; have o2 := hu; (try simp only [hX_sI, hX_sR, hX_sL, hX_sD, hX_sIa, hX_sRa, hV_sI, hV_sR, hV_sL, hV_sD, hV_sIa, hV_sRa, hX_new, hV_new] at o0 o1 o2 ⊢); omega)
  have hsm : us ≤ MS := (by have o0 := hm1.2; have o1 := hN; have o2 := hv; (try simp only [hX_sI, hX_sR, hX_sL, hX_sD, hX_sIa, hX_sRa, hV_sI, hV_sR, hV_sL, hV_sD, hV_sIa, hV_sRa, hX_new, hV_new] at o0 o1 o2 ⊢); omega)
  clear hm1
  unfold fX12_init_b23 at hf
  obtain ⟨hk7, hf⟩ := gd_some hf
  refine p_putRf (v := some _) X fl_X12_20 rfl (by decide) (fun q hq => by cases hq; exact ⟨rfl, rfl⟩) hnm (nar_rf _ (by decide)) (fit_rf _ (by decide)) (dcg dc_X12_init 12 rfl) hk7 ?_
  obtain ⟨h8, rfl, hf⟩ := lt_some hf
  refine p_aload_n X (dcg dc_X12_init 13 rfl) rfl rfl ?_
  refine p_sipush (v := 4000) X (dcg dc_X12_init 14 rfl) (by decide) ?_
  obtain ⟨hg9, hf⟩ := gd_some hf
  have hm1 : lez _ (hX r) (hV r) := mX12_init_b32 hf
  have hm2 := lez_new hm1
  refine p_newa20 X tw_168 (dcg dc_X12_init 15 rfl) hg9.1 hg9.2 (show uc + 1 ≤ MC from (by have o0 := hm2.1; have o1 := hM; have o2 := hu; (try simp only [hX_sI, hX_sR, hX_sL, hX_sD, hX_sIa, hX_sRa, hV_sI, hV_sR, hV_sL, hV_sD, hV_sIa, hV_sRa, hX_new, hV_new] at o0 o1 o2 ⊢); omega)) (show us + (Int32.toNatClampNeg (4000 : Int32)) ≤ MS from (by have o0 := hm2.2; have o1 := hN; have o2 := hv; (try simp only [hX_sI, hX_sR, hX_sL, hX_sD, hX_sIa, hX_sRa, hV_sI, hV_sR, hV_sL, hV_sD, hV_sIa, hV_sRa, hX_new, hV_new] at o0 o1 o2 ⊢); omega)) ?_
  refine p_pick [0] ?_
  exact wX12_init_b32 X hG hnm hM hN (by have o0 := hu; (try simp only [hX_sI, hX_sR, hX_sL, hX_sD, hX_sIa, hX_sRa, hV_sI, hV_sR, hV_sL, hV_sD, hV_sIa, hV_sRa, hX_new, hV_new] at o0 ⊢); omega) (by have o0 := hv; (try simp only [hX_sI, hX_sR, hX_sL, hX_sD, hX_sIa, hX_sRa, hV_sI, hV_sR, hV_sL, hV_sD, hV_sIa, hV_sRa, hX_new, hV_new] at o0 ⊢); omega) hf 
noncomputable def fX12_init_b10 (v0 : Nat) (t0 : Nat) (t1 : Nat) (h : PH) : Option PH :=
  gd (hK h t0 = 12) (lt (sR h 12 t0 1 (some t1)) (fun h3 =>
  gd (hK h3 v0 = 12) (lt (sI h3 12 v0 3 (-1 : Int32)) (fun h5 =>
  gd (¬ (100 : Int32) < 0 ∧ (Int32.toNatClampNeg (100 : Int32)) ≤ 1000000) (fX12_init_b23 v0 v0 (hX h5) (hnew h5 21 (Int32.toNatClampNeg (100 : Int32))))))))
set_option maxRecDepth 100000 in
theorem mX12_init_b10 {v0 : Nat} {t0 : Nat} {t1 : Nat} {h : PH} {r : PH} (hf : fX12_init_b10 v0 t0 t1 h = some r) : lez h (hX r) (hV r) := by
  unfold fX12_init_b10 at hf
  have hle := lez_rf h
  obtain ⟨hk2, hf⟩ := gd_some hf
  obtain ⟨h3, rfl, hf⟩ := lt_some hf
  obtain ⟨hk4, hf⟩ := gd_some hf
  obtain ⟨h5, rfl, hf⟩ := lt_some hf
  obtain ⟨hg6, hf⟩ := gd_some hf
  have hle := lez_nw (c := 21) (n := (Int32.toNatClampNeg (100 : Int32))) hle
  exact lez_rt (mX12_init_b23 hf) hle
set_option maxRecDepth 100000 in
theorem wX12_init_b10 {E : PE} {p : Program} {l : Launch} {e : Env} {s : State} {m : MethodId} {args : Array Value} {below : List Frame} {meth : Method} {c : Code} {X0 V0 MC MS uc us : Nat} (X : Cx E p l e (rmv 1 MC MS) s m args below meth c RX12 cX12_init 1 (none)) (hG : Gs E l) (hnm : meth.name = yX12_init.name) {v0 : Nat} {t0 : Nat} {t1 : Nat} {h : PH} {r : PH} (hM : MC + X0 = (hX r)) (hN : MS + V0 = (hV r)) (hu : uc + X0 = hX h) (hv : us + V0 = hV h) (hf : fX12_init_b10 v0 t0 t1 h = some r)  : PW E p l e (rmv 1 MC MS) s m args below meth c 1 uc us (MQ below (QG E (fun v u => v = none ∧ u = r)) args s MC MS (pA E)) h 10 [(0, some (.ref v0))] [.ref t1, .ref t0] := by
  have hm1 : lez h (hX r) (hV r) := mX12_init_b10 hf
  have hcm : uc ≤ MC := (by have o0 := hm1.1; have o1 := hM; have o2 := hu; (try simp only [hX_sI, hX_sR, hX_sL, hX_sD, hX_sIa, hX_sRa, hV_sI, hV_sR, hV_sL, hV_sD, hV_sIa, hV_sRa, hX_new, hV_new] at o0 o1 o2 ⊢); omega)
  have hsm : us ≤ MS := (by have o0 := hm1.2; have o1 := hN; have o2 := hv; (try simp only [hX_sI, hX_sR, hX_sL, hX_sD, hX_sIa, hX_sRa, hV_sI, hV_sR, hV_sL, hV_sD, hV_sIa, hV_sRa, hX_new, hV_new] at o0 o1 o2 ⊢); omega)
  clear hm1
  unfold fX12_init_b10 at hf
  obtain ⟨hk2, hf⟩ := gd_some hf
  refine p_putRf (v := some _) X fl_X12_13 rfl (by decide) (fun q hq => by cases hq; exact ⟨rfl, rfl⟩) hnm (nar_rf _ (by decide)) (fit_rf _ (by decide)) (dcg dc_X12_init 5 rfl) hk2 ?_
  obtain ⟨h3, rfl, hf⟩ := lt_some hf
  refine p_aload_n X (dcg dc_X12_init 6 rfl) rfl rfl ?_
  refine p_iconst (v := -1) X (dcg dc_X12_init 7 rfl) (by decide) ?_
  obtain ⟨hk4, hf⟩ := gd_some hf
  refine p_putI X fl_X12_17 rfl (by decide) (fun q hq => by cases hq; rfl) rfl rfl (dcg dc_X12_init 8 rfl) hk4 ?_
  obtain ⟨h5, rfl, hf⟩ := lt_some hf
  refine p_aload_n X (dcg dc_X12_init 9 rfl) rfl rfl ?_
  refine p_bipush (v := 100) X (dcg dc_X12_init 10 rfl) (by decide) ?_
  obtain ⟨hg6, hf⟩ := gd_some hf
  have hm1 : lez _ (hX r) (hV r) := mX12_init_b23 hf
  have hm2 := lez_new hm1
  refine p_newa21 X tw_2064 (dcg dc_X12_init 11 rfl) hg6.1 hg6.2 (show uc + 1 ≤ MC from (by have o0 := hm2.1; have o1 := hM; have o2 := hu; (try simp only [hX_sI, hX_sR, hX_sL, hX_sD, hX_sIa, hX_sRa, hV_sI, hV_sR, hV_sL, hV_sD, hV_sIa, hV_sRa, hX_new, hV_new] at o0 o1 o2 ⊢); omega)) (show us + (Int32.toNatClampNeg (100 : Int32)) ≤ MS from (by have o0 := hm2.2; have o1 := hN; have o2 := hv; (try simp only [hX_sI, hX_sR, hX_sL, hX_sD, hX_sIa, hX_sRa, hV_sI, hV_sR, hV_sL, hV_sD, hV_sIa, hV_sRa, hX_new, hV_new] at o0 o1 o2 ⊢); omega)) ?_
  refine p_pick [0] ?_
  exact wX12_init_b23 X hG hnm hM hN (by have o0 := hu; (try simp only [hX_sI, hX_sR, hX_sL, hX_sD, hX_sIa, hX_sRa, hV_sI, hV_sR, hV_sL, hV_sD, hV_sIa, hV_sRa, hX_new, hV_new] at o0 ⊢); omega) (by have o0 := hv; (try simp only [hX_sI, hX_sR, hX_sL, hX_sD, hX_sIa, hX_sRa, hV_sI, hV_sR, hV_sL, hV_sD, hV_sIa, hV_sRa, hX_new, hV_new] at o0 ⊢); omega) hf 
noncomputable def fX12_init_b0 (v0 : Nat) (h : PH) : Option PH :=
  gd (¬ (300 : Int32) < 0 ∧ (Int32.toNatClampNeg (300 : Int32)) ≤ 1000000) (fX12_init_b10 v0 v0 (hX h) (hnew h 20 (Int32.toNatClampNeg (300 : Int32))))
set_option maxRecDepth 100000 in
theorem mX12_init_b0 {v0 : Nat} {h : PH} {r : PH} (hf : fX12_init_b0 v0 h = some r) : lez h (hX r) (hV r) := by
  unfold fX12_init_b0 at hf
  have hle := lez_rf h
  obtain ⟨hg1, hf⟩ := gd_some hf
  have hle := lez_nw (c := 20) (n := (Int32.toNatClampNeg (300 : Int32))) hle
  exact lez_rt (mX12_init_b10 hf) hle
set_option maxRecDepth 100000 in
theorem wX12_init_b0 {E : PE} {p : Program} {l : Launch} {e : Env} {s : State} {m : MethodId} {args : Array Value} {below : List Frame} {meth : Method} {c : Code} {X0 V0 MC MS uc us : Nat} (X : Cx E p l e (rmv 1 MC MS) s m args below meth c RX12 cX12_init 1 (none)) (hG : Gs E l) (hnm : meth.name = yX12_init.name) {v0 : Nat} {h : PH} {r : PH} (hM : MC + X0 = (hX r)) (hN : MS + V0 = (hV r)) (hu : uc + X0 = hX h) (hv : us + V0 = hV h) (hf : fX12_init_b0 v0 h = some r)  : PW E p l e (rmv 1 MC MS) s m args below meth c 1 uc us (MQ below (QG E (fun v u => v = none ∧ u = r)) args s MC MS (pA E)) h 0 [(0, some (.ref v0))] [] := by
  have hm1 : lez h (hX r) (hV r) := mX12_init_b0 hf
  have hcm : uc ≤ MC := (by have o0 := hm1.1; have o1 := hM; have o2 := hu; (try simp only [hX_sI, hX_sR, hX_sL, hX_sD, hX_sIa, hX_sRa, hV_sI, hV_sR, hV_sL, hV_sD, hV_sIa, hV_sRa, hX_new, hV_new] at o0 o1 o2 ⊢); omega)
  have hsm : us ≤ MS := (by have o0 := hm1.2; have o1 := hN; have o2 := hv; (try simp only [hX_sI, hX_sR, hX_sL, hX_sD, hX_sIa, hX_sRa, hV_sI, hV_sR, hV_sL, hV_sD, hV_sIa, hV_sRa, hX_new, hV_new] at o0 o1 o2 ⊢); omega)
  clear hm1
  unfold fX12_init_b0 at hf
  refine p_aload_n X (dcg dc_X12_init 0 rfl) rfl rfl ?_
  refine p_objinit X tw_1882 tw_146 tw_147 (dcg dc_X12_init 1 rfl) (Nat.le_of_ble_eq_true rfl) (Nat.le_trans (Nat.add_le_add_right (room4 (Nat.le_of_ble_eq_true rfl)) 12) (Nat.le_of_ble_eq_true rfl)) (fun ls hl => hl.1.trans X.2.2.1.symm) ?_
  refine p_aload_n X (dcg dc_X12_init 2 rfl) rfl rfl ?_
  refine p_sipush (v := 300) X (dcg dc_X12_init 3 rfl) (by decide) ?_
  obtain ⟨hg1, hf⟩ := gd_some hf
  have hm1 : lez _ (hX r) (hV r) := mX12_init_b10 hf
  have hm2 := lez_new hm1
  refine p_newa20 X tw_168 (dcg dc_X12_init 4 rfl) hg1.1 hg1.2 (show uc + 1 ≤ MC from (by have o0 := hm2.1; have o1 := hM; have o2 := hu; (try simp only [hX_sI, hX_sR, hX_sL, hX_sD, hX_sIa, hX_sRa, hV_sI, hV_sR, hV_sL, hV_sD, hV_sIa, hV_sRa, hX_new, hV_new] at o0 o1 o2 ⊢); omega)) (show us + (Int32.toNatClampNeg (300 : Int32)) ≤ MS from (by have o0 := hm2.2; have o1 := hN; have o2 := hv; (try simp only [hX_sI, hX_sR, hX_sL, hX_sD, hX_sIa, hX_sRa, hV_sI, hV_sR, hV_sL, hV_sD, hV_sIa, hV_sRa, hX_new, hV_new] at o0 o1 o2 ⊢); omega)) ?_
  refine p_pick [0] ?_
  exact wX12_init_b10 X hG hnm hM hN (by have o0 := hu; (try simp only [hX_sI, hX_sR, hX_sL, hX_sD, hX_sIa, hX_sRa, hV_sI, hV_sR, hV_sL, hV_sD, hV_sIa, hV_sRa, hX_new, hV_new] at o0 ⊢); omega) (by have o0 := hv; (try simp only [hX_sI, hX_sR, hX_sL, hX_sD, hX_sIa, hX_sRa, hV_sI, hV_sR, hV_sL, hV_sD, hV_sIa, hV_sRa, hX_new, hV_new] at o0 ⊢); omega) hf 
noncomputable def fX12_init (v0 : Nat) (h : PH) : Option PH :=
  fX12_init_b0 v0 h
set_option maxRecDepth 100000 in
theorem mX12_init {v0 : Nat} {h : PH} {r : PH} (hf : fX12_init v0 h = some r) : lez h (hX r) (hV r) := by
  unfold fX12_init at hf
  have hle := lez_rf h
  exact lez_rt (mX12_init_b0 hf) hle
set_option maxRecDepth 100000 in
theorem wX12_init {E : PE} {l : Launch} (hG : Gs E l) {v0 : Nat} {h : PH} {r : PH} (hf : fX12_init v0 h = some r) : Ct E l 1 ((hX r) - hX h) ((hV r) - hV h) yX12_init cX12_init 1 (none) [.ref v0] h (fun v u => v = none ∧ u = r) := by
  have hmm := mX12_init hf
  refine ct_of hG (by decide) (Nat.le_of_ble_eq_true rfl) ?_
  intro p e s m args below meth c X hnm
  show PW E p l e _ s m args below meth c _ 0 0 _ h 0 [(0, some (.ref v0))] []
  unfold fX12_init at hf
  have hM := Nat.sub_add_cancel hmm.1
  have hN := Nat.sub_add_cancel hmm.2
  refine p_pick [0] ?_
  exact wX12_init_b0 X hG hnm hM hN (Nat.zero_add _) (Nat.zero_add _) hf
theorem dc_X12_letters : decs cX12_letters [(0, .iconst 0, 1), (1, .istore_n 1, 1), (2, .iload_n 0, 1), (3, .istore_n 2, 1), (4, .iload_n 2, 1), (5, .ifCond .le 14, 3), (8, .iinc 1 1, 3), (11, .iload_n 2, 1), (12, .bipush 27, 2), (14, .idiv, 1), (15, .istore_n 2, 1), (16, .goto (-12), 3), (19, .iload_n 1, 1), (20, .ireturn, 1)] = true := by decide +kernel
noncomputable def fX12_letters_c4 (v1 : Int32) (v2 : Int32) : Option ((Int32 × Int32) ⊕ Int32) :=
  if (v2 ≤ 0) then (mr (some (v1))) else
  some (.inl ((v1 + 1), (v2 / (27 : Int32))))
set_option maxRecDepth 100000 in
theorem wX12_letters_c4 {E : PE} {p : Program} {l : Launch} {e : Env} {s : State} {m : MethodId} {args : Array Value} {below : List Frame} {meth : Method} {c : Code} (X : Cx E p l e (rmv 0 0 0) s m args below meth c RX12 cX12_letters 3 (some .int)) (hG : Gs E l) (hnm : meth.name = yX12_letters.name) {v1 : Int32} {v2 : Int32} {h : PH} {r : Int32} {x : ((Int32 × Int32) ⊕ Int32)} (hf : fX12_letters_c4 v1 v2 = some x) (k0 : ∀ z : (Int32 × Int32), x = .inl z → PW E p l e (rmv 0 0 0) s m args below meth c 3 0 0 (MQ below (QG E (fun v u => v = some (.int r) ∧ u = h)) args s 0 0 (pA E)) h 4 [(1, some (.int (z.1))), (2, some (.int (z.2)))] []) (kf : ∀ z : Int32, x = .inr z → z = r) : PW E p l e (rmv 0 0 0) s m args below meth c 3 0 0 (MQ below (QG E (fun v u => v = some (.int r) ∧ u = h)) args s 0 0 (pA E)) h 4 [(1, some (.int v1)), (2, some (.int v2))] [] := by
  unfold fX12_letters_c4 at hf
  refine p_iload_n X (dcg dc_X12_letters 4 rfl) rfl rfl ?_
  refine p_if_le (tgt := 19) X (dcg dc_X12_letters 5 rfl) (by decide) (fun q => ?_) (fun q => ?_)
  · have hf := if_t q hf
    obtain ⟨y1, hf, hy2⟩ := mr_some hf
    have hy2f := kf y1 hy2
    subst hy2f
    refine p_iload_n X (dcg dc_X12_letters 12 rfl) rfl rfl ?_
    have er := Option.some.inj hf
    subst er
    exact p_iret X rfl (dcg dc_X12_letters 13 rfl) ⟨rfl, rfl⟩ (Nat.le_refl _) (Nat.le_refl _)
  · have hf := if_f q hf
    refine p_iinc (v := 1) X (dcg dc_X12_letters 6 rfl) rfl (by decide) (by decide) rfl ?_
    refine p_iload_n X (dcg dc_X12_letters 7 rfl) rfl rfl ?_
    refine p_bipush (v := 27) X (dcg dc_X12_letters 8 rfl) (by decide) ?_
    refine p_idiv X (dcg dc_X12_letters 9 rfl) (by decide) ?_
    refine p_istore_n X (dcg dc_X12_letters 10 rfl) rfl (by decide) rfl ?_
    refine p_goto (tgt := 4) X (dcg dc_X12_letters 11 rfl) (by decide) ?_
    refine p_pick [1, 2] ?_
    exact k0 _ (Option.some.inj hf).symm
noncomputable def fX12_letters_l4 (v1 : Int32) (v2 : Int32) : Option Int32 := wh (fun z : (Int32 × Int32) => fX12_letters_c4 (z.1) (z.2)) (v1, v2)
set_option maxRecDepth 100000 in
theorem wX12_letters_l4 {E : PE} {p : Program} {l : Launch} {e : Env} {s : State} {m : MethodId} {args : Array Value} {below : List Frame} {meth : Method} {c : Code} (X : Cx E p l e (rmv 0 0 0) s m args below meth c RX12 cX12_letters 3 (some .int)) (hG : Gs E l) (hnm : meth.name = yX12_letters.name) {v1 : Int32} {v2 : Int32} {h : PH} {r : Int32} (hf : fX12_letters_l4 v1 v2 = some r)  : PW E p l e (rmv 0 0 0) s m args below meth c 3 0 0 (MQ below (QG E (fun v u => v = some (.int r) ∧ u = h)) args s 0 0 (pA E)) h 4 [(1, some (.int v1)), (2, some (.int v2))] [] := by
  unfold fX12_letters_l4 at hf
  refine wh_ind (P := fun z => PW E p l e (rmv 0 0 0) s m args below meth c 3 0 0 (MQ below (QG E (fun v u => v = some (.int r) ∧ u = h)) args s 0 0 (pA E)) h 4 [(1, some (.int (z.1))), (2, some (.int (z.2)))] []) (fun z x0 hs i1 i2 => ?_) _ hf
  exact wX12_letters_c4 (r := r) (v1 := z.1) (v2 := z.2) (h := h) X hG hnm hs i1  i2
noncomputable def fX12_letters (v0 : Int32) : Option Int32 :=
  fX12_letters_l4 (0 : Int32) v0
set_option maxRecDepth 100000 in
theorem wX12_letters {E : PE} {l : Launch} (hG : Gs E l) {v0 : Int32} {h : PH} {r : Int32} (hf : fX12_letters v0 = some r) : Ct E l 0 0 0 yX12_letters cX12_letters 3 (some .int) [.int v0] h (fun v u => v = some (.int r) ∧ u = h) := by
  refine ct_of hG (by decide) (Nat.le_of_ble_eq_true rfl) ?_
  intro p e s m args below meth c X hnm
  show PW E p l e _ s m args below meth c _ 0 0 _ h 0 [(0, some (.int v0))] []
  unfold fX12_letters at hf
  refine p_iconst (v := 0) X (dcg dc_X12_letters 0 rfl) (by decide) ?_
  refine p_istore_n X (dcg dc_X12_letters 1 rfl) rfl (by decide) rfl ?_
  refine p_iload_n X (dcg dc_X12_letters 2 rfl) rfl rfl ?_
  refine p_istore_n X (dcg dc_X12_letters 3 rfl) rfl (by decide) rfl ?_
  refine p_pick [1, 2] ?_
  exact wX12_letters_l4 X hG hnm hf 
theorem dc_X12_isWord : decs cX12_isWord [(0, .iload_n 0, 1), (1, .istore_n 1, 1), (2, .iload_n 1, 1), (3, .ifCond .le 20, 3), (6, .iload_n 1, 1), (7, .bipush 27, 2), (9, .irem, 1), (10, .ifCond .ne 5, 3), (13, .iconst 0, 1), (14, .ireturn, 1), (15, .iload_n 1, 1), (16, .bipush 27, 2), (18, .idiv, 1), (19, .istore_n 1, 1), (20, .goto (-18), 3), (23, .iload_n 0, 1), (24, .invokestatic 144, 3), (27, .iconst 1, 1), (28, .bipush 6, 2), (30, .invokestatic 148, 3), (33, .ireturn, 1)] = true := by decide +kernel
noncomputable def fX12_isWord_c2 (v0 : Int32) (v1 : Int32) : Option ((Int32) ⊕ Int32) :=
  if (v1 ≤ 0) then (mr (bd (fX12_letters v0) (fun z3 =>
  bd (fX12_in z3 (1 : Int32) (6 : Int32)) (fun z4 =>
  gd (z4 &&& 1 = z4) (some (z4)))))) else
  if (¬ (v1 - v1 / (27 : Int32) * (27 : Int32)) = 0) then (some (.inl ((v1 / (27 : Int32))))) else
  mr (some ((0 : Int32)))
set_option maxRecDepth 100000 in
theorem wX12_isWord_c2 {E : PE} {p : Program} {l : Launch} {e : Env} {s : State} {m : MethodId} {args : Array Value} {below : List Frame} {meth : Method} {c : Code} (X : Cx E p l e (rmv 1 0 0) s m args below meth c RX12 cX12_isWord 2 (some .boolean)) (hG : Gs E l) (hnm : meth.name = yX12_isWord.name) {v0 : Int32} {v1 : Int32} {h : PH} {r : Int32} {x : ((Int32) ⊕ Int32)} (hf : fX12_isWord_c2 v0 v1 = some x) (k0 : ∀ z : (Int32), x = .inl z → PW E p l e (rmv 1 0 0) s m args below meth c 2 0 0 (MQ below (QG E (fun v u => v = some (.int r) ∧ u = h)) args s 0 0 (pA E)) h 2 [(0, some (.int v0)), (1, some (.int (z)))] []) (kf : ∀ z : Int32, x = .inr z → z = r) : PW E p l e (rmv 1 0 0) s m args below meth c 2 0 0 (MQ below (QG E (fun v u => v = some (.int r) ∧ u = h)) args s 0 0 (pA E)) h 2 [(0, some (.int v0)), (1, some (.int v1))] [] := by
  unfold fX12_isWord_c2 at hf
  refine p_iload_n X (dcg dc_X12_isWord 2 rfl) rfl rfl ?_
  refine p_if_le (tgt := 23) X (dcg dc_X12_isWord 3 rfl) (by decide) (fun q => ?_) (fun q => ?_)
  · have hf := if_t q hf
    obtain ⟨y1, hf, hy2⟩ := mr_some hf
    have hy2f := kf y1 hy2
    subst hy2f
    refine p_iload_n X (dcg dc_X12_isWord 15 rfl) rfl rfl ?_
    obtain ⟨z3, hz3, hf⟩ := bd_some hf
    refine p_callS (As := [_]) X ml_X12_144 (dcg dc_X12_isWord 16 rfl) rfl rfl  (wX12_letters hG hz3) (by decide) (room4 (Nat.le_of_ble_eq_true rfl)) (Nat.le_refl _) (Nat.le_refl _) ?_
    rintro _ u9 ⟨rfl, e9⟩; have e9 := e9.symm; subst e9
    refine p_iconst (v := 1) X (dcg dc_X12_isWord 17 rfl) (by decide) ?_
    refine p_bipush (v := 6) X (dcg dc_X12_isWord 18 rfl) (by decide) ?_
    obtain ⟨z4, hz4, hf⟩ := bd_some hf
    refine p_callS (As := [_, _, _]) X ml_X12_148 (dcg dc_X12_isWord 19 rfl) rfl rfl  (wX12_in hG hz4) (by decide) (room4 (Nat.le_of_ble_eq_true rfl)) (Nat.le_refl _) (Nat.le_refl _) ?_
    rintro _ u9 ⟨rfl, e9⟩; have e9 := e9.symm; subst e9
    obtain ⟨hg5, hf⟩ := gd_some hf
    have er := Option.some.inj hf
    subst er
    exact p_zret X rfl (congrArg Value.int hg5) (dcg dc_X12_isWord 20 rfl) ⟨rfl, rfl⟩ (Nat.le_refl _) (Nat.le_refl _)
  · have hf := if_f q hf
    refine p_iload_n X (dcg dc_X12_isWord 4 rfl) rfl rfl ?_
    refine p_bipush (v := 27) X (dcg dc_X12_isWord 5 rfl) (by decide) ?_
    refine p_irem X (dcg dc_X12_isWord 6 rfl) (by decide) ?_
    refine p_if_ne (tgt := 15) X (dcg dc_X12_isWord 7 rfl) (by decide) (fun q => ?_) (fun q => ?_)
    · have hf := if_t q hf
      refine p_iload_n X (dcg dc_X12_isWord 10 rfl) rfl rfl ?_
      refine p_bipush (v := 27) X (dcg dc_X12_isWord 11 rfl) (by decide) ?_
      refine p_idiv X (dcg dc_X12_isWord 12 rfl) (by decide) ?_
      refine p_istore_n X (dcg dc_X12_isWord 13 rfl) rfl (by decide) rfl ?_
      refine p_goto (tgt := 2) X (dcg dc_X12_isWord 14 rfl) (by decide) ?_
      refine p_pick [0, 1] ?_
      exact k0 _ (Option.some.inj hf).symm
    · have hf := if_f q hf
      obtain ⟨y6, hf, hy7⟩ := mr_some hf
      have hy7f := kf y6 hy7
      subst hy7f
      refine p_iconst (v := 0) X (dcg dc_X12_isWord 8 rfl) (by decide) ?_
      have er := Option.some.inj hf
      subst er
      exact p_zret X rfl rfl (dcg dc_X12_isWord 9 rfl) ⟨rfl, rfl⟩ (Nat.le_refl _) (Nat.le_refl _)
noncomputable def fX12_isWord_l2 (v0 : Int32) (v1 : Int32) : Option Int32 := wh (fun z : (Int32) => fX12_isWord_c2 v0 (z)) (v1)
set_option maxRecDepth 100000 in
theorem wX12_isWord_l2 {E : PE} {p : Program} {l : Launch} {e : Env} {s : State} {m : MethodId} {args : Array Value} {below : List Frame} {meth : Method} {c : Code} (X : Cx E p l e (rmv 1 0 0) s m args below meth c RX12 cX12_isWord 2 (some .boolean)) (hG : Gs E l) (hnm : meth.name = yX12_isWord.name) {v0 : Int32} {v1 : Int32} {h : PH} {r : Int32} (hf : fX12_isWord_l2 v0 v1 = some r)  : PW E p l e (rmv 1 0 0) s m args below meth c 2 0 0 (MQ below (QG E (fun v u => v = some (.int r) ∧ u = h)) args s 0 0 (pA E)) h 2 [(0, some (.int v0)), (1, some (.int v1))] [] := by
  unfold fX12_isWord_l2 at hf
  refine wh_ind (P := fun z => PW E p l e (rmv 1 0 0) s m args below meth c 2 0 0 (MQ below (QG E (fun v u => v = some (.int r) ∧ u = h)) args s 0 0 (pA E)) h 2 [(0, some (.int v0)), (1, some (.int (z)))] []) (fun z x0 hs i1 i2 => ?_) _ hf
  exact wX12_isWord_c2 (r := r) (v0 := v0) (v1 := z) (h := h) X hG hnm hs i1  i2
noncomputable def fX12_isWord (v0 : Int32) : Option Int32 :=
  fX12_isWord_l2 v0 v0
set_option maxRecDepth 100000 in
theorem wX12_isWord {E : PE} {l : Launch} (hG : Gs E l) {v0 : Int32} {h : PH} {r : Int32} (hf : fX12_isWord v0 = some r) : Ct E l 1 0 0 yX12_isWord cX12_isWord 2 (some .boolean) [.int v0] h (fun v u => v = some (.int r) ∧ u = h) := by
  refine ct_of hG (by decide) (Nat.le_of_ble_eq_true rfl) ?_
  intro p e s m args below meth c X hnm
  show PW E p l e _ s m args below meth c _ 0 0 _ h 0 [(0, some (.int v0))] []
  unfold fX12_isWord at hf
  refine p_iload_n X (dcg dc_X12_isWord 0 rfl) rfl rfl ?_
  refine p_istore_n X (dcg dc_X12_isWord 1 rfl) rfl (by decide) rfl ?_
  refine p_pick [0, 1] ?_
  exact wX12_isWord_l2 X hG hnm hf 
theorem dc_X12_noWord : decs cX12_noWord [(0, .aload_n 0, 1), (1, .iload_n 1, 1), (2, .invokestatic 152, 3), (5, .iconst 1, 1), (6, .invokevirtual 156, 3), (9, .ireturn, 1)] = true := by decide +kernel
noncomputable def fX12_noWord (v0 : Nat) (v1 : Int32) (h : PH) : Option (Int32 × PH) :=
  bd (fX12_isWord v1) (fun z1 =>
  gd (hK h v0 = 12) (bd (fX12_fails v0 z1 (1 : Int32) h) (fun z3 =>
  gd (z3.1 &&& 1 = z3.1) (some ((z3.1, z3.2))))))
set_option maxRecDepth 100000 in
theorem mX12_noWord {v0 : Nat} {v1 : Int32} {h : PH} {r : (Int32 × PH)} (hf : fX12_noWord v0 v1 h = some r) : eqz h (hX r.2) (hV r.2) := by
  unfold fX12_noWord at hf
  have hle := eqz_rf h
  obtain ⟨z1, hz1, hf⟩ := bd_some hf
  obtain ⟨hk2, hf⟩ := gd_some hf
  obtain ⟨z3, hz3, hf⟩ := bd_some hf
  have hle := eqz_rt (mX12_fails hz3) hle
  obtain ⟨hg4, hf⟩ := gd_some hf
  have ee := Option.some.inj hf; subst ee; exact hle
set_option maxRecDepth 100000 in
theorem wX12_noWord {E : PE} {l : Launch} (hG : Gs E l) {v0 : Nat} {v1 : Int32} {h : PH} {r : (Int32 × PH)} (hf : fX12_noWord v0 v1 h = some r) : Ct E l 2 0 0 yX12_noWord cX12_noWord 2 (some .boolean) [.ref v0, .int v1] h (fun v u => v = some (.int r.1) ∧ u = r.2) := by
  refine ct_of hG (by decide) (Nat.le_of_ble_eq_true rfl) ?_
  intro p e s m args below meth c X hnm
  show PW E p l e _ s m args below meth c _ 0 0 _ h 0 [(0, some (.ref v0)), (1, some (.int v1))] []
  unfold fX12_noWord at hf
  refine p_aload_n X (dcg dc_X12_noWord 0 rfl) rfl rfl ?_
  refine p_iload_n X (dcg dc_X12_noWord 1 rfl) rfl rfl ?_
  obtain ⟨z1, hz1, hf⟩ := bd_some hf
  refine p_callS (As := [_]) X ml_X12_152 (dcg dc_X12_noWord 2 rfl) rfl rfl  (wX12_isWord hG hz1) (by decide) (room4 (Nat.le_of_ble_eq_true rfl)) (Nat.le_refl _) (Nat.le_refl _) ?_
  rintro _ u9 ⟨rfl, e9⟩; have e9 := e9.symm; subst e9
  refine p_iconst (v := 1) X (dcg dc_X12_noWord 3 rfl) (by decide) ?_
  obtain ⟨hk2, hf⟩ := gd_some hf
  obtain ⟨z3, hz3, hf⟩ := bd_some hf
  refine p_callV (As := [_, _]) X ml_X12_156 (dcg dc_X12_noWord 4 rfl) rfl rfl hk2 (wX12_fails hG hz3) (by decide) (room4 (Nat.le_of_ble_eq_true rfl)) (Nat.le_refl _) (Nat.le_refl _) ?_
  rintro _ u9 ⟨rfl, e9⟩; have e9 := e9.symm; subst e9
  obtain ⟨hg4, hf⟩ := gd_some hf
  have er := Option.some.inj hf
  subst er
  exact p_zret X rfl (congrArg Value.int hg4) (dcg dc_X12_noWord 5 rfl) ⟨rfl, rfl⟩ (Nat.le_refl _) (Nat.le_refl _)
theorem dc_X12_order : decs cX12_order [(0, .iload_n 0, 1), (1, .istore_n 1, 1), (2, .iload_n 0, 1), (3, .invokestatic 144, 3), (6, .istore_n 2, 1), (7, .iload_n 2, 1), (8, .bipush 6, 2), (10, .if_icmp .ge 14, 3), (13, .iload_n 1, 1), (14, .bipush 27, 2), (16, .imul, 1), (17, .istore_n 1, 1), (18, .iinc 2 1, 3), (21, .goto (-14), 3), (24, .iload_n 1, 1), (25, .ireturn, 1)] = true := by decide +kernel
noncomputable def fX12_order_c7 (v1 : Int32) (v2 : Int32) : Option ((Int32 × Int32) ⊕ Int32) :=
  if ((6 : Int32) ≤ v2) then (mr (some (v1))) else
  some (.inl ((v1 * (27 : Int32)), (v2 + 1)))
set_option maxRecDepth 100000 in
theorem wX12_order_c7 {E : PE} {p : Program} {l : Launch} {e : Env} {s : State} {m : MethodId} {args : Array Value} {below : List Frame} {meth : Method} {c : Code} (X : Cx E p l e (rmv 1 0 0) s m args below meth c RX12 cX12_order 3 (some .int)) (hG : Gs E l) (hnm : meth.name = yX12_order.name) {v1 : Int32} {v2 : Int32} {h : PH} {r : Int32} {x : ((Int32 × Int32) ⊕ Int32)} (hf : fX12_order_c7 v1 v2 = some x) (k0 : ∀ z : (Int32 × Int32), x = .inl z → PW E p l e (rmv 1 0 0) s m args below meth c 3 0 0 (MQ below (QG E (fun v u => v = some (.int r) ∧ u = h)) args s 0 0 (pA E)) h 7 [(1, some (.int (z.1))), (2, some (.int (z.2)))] []) (kf : ∀ z : Int32, x = .inr z → z = r) : PW E p l e (rmv 1 0 0) s m args below meth c 3 0 0 (MQ below (QG E (fun v u => v = some (.int r) ∧ u = h)) args s 0 0 (pA E)) h 7 [(1, some (.int v1)), (2, some (.int v2))] [] := by
  unfold fX12_order_c7 at hf
  refine p_iload_n X (dcg dc_X12_order 5 rfl) rfl rfl ?_
  refine p_bipush (v := 6) X (dcg dc_X12_order 6 rfl) (by decide) ?_
  refine p_icmp_ge (tgt := 24) X (dcg dc_X12_order 7 rfl) (by decide) (fun q => ?_) (fun q => ?_)
  · have hf := if_t q hf
    obtain ⟨y2, hf, hy3⟩ := mr_some hf
    have hy3f := kf y2 hy3
    subst hy3f
    refine p_iload_n X (dcg dc_X12_order 14 rfl) rfl rfl ?_
    have er := Option.some.inj hf
    subst er
    exact p_iret X rfl (dcg dc_X12_order 15 rfl) ⟨rfl, rfl⟩ (Nat.le_refl _) (Nat.le_refl _)
  · have hf := if_f q hf
    refine p_iload_n X (dcg dc_X12_order 8 rfl) rfl rfl ?_
    refine p_bipush (v := 27) X (dcg dc_X12_order 9 rfl) (by decide) ?_
    refine p_imul X (dcg dc_X12_order 10 rfl) ?_
    refine p_istore_n X (dcg dc_X12_order 11 rfl) rfl (by decide) rfl ?_
    refine p_iinc (v := 1) X (dcg dc_X12_order 12 rfl) rfl (by decide) (by decide) rfl ?_
    refine p_goto (tgt := 7) X (dcg dc_X12_order 13 rfl) (by decide) ?_
    refine p_pick [1, 2] ?_
    exact k0 _ (Option.some.inj hf).symm
noncomputable def fX12_order_l7 (v1 : Int32) (v2 : Int32) : Option Int32 := wh (fun z : (Int32 × Int32) => fX12_order_c7 (z.1) (z.2)) (v1, v2)
set_option maxRecDepth 100000 in
theorem wX12_order_l7 {E : PE} {p : Program} {l : Launch} {e : Env} {s : State} {m : MethodId} {args : Array Value} {below : List Frame} {meth : Method} {c : Code} (X : Cx E p l e (rmv 1 0 0) s m args below meth c RX12 cX12_order 3 (some .int)) (hG : Gs E l) (hnm : meth.name = yX12_order.name) {v1 : Int32} {v2 : Int32} {h : PH} {r : Int32} (hf : fX12_order_l7 v1 v2 = some r)  : PW E p l e (rmv 1 0 0) s m args below meth c 3 0 0 (MQ below (QG E (fun v u => v = some (.int r) ∧ u = h)) args s 0 0 (pA E)) h 7 [(1, some (.int v1)), (2, some (.int v2))] [] := by
  unfold fX12_order_l7 at hf
  refine wh_ind (P := fun z => PW E p l e (rmv 1 0 0) s m args below meth c 3 0 0 (MQ below (QG E (fun v u => v = some (.int r) ∧ u = h)) args s 0 0 (pA E)) h 7 [(1, some (.int (z.1))), (2, some (.int (z.2)))] []) (fun z x0 hs i1 i2 => ?_) _ hf
  exact wX12_order_c7 (r := r) (v1 := z.1) (v2 := z.2) (h := h) X hG hnm hs i1  i2
noncomputable def fX12_order (v0 : Int32) : Option Int32 :=
  bd (fX12_letters v0) (fun z1 =>
  fX12_order_l7 v0 z1)
set_option maxRecDepth 100000 in
theorem wX12_order {E : PE} {l : Launch} (hG : Gs E l) {v0 : Int32} {h : PH} {r : Int32} (hf : fX12_order v0 = some r) : Ct E l 1 0 0 yX12_order cX12_order 3 (some .int) [.int v0] h (fun v u => v = some (.int r) ∧ u = h) := by
  refine ct_of hG (by decide) (Nat.le_of_ble_eq_true rfl) ?_
  intro p e s m args below meth c X hnm
  show PW E p l e _ s m args below meth c _ 0 0 _ h 0 [(0, some (.int v0))] []
  unfold fX12_order at hf
  refine p_iload_n X (dcg dc_X12_order 0 rfl) rfl rfl ?_
  refine p_istore_n X (dcg dc_X12_order 1 rfl) rfl (by decide) rfl ?_
  refine p_iload_n X (dcg dc_X12_order 2 rfl) rfl rfl ?_
  obtain ⟨z1, hz1, hf⟩ := bd_some hf
  refine p_callS (As := [_]) X ml_X12_144 (dcg dc_X12_order 3 rfl) rfl rfl  (wX12_letters hG hz1) (by decide) (room4 (Nat.le_of_ble_eq_true rfl)) (Nat.le_refl _) (Nat.le_refl _) ?_
  rintro _ u9 ⟨rfl, e9⟩; have e9 := e9.symm; subst e9
  refine p_istore_n X (dcg dc_X12_order 4 rfl) rfl (by decide) rfl ?_
  refine p_pick [1, 2] ?_
  exact wX12_order_l7 X hG hnm hf 
theorem dc_X12_isAhead : decs cX12_isAhead [(0, .iload_n 0, 1), (1, .invokestatic 160, 3), (4, .iload_n 1, 1), (5, .invokestatic 160, 3), (8, .if_icmp .ge 7, 3), (11, .iconst 1, 1), (12, .goto 4, 3), (15, .iconst 0, 1), (16, .ireturn, 1)] = true := by decide +kernel
noncomputable def fX12_isAhead_b16 (t0 : Int32) : Option Int32 :=
  gd (t0 &&& 1 = t0) (some (t0))
set_option maxRecDepth 100000 in
theorem wX12_isAhead_b16 {E : PE} {p : Program} {l : Launch} {e : Env} {s : State} {m : MethodId} {args : Array Value} {below : List Frame} {meth : Method} {c : Code} (X : Cx E p l e (rmv 2 0 0) s m args below meth c RX12 cX12_isAhead 2 (some .boolean)) (hG : Gs E l) (hnm : meth.name = yX12_isAhead.name) {t0 : Int32} {h : PH} {r : Int32} (hf : fX12_isAhead_b16 t0 = some r)  : PW E p l e (rmv 2 0 0) s m args below meth c 2 0 0 (MQ below (QG E (fun v u => v = some (.int r) ∧ u = h)) args s 0 0 (pA E)) h 16 [] [.int t0] := by
  unfold fX12_isAhead_b16 at hf
  obtain ⟨hg3, hf⟩ := gd_some hf
  have er := Option.some.inj hf
  subst er
  exact p_zret X rfl (congrArg Value.int hg3) (dcg dc_X12_isAhead 8 rfl) ⟨rfl, rfl⟩ (Nat.le_refl _) (Nat.le_refl _)
noncomputable def fX12_isAhead (v0 : Int32) (v1 : Int32) : Option Int32 :=
  bd (fX12_order v0) (fun z1 =>
  bd (fX12_order v1) (fun z2 =>
  if (z2 ≤ z1) then (fX12_isAhead_b16 (0 : Int32)) else
  fX12_isAhead_b16 (1 : Int32)))
set_option maxRecDepth 100000 in
theorem wX12_isAhead {E : PE} {l : Launch} (hG : Gs E l) {v0 : Int32} {v1 : Int32} {h : PH} {r : Int32} (hf : fX12_isAhead v0 v1 = some r) : Ct E l 2 0 0 yX12_isAhead cX12_isAhead 2 (some .boolean) [.int v0, .int v1] h (fun v u => v = some (.int r) ∧ u = h) := by
  refine ct_of hG (by decide) (Nat.le_of_ble_eq_true rfl) ?_
  intro p e s m args below meth c X hnm
  show PW E p l e _ s m args below meth c _ 0 0 _ h 0 [(0, some (.int v0)), (1, some (.int v1))] []
  unfold fX12_isAhead at hf
  refine p_iload_n X (dcg dc_X12_isAhead 0 rfl) rfl rfl ?_
  obtain ⟨z1, hz1, hf⟩ := bd_some hf
  refine p_callS (As := [_]) X ml_X12_160 (dcg dc_X12_isAhead 1 rfl) rfl rfl  (wX12_order hG hz1) (by decide) (room4 (Nat.le_of_ble_eq_true rfl)) (Nat.le_refl _) (Nat.le_refl _) ?_
  rintro _ u9 ⟨rfl, e9⟩; have e9 := e9.symm; subst e9
  refine p_iload_n X (dcg dc_X12_isAhead 2 rfl) rfl rfl ?_
  obtain ⟨z2, hz2, hf⟩ := bd_some hf
  refine p_callS (As := [_]) X ml_X12_160 (dcg dc_X12_isAhead 3 rfl) rfl rfl  (wX12_order hG hz2) (by decide) (room4 (Nat.le_of_ble_eq_true rfl)) (Nat.le_refl _) (Nat.le_refl _) ?_
  rintro _ u9 ⟨rfl, e9⟩; have e9 := e9.symm; subst e9
  refine p_icmp_ge (tgt := 15) X (dcg dc_X12_isAhead 4 rfl) (by decide) (fun q => ?_) (fun q => ?_)
  · have hf := if_t q hf
    refine p_iconst (v := 0) X (dcg dc_X12_isAhead 7 rfl) (by decide) ?_
    refine p_pick [] ?_
    exact wX12_isAhead_b16 X hG hnm hf 
  · have hf := if_f q hf
    refine p_iconst (v := 1) X (dcg dc_X12_isAhead 5 rfl) (by decide) ?_
    refine p_goto (tgt := 16) X (dcg dc_X12_isAhead 6 rfl) (by decide) ?_
    refine p_pick [] ?_
    exact wX12_isAhead_b16 X hG hnm hf 
theorem dc_X12_letterOf : decs cX12_letterOf [(0, .iload_n 0, 1), (1, .istore_n 2, 1), (2, .iload_n 0, 1), (3, .invokestatic 144, 3), (6, .iconst 1, 1), (7, .isub, 1), (8, .istore_n 3, 1), (9, .iload_n 3, 1), (10, .iload_n 1, 1), (11, .if_icmp .le 14, 3), (14, .iload_n 2, 1), (15, .bipush 27, 2), (17, .idiv, 1), (18, .istore_n 2, 1), (19, .iinc 3 (-1), 3), (22, .goto (-13), 3), (25, .iload_n 2, 1), (26, .bipush 27, 2), (28, .irem, 1), (29, .ireturn, 1)] = true := by decide +kernel
noncomputable def fX12_letterOf_c9 (v1 : Int32) (v2 : Int32) (v3 : Int32) : Option ((Int32 × Int32) ⊕ Int32) :=
  if (v3 ≤ v1) then (mr (some ((v2 - v2 / (27 : Int32) * (27 : Int32))))) else
  some (.inl ((v2 / (27 : Int32)), (v3 + (-1))))
set_option maxRecDepth 100000 in
theorem wX12_letterOf_c9 {E : PE} {p : Program} {l : Launch} {e : Env} {s : State} {m : MethodId} {args : Array Value} {below : List Frame} {meth : Method} {c : Code} (X : Cx E p l e (rmv 1 0 0) s m args below meth c RX12 cX12_letterOf 4 (some .int)) (hG : Gs E l) (hnm : meth.name = yX12_letterOf.name) {v1 : Int32} {v2 : Int32} {v3 : Int32} {h : PH} {r : Int32} {x : ((Int32 × Int32) ⊕ Int32)} (hf : fX12_letterOf_c9 v1 v2 v3 = some x) (k0 : ∀ z : (Int32 × Int32), x = .inl z → PW E p l e (rmv 1 0 0) s m args below meth c 4 0 0 (MQ below (QG E (fun v u => v = some (.int r) ∧ u = h)) args s 0 0 (pA E)) h 9 [(1, some (.int v1)), (2, some (.int (z.1))), (3, some (.int (z.2)))] []) (kf : ∀ z : Int32, x = .inr z → z = r) : PW E p l e (rmv 1 0 0) s m args below meth c 4 0 0 (MQ below (QG E (fun v u => v = some (.int r) ∧ u = h)) args s 0 0 (pA E)) h 9 [(1, some (.int v1)), (2, some (.int v2)), (3, some (.int v3))] [] := by
  unfold fX12_letterOf_c9 at hf
  refine p_iload_n X (dcg dc_X12_letterOf 7 rfl) rfl rfl ?_
  refine p_iload_n X (dcg dc_X12_letterOf 8 rfl) rfl rfl ?_
  refine p_icmp_le (tgt := 25) X (dcg dc_X12_letterOf 9 rfl) (by decide) (fun q => ?_) (fun q => ?_)
  · have hf := if_t q hf
    obtain ⟨y2, hf, hy3⟩ := mr_some hf
    have hy3f := kf y2 hy3
    subst hy3f
    refine p_iload_n X (dcg dc_X12_letterOf 16 rfl) rfl rfl ?_
    refine p_bipush (v := 27) X (dcg dc_X12_letterOf 17 rfl) (by decide) ?_
    refine p_irem X (dcg dc_X12_letterOf 18 rfl) (by decide) ?_
    have er := Option.some.inj hf
    subst er
    exact p_iret X rfl (dcg dc_X12_letterOf 19 rfl) ⟨rfl, rfl⟩ (Nat.le_refl _) (Nat.le_refl _)
  · have hf := if_f q hf
    refine p_iload_n X (dcg dc_X12_letterOf 10 rfl) rfl rfl ?_
    refine p_bipush (v := 27) X (dcg dc_X12_letterOf 11 rfl) (by decide) ?_
    refine p_idiv X (dcg dc_X12_letterOf 12 rfl) (by decide) ?_
    refine p_istore_n X (dcg dc_X12_letterOf 13 rfl) rfl (by decide) rfl ?_
    refine p_iinc (v := -1) X (dcg dc_X12_letterOf 14 rfl) rfl (by decide) (by decide) rfl ?_
    refine p_goto (tgt := 9) X (dcg dc_X12_letterOf 15 rfl) (by decide) ?_
    refine p_pick [1, 2, 3] ?_
    exact k0 _ (Option.some.inj hf).symm
noncomputable def fX12_letterOf_l9 (v1 : Int32) (v2 : Int32) (v3 : Int32) : Option Int32 := wh (fun z : (Int32 × Int32) => fX12_letterOf_c9 v1 (z.1) (z.2)) (v2, v3)
set_option maxRecDepth 100000 in
theorem wX12_letterOf_l9 {E : PE} {p : Program} {l : Launch} {e : Env} {s : State} {m : MethodId} {args : Array Value} {below : List Frame} {meth : Method} {c : Code} (X : Cx E p l e (rmv 1 0 0) s m args below meth c RX12 cX12_letterOf 4 (some .int)) (hG : Gs E l) (hnm : meth.name = yX12_letterOf.name) {v1 : Int32} {v2 : Int32} {v3 : Int32} {h : PH} {r : Int32} (hf : fX12_letterOf_l9 v1 v2 v3 = some r)  : PW E p l e (rmv 1 0 0) s m args below meth c 4 0 0 (MQ below (QG E (fun v u => v = some (.int r) ∧ u = h)) args s 0 0 (pA E)) h 9 [(1, some (.int v1)), (2, some (.int v2)), (3, some (.int v3))] [] := by
  unfold fX12_letterOf_l9 at hf
  refine wh_ind (P := fun z => PW E p l e (rmv 1 0 0) s m args below meth c 4 0 0 (MQ below (QG E (fun v u => v = some (.int r) ∧ u = h)) args s 0 0 (pA E)) h 9 [(1, some (.int v1)), (2, some (.int (z.1))), (3, some (.int (z.2)))] []) (fun z x0 hs i1 i2 => ?_) _ hf
  exact wX12_letterOf_c9 (r := r) (v1 := v1) (v2 := z.1) (v3 := z.2) (h := h) X hG hnm hs i1  i2
noncomputable def fX12_letterOf (v0 : Int32) (v1 : Int32) : Option Int32 :=
  bd (fX12_letters v0) (fun z1 =>
  fX12_letterOf_l9 v1 v0 (z1 - (1 : Int32)))
set_option maxRecDepth 100000 in
theorem wX12_letterOf {E : PE} {l : Launch} (hG : Gs E l) {v0 : Int32} {v1 : Int32} {h : PH} {r : Int32} (hf : fX12_letterOf v0 v1 = some r) : Ct E l 1 0 0 yX12_letterOf cX12_letterOf 4 (some .int) [.int v0, .int v1] h (fun v u => v = some (.int r) ∧ u = h) := by
  refine ct_of hG (by decide) (Nat.le_of_ble_eq_true rfl) ?_
  intro p e s m args below meth c X hnm
  show PW E p l e _ s m args below meth c _ 0 0 _ h 0 [(0, some (.int v0)), (1, some (.int v1))] []
  unfold fX12_letterOf at hf
  refine p_iload_n X (dcg dc_X12_letterOf 0 rfl) rfl rfl ?_
  refine p_istore_n X (dcg dc_X12_letterOf 1 rfl) rfl (by decide) rfl ?_
  refine p_iload_n X (dcg dc_X12_letterOf 2 rfl) rfl rfl ?_
  obtain ⟨z1, hz1, hf⟩ := bd_some hf
  refine p_callS (As := [_]) X ml_X12_144 (dcg dc_X12_letterOf 3 rfl) rfl rfl  (wX12_letters hG hz1) (by decide) (room4 (Nat.le_of_ble_eq_true rfl)) (Nat.le_refl _) (Nat.le_refl _) ?_
  rintro _ u9 ⟨rfl, e9⟩; have e9 := e9.symm; subst e9
  refine p_iconst (v := 1) X (dcg dc_X12_letterOf 4 rfl) (by decide) ?_
  refine p_isub X (dcg dc_X12_letterOf 5 rfl) ?_
  refine p_istore_n X (dcg dc_X12_letterOf 6 rfl) rfl (by decide) rfl ?_
  refine p_pick [1, 2, 3] ?_
  exact wX12_letterOf_l9 X hG hnm hf 
theorem dc_X12_beginsWith : decs cX12_beginsWith [(0, .iload_n 0, 1), (1, .istore_n 2, 1), (2, .iload_n 0, 1), (3, .invokestatic 144, 3), (6, .istore_n 3, 1), (7, .iload_n 3, 1), (8, .iload_n 1, 1), (9, .invokestatic 144, 3), (12, .if_icmp .le 14, 3), (15, .iload_n 2, 1), (16, .bipush 27, 2), (18, .idiv, 1), (19, .istore_n 2, 1), (20, .iinc 3 (-1), 3), (23, .goto (-16), 3), (26, .iload_n 2, 1), (27, .iload_n 1, 1), (28, .if_icmp .ne 7, 3), (31, .iconst 1, 1), (32, .goto 4, 3), (35, .iconst 0, 1), (36, .ireturn, 1)] = true := by decide +kernel
noncomputable def fX12_beginsWith_b36 (t0 : Int32) : Option Int32 :=
  gd (t0 &&& 1 = t0) (some (t0))
set_option maxRecDepth 100000 in
theorem wX12_beginsWith_b36 {E : PE} {p : Program} {l : Launch} {e : Env} {s : State} {m : MethodId} {args : Array Value} {below : List Frame} {meth : Method} {c : Code} (X : Cx E p l e (rmv 1 0 0) s m args below meth c RX12 cX12_beginsWith 4 (some .boolean)) (hG : Gs E l) (hnm : meth.name = yX12_beginsWith.name) {t0 : Int32} {h : PH} {r : Int32} (hf : fX12_beginsWith_b36 t0 = some r)  : PW E p l e (rmv 1 0 0) s m args below meth c 4 0 0 (MQ below (QG E (fun v u => v = some (.int r) ∧ u = h)) args s 0 0 (pA E)) h 36 [] [.int t0] := by
  unfold fX12_beginsWith_b36 at hf
  obtain ⟨hg5, hf⟩ := gd_some hf
  have er := Option.some.inj hf
  subst er
  exact p_zret X rfl (congrArg Value.int hg5) (dcg dc_X12_beginsWith 21 rfl) ⟨rfl, rfl⟩ (Nat.le_refl _) (Nat.le_refl _)
noncomputable def fX12_beginsWith_c7 (v1 : Int32) (v2 : Int32) (v3 : Int32) : Option ((Int32 × Int32) ⊕ Int32) :=
  bd (fX12_letters v1) (fun z2 =>
  if (v3 ≤ z2) then (mr (if (¬ v2 = v1) then (fX12_beginsWith_b36 (0 : Int32)) else
  fX12_beginsWith_b36 (1 : Int32))) else
  some (.inl ((v2 / (27 : Int32)), (v3 + (-1)))))
set_option maxRecDepth 100000 in
theorem wX12_beginsWith_c7 {E : PE} {p : Program} {l : Launch} {e : Env} {s : State} {m : MethodId} {args : Array Value} {below : List Frame} {meth : Method} {c : Code} (X : Cx E p l e (rmv 1 0 0) s m args below meth c RX12 cX12_beginsWith 4 (some .boolean)) (hG : Gs E l) (hnm : meth.name = yX12_beginsWith.name) {v1 : Int32} {v2 : Int32} {v3 : Int32} {h : PH} {r : Int32} {x : ((Int32 × Int32) ⊕ Int32)} (hf : fX12_beginsWith_c7 v1 v2 v3 = some x) (k0 : ∀ z : (Int32 × Int32), x = .inl z → PW E p l e (rmv 1 0 0) s m args below meth c 4 0 0 (MQ below (QG E (fun v u => v = some (.int r) ∧ u = h)) args s 0 0 (pA E)) h 7 [(1, some (.int v1)), (2, some (.int (z.1))), (3, some (.int (z.2)))] []) (kf : ∀ z : Int32, x = .inr z → z = r) : PW E p l e (rmv 1 0 0) s m args below meth c 4 0 0 (MQ below (QG E (fun v u => v = some (.int r) ∧ u = h)) args s 0 0 (pA E)) h 7 [(1, some (.int v1)), (2, some (.int v2)), (3, some (.int v3))] [] := by
  unfold fX12_beginsWith_c7 at hf
  refine p_iload_n X (dcg dc_X12_beginsWith 5 rfl) rfl rfl ?_
  refine p_iload_n X (dcg dc_X12_beginsWith 6 rfl) rfl rfl ?_
  obtain ⟨z2, hz2, hf⟩ := bd_some hf
  refine p_callS (As := [_]) X ml_X12_144 (dcg dc_X12_beginsWith 7 rfl) rfl rfl  (wX12_letters hG hz2) (by decide) (room4 (Nat.le_of_ble_eq_true rfl)) (Nat.le_refl _) (Nat.le_refl _) ?_
  rintro _ u9 ⟨rfl, e9⟩; have e9 := e9.symm; subst e9
  refine p_icmp_le (tgt := 26) X (dcg dc_X12_beginsWith 8 rfl) (by decide) (fun q => ?_) (fun q => ?_)
  · have hf := if_t q hf
    obtain ⟨y3, hf, hy4⟩ := mr_some hf
    have hy4f := kf y3 hy4
    subst hy4f
    refine p_iload_n X (dcg dc_X12_beginsWith 15 rfl) rfl rfl ?_
    refine p_iload_n X (dcg dc_X12_beginsWith 16 rfl) rfl rfl ?_
    refine p_icmp_ne (tgt := 35) X (dcg dc_X12_beginsWith 17 rfl) (by decide) (fun q => ?_) (fun q => ?_)
    · have hf := if_t q hf
      refine p_iconst (v := 0) X (dcg dc_X12_beginsWith 20 rfl) (by decide) ?_
      refine p_pick [] ?_
      exact wX12_beginsWith_b36 X hG hnm hf 
    · have hf := if_f q hf
      refine p_iconst (v := 1) X (dcg dc_X12_beginsWith 18 rfl) (by decide) ?_
      refine p_goto (tgt := 36) X (dcg dc_X12_beginsWith 19 rfl) (by decide) ?_
      refine p_pick [] ?_
      exact wX12_beginsWith_b36 X hG hnm hf 
  · have hf := if_f q hf
    refine p_iload_n X (dcg dc_X12_beginsWith 9 rfl) rfl rfl ?_
    refine p_bipush (v := 27) X (dcg dc_X12_beginsWith 10 rfl) (by decide) ?_
    refine p_idiv X (dcg dc_X12_beginsWith 11 rfl) (by decide) ?_
    refine p_istore_n X (dcg dc_X12_beginsWith 12 rfl) rfl (by decide) rfl ?_
    refine p_iinc (v := -1) X (dcg dc_X12_beginsWith 13 rfl) rfl (by decide) (by decide) rfl ?_
    refine p_goto (tgt := 7) X (dcg dc_X12_beginsWith 14 rfl) (by decide) ?_
    refine p_pick [1, 2, 3] ?_
    exact k0 _ (Option.some.inj hf).symm
noncomputable def fX12_beginsWith_l7 (v1 : Int32) (v2 : Int32) (v3 : Int32) : Option Int32 := wh (fun z : (Int32 × Int32) => fX12_beginsWith_c7 v1 (z.1) (z.2)) (v2, v3)
set_option maxRecDepth 100000 in
theorem wX12_beginsWith_l7 {E : PE} {p : Program} {l : Launch} {e : Env} {s : State} {m : MethodId} {args : Array Value} {below : List Frame} {meth : Method} {c : Code} (X : Cx E p l e (rmv 1 0 0) s m args below meth c RX12 cX12_beginsWith 4 (some .boolean)) (hG : Gs E l) (hnm : meth.name = yX12_beginsWith.name) {v1 : Int32} {v2 : Int32} {v3 : Int32} {h : PH} {r : Int32} (hf : fX12_beginsWith_l7 v1 v2 v3 = some r)  : PW E p l e (rmv 1 0 0) s m args below meth c 4 0 0 (MQ below (QG E (fun v u => v = some (.int r) ∧ u = h)) args s 0 0 (pA E)) h 7 [(1, some (.int v1)), (2, some (.int v2)), (3, some (.int v3))] [] := by
  unfold fX12_beginsWith_l7 at hf
  refine wh_ind (P := fun z => PW E p l e (rmv 1 0 0) s m args below meth c 4 0 0 (MQ below (QG E (fun v u => v = some (.int r) ∧ u = h)) args s 0 0 (pA E)) h 7 [(1, some (.int v1)), (2, some (.int (z.1))), (3, some (.int (z.2)))] []) (fun z x0 hs i1 i2 => ?_) _ hf
  exact wX12_beginsWith_c7 (r := r) (v1 := v1) (v2 := z.1) (v3 := z.2) (h := h) X hG hnm hs i1  i2
noncomputable def fX12_beginsWith (v0 : Int32) (v1 : Int32) : Option Int32 :=
  bd (fX12_letters v0) (fun z1 =>
  fX12_beginsWith_l7 v1 v0 z1)
set_option maxRecDepth 100000 in
theorem wX12_beginsWith {E : PE} {l : Launch} (hG : Gs E l) {v0 : Int32} {v1 : Int32} {h : PH} {r : Int32} (hf : fX12_beginsWith v0 v1 = some r) : Ct E l 1 0 0 yX12_beginsWith cX12_beginsWith 4 (some .boolean) [.int v0, .int v1] h (fun v u => v = some (.int r) ∧ u = h) := by
  refine ct_of hG (by decide) (Nat.le_of_ble_eq_true rfl) ?_
  intro p e s m args below meth c X hnm
  show PW E p l e _ s m args below meth c _ 0 0 _ h 0 [(0, some (.int v0)), (1, some (.int v1))] []
  unfold fX12_beginsWith at hf
  refine p_iload_n X (dcg dc_X12_beginsWith 0 rfl) rfl rfl ?_
  refine p_istore_n X (dcg dc_X12_beginsWith 1 rfl) rfl (by decide) rfl ?_
  refine p_iload_n X (dcg dc_X12_beginsWith 2 rfl) rfl rfl ?_
  obtain ⟨z1, hz1, hf⟩ := bd_some hf
  refine p_callS (As := [_]) X ml_X12_144 (dcg dc_X12_beginsWith 3 rfl) rfl rfl  (wX12_letters hG hz1) (by decide) (room4 (Nat.le_of_ble_eq_true rfl)) (Nat.le_refl _) (Nat.le_refl _) ?_
  rintro _ u9 ⟨rfl, e9⟩; have e9 := e9.symm; subst e9
  refine p_istore_n X (dcg dc_X12_beginsWith 4 rfl) rfl (by decide) rfl ?_
  refine p_pick [1, 2, 3] ?_
  exact wX12_beginsWith_l7 X hG hnm hf 
theorem dc_X12_bytesIn : decs cX12_bytesIn [(0, .iconst 0, 1), (1, .istore_n 1, 1), (2, .iconst 0, 1), (3, .istore_n 2, 1), (4, .iload_n 2, 1), (5, .bipush 32, 2), (7, .if_icmp .ge 27, 3), (10, .iload_n 1, 1), (11, .iload_n 0, 1), (12, .iload_n 2, 1), (13, .ishr, 1), (14, .sipush 255, 3), (17, .iand, 1), (18, .ifCond .ne 7, 3), (21, .iconst 0, 1), (22, .goto 4, 3), (25, .iconst 1, 1), (26, .iadd, 1), (27, .istore_n 1, 1), (28, .iinc 2 8, 3), (31, .goto (-27), 3), (34, .iload_n 1, 1), (35, .ireturn, 1)] = true := by decide +kernel
noncomputable def fX12_bytesIn_b26 (v0 : Int32) (v2 : Int32) (t0 : Int32) (t1 : Int32) : Option ((Int32 × Int32) ⊕ Int32) :=
  some (.inl ((t0 + t1), (v2 + 8)))
set_option maxRecDepth 100000 in
theorem wX12_bytesIn_b26 {E : PE} {p : Program} {l : Launch} {e : Env} {s : State} {m : MethodId} {args : Array Value} {below : List Frame} {meth : Method} {c : Code} (X : Cx E p l e (rmv 0 0 0) s m args below meth c RX12 cX12_bytesIn 3 (some .int)) (hG : Gs E l) (hnm : meth.name = yX12_bytesIn.name) {v0 : Int32} {v2 : Int32} {t0 : Int32} {t1 : Int32} {h : PH} {r : Int32} {x : ((Int32 × Int32) ⊕ Int32)} (hf : fX12_bytesIn_b26 v0 v2 t0 t1 = some x) (k0 : ∀ z : (Int32 × Int32), x = .inl z → PW E p l e (rmv 0 0 0) s m args below meth c 3 0 0 (MQ below (QG E (fun v u => v = some (.int r) ∧ u = h)) args s 0 0 (pA E)) h 4 [(0, some (.int v0)), (1, some (.int (z.1))), (2, some (.int (z.2)))] []) (kf : ∀ z : Int32, x = .inr z → z = r) : PW E p l e (rmv 0 0 0) s m args below meth c 3 0 0 (MQ below (QG E (fun v u => v = some (.int r) ∧ u = h)) args s 0 0 (pA E)) h 26 [(0, some (.int v0)), (2, some (.int v2))] [.int t1, .int t0] := by
  unfold fX12_bytesIn_b26 at hf
  refine p_iadd X (dcg dc_X12_bytesIn 17 rfl) ?_
  refine p_istore_n X (dcg dc_X12_bytesIn 18 rfl) rfl (by decide) rfl ?_
  refine p_iinc (v := 8) X (dcg dc_X12_bytesIn 19 rfl) rfl (by decide) (by decide) rfl ?_
  refine p_goto (tgt := 4) X (dcg dc_X12_bytesIn 20 rfl) (by decide) ?_
  refine p_pick [0, 1, 2] ?_
  exact k0 _ (Option.some.inj hf).symm
noncomputable def fX12_bytesIn_c4 (v0 : Int32) (v1 : Int32) (v2 : Int32) : Option ((Int32 × Int32) ⊕ Int32) :=
  if ((32 : Int32) ≤ v2) then (mr (some (v1))) else
  if (¬ ((v0 >>> (v2 &&& 31)) &&& (255 : Int32)) = 0) then (fX12_bytesIn_b26 v0 v2 v1 (1 : Int32)) else
  fX12_bytesIn_b26 v0 v2 v1 (0 : Int32)
set_option maxRecDepth 100000 in
theorem wX12_bytesIn_c4 {E : PE} {p : Program} {l : Launch} {e : Env} {s : State} {m : MethodId} {args : Array Value} {below : List Frame} {meth : Method} {c : Code} (X : Cx E p l e (rmv 0 0 0) s m args below meth c RX12 cX12_bytesIn 3 (some .int)) (hG : Gs E l) (hnm : meth.name = yX12_bytesIn.name) {v0 : Int32} {v1 : Int32} {v2 : Int32} {h : PH} {r : Int32} {x : ((Int32 × Int32) ⊕ Int32)} (hf : fX12_bytesIn_c4 v0 v1 v2 = some x) (k0 : ∀ z : (Int32 × Int32), x = .inl z → PW E p l e (rmv 0 0 0) s m args below meth c 3 0 0 (MQ below (QG E (fun v u => v = some (.int r) ∧ u = h)) args s 0 0 (pA E)) h 4 [(0, some (.int v0)), (1, some (.int (z.1))), (2, some (.int (z.2)))] []) (kf : ∀ z : Int32, x = .inr z → z = r) : PW E p l e (rmv 0 0 0) s m args below meth c 3 0 0 (MQ below (QG E (fun v u => v = some (.int r) ∧ u = h)) args s 0 0 (pA E)) h 4 [(0, some (.int v0)), (1, some (.int v1)), (2, some (.int v2))] [] := by
  unfold fX12_bytesIn_c4 at hf
  refine p_iload_n X (dcg dc_X12_bytesIn 4 rfl) rfl rfl ?_
  refine p_bipush (v := 32) X (dcg dc_X12_bytesIn 5 rfl) (by decide) ?_
  refine p_icmp_ge (tgt := 34) X (dcg dc_X12_bytesIn 6 rfl) (by decide) (fun q => ?_) (fun q => ?_)
  · have hf := if_t q hf
    obtain ⟨y1, hf, hy2⟩ := mr_some hf
    have hy2f := kf y1 hy2
    subst hy2f
    refine p_iload_n X (dcg dc_X12_bytesIn 21 rfl) rfl rfl ?_
    have er := Option.some.inj hf
    subst er
    exact p_iret X rfl (dcg dc_X12_bytesIn 22 rfl) ⟨rfl, rfl⟩ (Nat.le_refl _) (Nat.le_refl _)
  · have hf := if_f q hf
    refine p_iload_n X (dcg dc_X12_bytesIn 7 rfl) rfl rfl ?_
    refine p_iload_n X (dcg dc_X12_bytesIn 8 rfl) rfl rfl ?_
    refine p_iload_n X (dcg dc_X12_bytesIn 9 rfl) rfl rfl ?_
    refine p_ishr X (dcg dc_X12_bytesIn 10 rfl) ?_
    refine p_sipush (v := 255) X (dcg dc_X12_bytesIn 11 rfl) (by decide) ?_
    refine p_iand X (dcg dc_X12_bytesIn 12 rfl) ?_
    refine p_if_ne (tgt := 25) X (dcg dc_X12_bytesIn 13 rfl) (by decide) (fun q => ?_) (fun q => ?_)
    · have hf := if_t q hf
      refine p_iconst (v := 1) X (dcg dc_X12_bytesIn 16 rfl) (by decide) ?_
      refine p_pick [0, 2] ?_
      exact wX12_bytesIn_b26 X hG hnm hf k0 kf
    · have hf := if_f q hf
      refine p_iconst (v := 0) X (dcg dc_X12_bytesIn 14 rfl) (by decide) ?_
      refine p_goto (tgt := 26) X (dcg dc_X12_bytesIn 15 rfl) (by decide) ?_
      refine p_pick [0, 2] ?_
      exact wX12_bytesIn_b26 X hG hnm hf k0 kf
noncomputable def fX12_bytesIn_l4 (v0 : Int32) (v1 : Int32) (v2 : Int32) : Option Int32 := wh (fun z : (Int32 × Int32) => fX12_bytesIn_c4 v0 (z.1) (z.2)) (v1, v2)
set_option maxRecDepth 100000 in
theorem wX12_bytesIn_l4 {E : PE} {p : Program} {l : Launch} {e : Env} {s : State} {m : MethodId} {args : Array Value} {below : List Frame} {meth : Method} {c : Code} (X : Cx E p l e (rmv 0 0 0) s m args below meth c RX12 cX12_bytesIn 3 (some .int)) (hG : Gs E l) (hnm : meth.name = yX12_bytesIn.name) {v0 : Int32} {v1 : Int32} {v2 : Int32} {h : PH} {r : Int32} (hf : fX12_bytesIn_l4 v0 v1 v2 = some r)  : PW E p l e (rmv 0 0 0) s m args below meth c 3 0 0 (MQ below (QG E (fun v u => v = some (.int r) ∧ u = h)) args s 0 0 (pA E)) h 4 [(0, some (.int v0)), (1, some (.int v1)), (2, some (.int v2))] [] := by
  unfold fX12_bytesIn_l4 at hf
  refine wh_ind (P := fun z => PW E p l e (rmv 0 0 0) s m args below meth c 3 0 0 (MQ below (QG E (fun v u => v = some (.int r) ∧ u = h)) args s 0 0 (pA E)) h 4 [(0, some (.int v0)), (1, some (.int (z.1))), (2, some (.int (z.2)))] []) (fun z x0 hs i1 i2 => ?_) _ hf
  exact wX12_bytesIn_c4 (r := r) (v0 := v0) (v1 := z.1) (v2 := z.2) (h := h) X hG hnm hs i1  i2
noncomputable def fX12_bytesIn (v0 : Int32) : Option Int32 :=
  fX12_bytesIn_l4 v0 (0 : Int32) (0 : Int32)
set_option maxRecDepth 100000 in
theorem wX12_bytesIn {E : PE} {l : Launch} (hG : Gs E l) {v0 : Int32} {h : PH} {r : Int32} (hf : fX12_bytesIn v0 = some r) : Ct E l 0 0 0 yX12_bytesIn cX12_bytesIn 3 (some .int) [.int v0] h (fun v u => v = some (.int r) ∧ u = h) := by
  refine ct_of hG (by decide) (Nat.le_of_ble_eq_true rfl) ?_
  intro p e s m args below meth c X hnm
  show PW E p l e _ s m args below meth c _ 0 0 _ h 0 [(0, some (.int v0))] []
  unfold fX12_bytesIn at hf
  refine p_iconst (v := 0) X (dcg dc_X12_bytesIn 0 rfl) (by decide) ?_
  refine p_istore_n X (dcg dc_X12_bytesIn 1 rfl) rfl (by decide) rfl ?_
  refine p_iconst (v := 0) X (dcg dc_X12_bytesIn 2 rfl) (by decide) ?_
  refine p_istore_n X (dcg dc_X12_bytesIn 3 rfl) rfl (by decide) rfl ?_
  refine p_pick [0, 1, 2] ?_
  exact wX12_bytesIn_l4 X hG hnm hf 
theorem dc_X12_takesBytes : decs cX12_takesBytes [(0, .bipush 24, 2), (2, .istore_n 2, 1), (3, .iload_n 2, 1), (4, .ifCond .lt 44, 3), (7, .iload_n 1, 1), (8, .iload_n 2, 1), (9, .ishr, 1), (10, .sipush 255, 3), (13, .iand, 1), (14, .istore_n 3, 1), (15, .iload_n 3, 1), (16, .ifCond .ne 6, 3), (19, .goto 23, 3), (22, .aload_n 0, 1), (23, .getfield 13, 3), (26, .aload_n 0, 1), (27, .getfield 163, 3), (30, .iload_n 3, 1), (31, .iastore, 1), (32, .aload_n 0, 1), (33, .dup, 1), (34, .getfield 163, 3), (37, .iconst 1, 1), (38, .iadd, 1), (39, .putfield 163, 3), (42, .iinc 2 (-8), 3), (45, .goto (-42), 3), (48, .return_, 1)] = true := by decide +kernel
noncomputable def fX12_takesBytes_b42 (v0 : Nat) (v1 : Int32) (v2 : Int32) (h : PH) : Option ((Int32 × PH) ⊕ PH) :=
  some (.inl ((v2 + (-8)), h))
set_option maxRecDepth 100000 in
theorem mX12_takesBytes_b42 {v0 : Nat} {v1 : Int32} {v2 : Int32} {h : PH} {x : ((Int32 × PH) ⊕ PH)} (hf : fX12_takesBytes_b42 v0 v1 v2 h = some x) : (∀ w9 : (Int32 × PH), x = .inl w9 → eqz h (hX (w9.2)) (hV (w9.2))) ∧ (∀ w9 : PH, x = .inr w9 → eqz h (hX w9) (hV w9)) := by
  unfold fX12_takesBytes_b42 at hf
  have hle := eqz_rf h
  have ee := Option.some.inj hf; subst ee
  exact ⟨(fun z e => by have ee := Sum.inl.inj (e); subst ee; exact hle), (fun z e => nomatch e)⟩
set_option maxRecDepth 100000 in
theorem wX12_takesBytes_b42 {E : PE} {p : Program} {l : Launch} {e : Env} {s : State} {m : MethodId} {args : Array Value} {below : List Frame} {meth : Method} {c : Code} (X : Cx E p l e (rmv 0 0 0) s m args below meth c RX12 cX12_takesBytes 4 (none)) (hG : Gs E l) (hnm : meth.name = yX12_takesBytes.name) {v0 : Nat} {v1 : Int32} {v2 : Int32} {h : PH} {r : PH} {x : ((Int32 × PH) ⊕ PH)} (hf : fX12_takesBytes_b42 v0 v1 v2 h = some x) (k0 : ∀ z : (Int32 × PH), x = .inl z → PW E p l e (rmv 0 0 0) s m args below meth c 4 0 0 (MQ below (QG E (fun v u => v = none ∧ u = r)) args s 0 0 (pA E)) (z.2) 3 [(0, some (.ref v0)), (1, some (.int v1)), (2, some (.int (z.1)))] []) (kf : ∀ z : PH, x = .inr z → z = r) : PW E p l e (rmv 0 0 0) s m args below meth c 4 0 0 (MQ below (QG E (fun v u => v = none ∧ u = r)) args s 0 0 (pA E)) h 42 [(0, some (.ref v0)), (1, some (.int v1)), (2, some (.int v2))] [] := by
  unfold fX12_takesBytes_b42 at hf
  refine p_iinc (v := -8) X (dcg dc_X12_takesBytes 25 rfl) rfl (by decide) (by decide) rfl ?_
  refine p_goto (tgt := 3) X (dcg dc_X12_takesBytes 26 rfl) (by decide) ?_
  refine p_pick [0, 1, 2] ?_
  exact k0 _ (Option.some.inj hf).symm
noncomputable def fX12_takesBytes_c3 (v0 : Nat) (v1 : Int32) (v2 : Int32) (h : PH) : Option ((Int32 × PH) ⊕ PH) :=
  if (v2 < 0) then (mr (some (h))) else
  if (¬ ((v1 >>> (v2 &&& 31)) &&& (255 : Int32)) = 0) then (gd (hK h v0 = 12) (gs (hR h 12 v0 1) (fun a4 =>
  gd (hK h a4 = 20 ∧ inb (hI h 12 v0 2) (hN h a4)) (lt (sI h 20 a4 (Int32.toNatClampNeg (hI h 12 v0 2)) ((v1 >>> (v2 &&& 31)) &&& (255 : Int32))) (fun h8 =>
  lt (sI h8 12 v0 2 ((hI h8 12 v0 2) + (1 : Int32))) (fun h9 =>
  fX12_takesBytes_b42 v0 v1 v2 h9)))))) else
  fX12_takesBytes_b42 v0 v1 v2 h
set_option maxRecDepth 100000 in
theorem mX12_takesBytes_c3 {v0 : Nat} {v1 : Int32} {v2 : Int32} {h : PH} {x : ((Int32 × PH) ⊕ PH)} (hf : fX12_takesBytes_c3 v0 v1 v2 h = some x) : (∀ w9 : (Int32 × PH), x = .inl w9 → eqz h (hX (w9.2)) (hV (w9.2))) ∧ (∀ w9 : PH, x = .inr w9 → eqz h (hX w9) (hV w9)) := by
  unfold fX12_takesBytes_c3 at hf
  have hle := eqz_rf h
  rcases ite_or hf with ⟨q, hf⟩ | ⟨q, hf⟩
  · have hf := if_t q hf
    obtain ⟨y1, hfm, rfl⟩ := mr_some hf; have hf := hfm; clear hfm
    have ee := Option.some.inj hf; subst ee
    exact ⟨(fun z e => nomatch e), (fun z e => by have ee := Sum.inr.inj (e); subst ee; exact hle)⟩
  · have hf := if_f q hf
    rcases ite_or hf with ⟨q, hf⟩ | ⟨q, hf⟩
    · have hf := if_t q hf
      obtain ⟨hk3, hf⟩ := gd_some hf
      obtain ⟨a4, e5, hf⟩ := gs_some hf
      obtain ⟨⟨hk7, hb6⟩, hf⟩ := gd_some hf
      obtain ⟨h8, rfl, hf⟩ := lt_some hf
      obtain ⟨h9, rfl, hf⟩ := lt_some hf
      obtain ⟨c0, cf⟩ := mX12_takesBytes_b42 hf
      exact ⟨fun z e => eqz_rt (c0 z (e)) hle, fun z e => eqz_rt (cf z (e)) hle⟩
    · have hf := if_f q hf
      obtain ⟨c0, cf⟩ := mX12_takesBytes_b42 hf
      exact ⟨fun z e => eqz_rt (c0 z (e)) hle, fun z e => eqz_rt (cf z (e)) hle⟩
set_option maxRecDepth 100000 in
theorem wX12_takesBytes_c3 {E : PE} {p : Program} {l : Launch} {e : Env} {s : State} {m : MethodId} {args : Array Value} {below : List Frame} {meth : Method} {c : Code} (X : Cx E p l e (rmv 0 0 0) s m args below meth c RX12 cX12_takesBytes 4 (none)) (hG : Gs E l) (hnm : meth.name = yX12_takesBytes.name) {v0 : Nat} {v1 : Int32} {v2 : Int32} {h : PH} {r : PH} {x : ((Int32 × PH) ⊕ PH)} (hf : fX12_takesBytes_c3 v0 v1 v2 h = some x) (k0 : ∀ z : (Int32 × PH), x = .inl z → PW E p l e (rmv 0 0 0) s m args below meth c 4 0 0 (MQ below (QG E (fun v u => v = none ∧ u = r)) args s 0 0 (pA E)) (z.2) 3 [(0, some (.ref v0)), (1, some (.int v1)), (2, some (.int (z.1)))] []) (kf : ∀ z : PH, x = .inr z → z = r) : PW E p l e (rmv 0 0 0) s m args below meth c 4 0 0 (MQ below (QG E (fun v u => v = none ∧ u = r)) args s 0 0 (pA E)) h 3 [(0, some (.ref v0)), (1, some (.int v1)), (2, some (.int v2))] [] := by
  unfold fX12_takesBytes_c3 at hf
  refine p_iload_n X (dcg dc_X12_takesBytes 2 rfl) rfl rfl ?_
  refine p_if_lt (tgt := 48) X (dcg dc_X12_takesBytes 3 rfl) (by decide) (fun q => ?_) (fun q => ?_)
  · have hf := if_t q hf
    obtain ⟨y1, hf, hy2⟩ := mr_some hf
    have hy2f := kf y1 hy2
    subst hy2f
    have er := Option.some.inj hf
    subst er
    exact p_vret X rfl (dcg dc_X12_takesBytes 27 rfl) ⟨rfl, rfl⟩ (Nat.le_refl _) (Nat.le_refl _)
  · have hf := if_f q hf
    refine p_iload_n X (dcg dc_X12_takesBytes 4 rfl) rfl rfl ?_
    refine p_iload_n X (dcg dc_X12_takesBytes 5 rfl) rfl rfl ?_
    refine p_ishr X (dcg dc_X12_takesBytes 6 rfl) ?_
    refine p_sipush (v := 255) X (dcg dc_X12_takesBytes 7 rfl) (by decide) ?_
    refine p_iand X (dcg dc_X12_takesBytes 8 rfl) ?_
    refine p_istore_n X (dcg dc_X12_takesBytes 9 rfl) rfl (by decide) rfl ?_
    refine p_iload_n X (dcg dc_X12_takesBytes 10 rfl) rfl rfl ?_
    refine p_if_ne (tgt := 22) X (dcg dc_X12_takesBytes 11 rfl) (by decide) (fun q => ?_) (fun q => ?_)
    · have hf := if_t q hf
      refine p_aload_n X (dcg dc_X12_takesBytes 13 rfl) rfl rfl ?_
      obtain ⟨hk3, hf⟩ := gd_some hf
      refine p_getR X fl_X12_13 rfl (by decide) (dcg dc_X12_takesBytes 14 rfl) hk3 ?_
      refine p_aload_n X (dcg dc_X12_takesBytes 15 rfl) rfl rfl ?_
      refine p_getI X fl_X12_163 rfl (by decide) (dcg dc_X12_takesBytes 16 rfl) hk3 ?_
      refine p_iload_n X (dcg dc_X12_takesBytes 17 rfl) rfl rfl ?_
      obtain ⟨a4, e5, hf⟩ := gs_some hf
      first | subst e5 | (try rw [e5])
      obtain ⟨⟨hk7, hb6⟩, hf⟩ := gd_some hf
      refine p_iast X (dcg dc_X12_takesBytes 18 rfl) hk7 (vp_of_inb hb6) ?_
      obtain ⟨h8, rfl, hf⟩ := lt_some hf
      refine p_aload_n X (dcg dc_X12_takesBytes 19 rfl) rfl rfl ?_
      refine p_dup X (dcg dc_X12_takesBytes 20 rfl) rfl ?_
      refine p_getI X fl_X12_163 rfl (by decide) (dcg dc_X12_takesBytes 21 rfl) hk3 ?_
      refine p_iconst (v := 1) X (dcg dc_X12_takesBytes 22 rfl) (by decide) ?_
      refine p_iadd X (dcg dc_X12_takesBytes 23 rfl) ?_
      refine p_putI X fl_X12_163 rfl (by decide) (fun q hq => by cases hq; rfl) rfl rfl (dcg dc_X12_takesBytes 24 rfl) hk3 ?_
      obtain ⟨h9, rfl, hf⟩ := lt_some hf
      refine p_pick [0, 1, 2] ?_
      exact wX12_takesBytes_b42 X hG hnm hf k0 kf
    · have hf := if_f q hf
      refine p_goto (tgt := 42) X (dcg dc_X12_takesBytes 12 rfl) (by decide) ?_
      refine p_pick [0, 1, 2] ?_
      exact wX12_takesBytes_b42 X hG hnm hf k0 kf
noncomputable def fX12_takesBytes_l3 (v0 : Nat) (v1 : Int32) (v2 : Int32) (h : PH) : Option PH := wh (fun z : (Int32 × PH) => fX12_takesBytes_c3 v0 v1 (z.1) (z.2)) (v2, h)
set_option maxRecDepth 100000 in
theorem mX12_takesBytes_l3 {v0 : Nat} {v1 : Int32} {v2 : Int32} {h : PH} {r : PH} (hf : fX12_takesBytes_l3 v0 v1 v2 h = some r) : eqz h (hX r) (hV r) := by
  unfold fX12_takesBytes_l3 at hf
  refine wh_ind (P := fun z => eqz (z.2) (hX r) (hV r)) (fun z x0 hs i1 i2 => ?_) _ hf
  obtain ⟨c0, cf⟩ := mX12_takesBytes_c3 (v0 := v0) (v1 := v1) (v2 := z.1) (h := z.2) hs
  rcases hxx : x0 with zz | zz
  · exact eqz_tr (c0 zz hxx) (i1 zz hxx)
  · have ee := i2 zz hxx; subst ee; exact cf zz hxx
set_option maxRecDepth 100000 in
theorem wX12_takesBytes_l3 {E : PE} {p : Program} {l : Launch} {e : Env} {s : State} {m : MethodId} {args : Array Value} {below : List Frame} {meth : Method} {c : Code} (X : Cx E p l e (rmv 0 0 0) s m args below meth c RX12 cX12_takesBytes 4 (none)) (hG : Gs E l) (hnm : meth.name = yX12_takesBytes.name) {v0 : Nat} {v1 : Int32} {v2 : Int32} {h : PH} {r : PH} (hf : fX12_takesBytes_l3 v0 v1 v2 h = some r)  : PW E p l e (rmv 0 0 0) s m args below meth c 4 0 0 (MQ below (QG E (fun v u => v = none ∧ u = r)) args s 0 0 (pA E)) h 3 [(0, some (.ref v0)), (1, some (.int v1)), (2, some (.int v2))] [] := by
  unfold fX12_takesBytes_l3 at hf
  refine wh_ind (P := fun z => PW E p l e (rmv 0 0 0) s m args below meth c 4 0 0 (MQ below (QG E (fun v u => v = none ∧ u = r)) args s 0 0 (pA E)) (z.2) 3 [(0, some (.ref v0)), (1, some (.int v1)), (2, some (.int (z.1)))] []) (fun z x0 hs i1 i2 => ?_) _ hf
  exact wX12_takesBytes_c3 (r := r) (v0 := v0) (v1 := v1) (v2 := z.1) (h := z.2) X hG hnm hs i1  i2
noncomputable def fX12_takesBytes (v0 : Nat) (v1 : Int32) (h : PH) : Option PH :=
  fX12_takesBytes_l3 v0 v1 (24 : Int32) h
set_option maxRecDepth 100000 in
theorem mX12_takesBytes {v0 : Nat} {v1 : Int32} {h : PH} {r : PH} (hf : fX12_takesBytes v0 v1 h = some r) : eqz h (hX r) (hV r) := by
  unfold fX12_takesBytes at hf
  have hle := eqz_rf h
  exact eqz_rt (mX12_takesBytes_l3 hf) hle
set_option maxRecDepth 100000 in
theorem wX12_takesBytes {E : PE} {l : Launch} (hG : Gs E l) {v0 : Nat} {v1 : Int32} {h : PH} {r : PH} (hf : fX12_takesBytes v0 v1 h = some r) : Ct E l 0 0 0 yX12_takesBytes cX12_takesBytes 4 (none) [.ref v0, .int v1] h (fun v u => v = none ∧ u = r) := by
  refine ct_of hG (by decide) (Nat.le_of_ble_eq_true rfl) ?_
  intro p e s m args below meth c X hnm
  show PW E p l e _ s m args below meth c _ 0 0 _ h 0 [(0, some (.ref v0)), (1, some (.int v1))] []
  unfold fX12_takesBytes at hf
  refine p_bipush (v := 24) X (dcg dc_X12_takesBytes 0 rfl) (by decide) ?_
  refine p_istore_n X (dcg dc_X12_takesBytes 1 rfl) rfl (by decide) rfl ?_
  refine p_pick [0, 1, 2] ?_
  exact wX12_takesBytes_l3 X hG hnm hf 
theorem dc_X12_append : decs cX12_append [(0, .aload_n 0, 1), (1, .iconst 0, 1), (2, .putfield 1, 3), (5, .iload_n 1, 1), (6, .invokestatic 166, 3), (9, .iload_n 2, 1), (10, .invokestatic 166, 3), (13, .iadd, 1), (14, .iload_n 3, 1), (15, .invokestatic 166, 3), (18, .iadd, 1), (19, .iload 4, 2), (21, .invokestatic 166, 3), (24, .iadd, 1), (25, .iload 5, 2), (27, .invokestatic 166, 3), (30, .iadd, 1), (31, .istore 6, 2), (33, .aload_n 0, 1), (34, .aload_n 0, 1), (35, .getfield 163, 3), (38, .iload 6, 2), (40, .iadd, 1), (41, .sipush 300, 3), (44, .if_icmp .gt 7, 3), (47, .iconst 1, 1), (48, .goto 4, 3), (51, .iconst 0, 1), (52, .iconst 1, 1), (53, .invokevirtual 156, 3), (56, .ifCond .eq 5, 3), (59, .iconst 0, 1), (60, .ireturn, 1), (61, .aload_n 0, 1), (62, .iload_n 1, 1), (63, .invokevirtual 169, 3), (66, .aload_n 0, 1), (67, .iload_n 2, 1), (68, .invokevirtual 169, 3), (71, .aload_n 0, 1), (72, .iload_n 3, 1), (73, .invokevirtual 169, 3), (76, .aload_n 0, 1), (77, .iload 4, 2), (79, .invokevirtual 169, 3), (82, .aload_n 0, 1), (83, .iload 5, 2), (85, .invokevirtual 169, 3), (88, .aload_n 0, 1), (89, .getfield 163, 3), (92, .ireturn, 1)] = true := by decide +kernel
noncomputable def fX12_append_b52 (v0 : Nat) (v1 : Int32) (v2 : Int32) (v3 : Int32) (v4 : Int32) (v5 : Int32) (t0 : Option Nat) (t1 : Int32) (h : PH) : Option (Int32 × PH) :=
  gs t0 (fun a8 =>
  gd (hK h a8 = 12) (bd (fX12_fails a8 t1 (1 : Int32) h) (fun z11 =>
  if (z11.1 = 0) then (gd (hK z11.2 v0 = 12) (bd (fX12_takesBytes v0 v1 z11.2) (fun z13 =>
  gd (hK z13 v0 = 12) (bd (fX12_takesBytes v0 v2 z13) (fun z15 =>
  gd (hK z15 v0 = 12) (bd (fX12_takesBytes v0 v3 z15) (fun z17 =>
  gd (hK z17 v0 = 12) (bd (fX12_takesBytes v0 v4 z17) (fun z19 =>
  gd (hK z19 v0 = 12) (bd (fX12_takesBytes v0 v5 z19) (fun z21 =>
  gd (hK z21 v0 = 12) (some (((hI z21 12 v0 2), z21)))))))))))))) else
  some (((0 : Int32), z11.2)))))
set_option maxRecDepth 100000 in
theorem mX12_append_b52 {v0 : Nat} {v1 : Int32} {v2 : Int32} {v3 : Int32} {v4 : Int32} {v5 : Int32} {t0 : Option Nat} {t1 : Int32} {h : PH} {r : (Int32 × PH)} (hf : fX12_append_b52 v0 v1 v2 v3 v4 v5 t0 t1 h = some r) : eqz h (hX r.2) (hV r.2) := by
  unfold fX12_append_b52 at hf
  have hle := eqz_rf h
  obtain ⟨a8, e9, hf⟩ := gs_some hf
  obtain ⟨hk10, hf⟩ := gd_some hf
  obtain ⟨z11, hz11, hf⟩ := bd_some hf
  have hle := eqz_rt (mX12_fails hz11) hle
  rcases ite_or hf with ⟨q, hf⟩ | ⟨q, hf⟩
  · have hf := if_t q hf
    obtain ⟨hk12, hf⟩ := gd_some hf
    obtain ⟨z13, hz13, hf⟩ := bd_some hf
    have hle := eqz_rt (mX12_takesBytes hz13) hle
    obtain ⟨hk14, hf⟩ := gd_some hf
    obtain ⟨z15, hz15, hf⟩ := bd_some hf
    have hle := eqz_rt (mX12_takesBytes hz15) hle
    obtain ⟨hk16, hf⟩ := gd_some hf
    obtain ⟨z17, hz17, hf⟩ := bd_some hf
    have hle := eqz_rt (mX12_takesBytes hz17) hle
    obtain ⟨hk18, hf⟩ := gd_some hf
    obtain ⟨z19, hz19, hf⟩ := bd_some hf
    have hle := eqz_rt (mX12_takesBytes hz19) hle
    obtain ⟨hk20, hf⟩ := gd_some hf
    obtain ⟨z21, hz21, hf⟩ := bd_some hf
    have hle := eqz_rt (mX12_takesBytes hz21) hle
    obtain ⟨hk22, hf⟩ := gd_some hf
    have ee := Option.some.inj hf; subst ee; exact hle
  · have hf := if_f q hf
    have ee := Option.some.inj hf; subst ee; exact hle
set_option maxRecDepth 100000 in
theorem wX12_append_b52 {E : PE} {p : Program} {l : Launch} {e : Env} {s : State} {m : MethodId} {args : Array Value} {below : List Frame} {meth : Method} {c : Code} (X : Cx E p l e (rmv 1 0 0) s m args below meth c RX12 cX12_append 7 (some .int)) (hG : Gs E l) (hnm : meth.name = yX12_append.name) {v0 : Nat} {v1 : Int32} {v2 : Int32} {v3 : Int32} {v4 : Int32} {v5 : Int32} {t0 : Option Nat} {t1 : Int32} {h : PH} {r : (Int32 × PH)} (hf : fX12_append_b52 v0 v1 v2 v3 v4 v5 t0 t1 h = some r)  : PW E p l e (rmv 1 0 0) s m args below meth c 7 0 0 (MQ below (QG E (fun v u => v = some (.int r.1) ∧ u = r.2)) args s 0 0 (pA E)) h 52 [(0, some (.ref v0)), (1, some (.int v1)), (2, some (.int v2)), (3, some (.int v3)), (4, some (.int v4)), (5, some (.int v5))] [.int t1, va_rf t0] := by
  unfold fX12_append_b52 at hf
  refine p_iconst (v := 1) X (dcg dc_X12_append 28 rfl) (by decide) ?_
  obtain ⟨a8, e9, hf⟩ := gs_some hf
  first | subst e9 | (try rw [e9])
  obtain ⟨hk10, hf⟩ := gd_some hf
  obtain ⟨z11, hz11, hf⟩ := bd_some hf
  refine p_callV (As := [_, _]) X ml_X12_156 (dcg dc_X12_append 29 rfl) rfl rfl hk10 (wX12_fails hG hz11) (by decide) (room4 (Nat.le_of_ble_eq_true rfl)) (Nat.le_refl _) (Nat.le_refl _) ?_
  rintro _ u9 ⟨rfl, e9⟩; have e9 := e9.symm; subst e9
  refine p_if_eq (tgt := 61) X (dcg dc_X12_append 30 rfl) (by decide) (fun q => ?_) (fun q => ?_)
  · have hf := if_t q hf
    refine p_aload_n X (dcg dc_X12_append 33 rfl) rfl rfl ?_
    refine p_iload_n X (dcg dc_X12_append 34 rfl) rfl rfl ?_
    obtain ⟨hk12, hf⟩ := gd_some hf
    obtain ⟨z13, hz13, hf⟩ := bd_some hf
    refine p_callV (As := [_]) X ml_X12_169 (dcg dc_X12_append 35 rfl) rfl rfl hk12 (wX12_takesBytes hG hz13) (by decide) (room4 (Nat.le_of_ble_eq_true rfl)) (Nat.le_refl _) (Nat.le_refl _) ?_
    rintro _ u9 ⟨rfl, e9⟩; have e9 := e9.symm; subst e9
    refine p_aload_n X (dcg dc_X12_append 36 rfl) rfl rfl ?_
    refine p_iload_n X (dcg dc_X12_append 37 rfl) rfl rfl ?_
    obtain ⟨hk14, hf⟩ := gd_some hf
    obtain ⟨z15, hz15, hf⟩ := bd_some hf
    refine p_callV (As := [_]) X ml_X12_169 (dcg dc_X12_append 38 rfl) rfl rfl hk14 (wX12_takesBytes hG hz15) (by decide) (room4 (Nat.le_of_ble_eq_true rfl)) (Nat.le_refl _) (Nat.le_refl _) ?_
    rintro _ u9 ⟨rfl, e9⟩; have e9 := e9.symm; subst e9
    refine p_aload_n X (dcg dc_X12_append 39 rfl) rfl rfl ?_
    refine p_iload_n X (dcg dc_X12_append 40 rfl) rfl rfl ?_
    obtain ⟨hk16, hf⟩ := gd_some hf
    obtain ⟨z17, hz17, hf⟩ := bd_some hf
    refine p_callV (As := [_]) X ml_X12_169 (dcg dc_X12_append 41 rfl) rfl rfl hk16 (wX12_takesBytes hG hz17) (by decide) (room4 (Nat.le_of_ble_eq_true rfl)) (Nat.le_refl _) (Nat.le_refl _) ?_
    rintro _ u9 ⟨rfl, e9⟩; have e9 := e9.symm; subst e9
    refine p_aload_n X (dcg dc_X12_append 42 rfl) rfl rfl ?_
    refine p_iload X (dcg dc_X12_append 43 rfl) rfl ?_
    obtain ⟨hk18, hf⟩ := gd_some hf
    obtain ⟨z19, hz19, hf⟩ := bd_some hf
    refine p_callV (As := [_]) X ml_X12_169 (dcg dc_X12_append 44 rfl) rfl rfl hk18 (wX12_takesBytes hG hz19) (by decide) (room4 (Nat.le_of_ble_eq_true rfl)) (Nat.le_refl _) (Nat.le_refl _) ?_
    rintro _ u9 ⟨rfl, e9⟩; have e9 := e9.symm; subst e9
    refine p_aload_n X (dcg dc_X12_append 45 rfl) rfl rfl ?_
    refine p_iload X (dcg dc_X12_append 46 rfl) rfl ?_
    obtain ⟨hk20, hf⟩ := gd_some hf
    obtain ⟨z21, hz21, hf⟩ := bd_some hf
    refine p_callV (As := [_]) X ml_X12_169 (dcg dc_X12_append 47 rfl) rfl rfl hk20 (wX12_takesBytes hG hz21) (by decide) (room4 (Nat.le_of_ble_eq_true rfl)) (Nat.le_refl _) (Nat.le_refl _) ?_
    rintro _ u9 ⟨rfl, e9⟩; have e9 := e9.symm; subst e9
    refine p_aload_n X (dcg dc_X12_append 48 rfl) rfl rfl ?_
    obtain ⟨hk22, hf⟩ := gd_some hf
    refine p_getI X fl_X12_163 rfl (by decide) (dcg dc_X12_append 49 rfl) hk22 ?_
    have er := Option.some.inj hf
    subst er
    exact p_iret X rfl (dcg dc_X12_append 50 rfl) ⟨rfl, rfl⟩ (Nat.le_refl _) (Nat.le_refl _)
  · have hf := if_f q hf
    refine p_iconst (v := 0) X (dcg dc_X12_append 31 rfl) (by decide) ?_
    have er := Option.some.inj hf
    subst er
    exact p_iret X rfl (dcg dc_X12_append 32 rfl) ⟨rfl, rfl⟩ (Nat.le_refl _) (Nat.le_refl _)
noncomputable def fX12_append (v0 : Nat) (v1 : Int32) (v2 : Int32) (v3 : Int32) (v4 : Int32) (v5 : Int32) (h : PH) : Option (Int32 × PH) :=
  gd (hK h v0 = 12) (lt (sI h 12 v0 0 (0 : Int32)) (fun h2 =>
  bd (fX12_bytesIn v1) (fun z3 =>
  bd (fX12_bytesIn v2) (fun z4 =>
  bd (fX12_bytesIn v3) (fun z5 =>
  bd (fX12_bytesIn v4) (fun z6 =>
  bd (fX12_bytesIn v5) (fun z7 =>
  if ((300 : Int32) < ((hI h2 12 v0 2) + ((((z3 + z4) + z5) + z6) + z7))) then (fX12_append_b52 v0 v1 v2 v3 v4 v5 (some v0) (0 : Int32) h2) else
  fX12_append_b52 v0 v1 v2 v3 v4 v5 (some v0) (1 : Int32) h2)))))))
set_option maxRecDepth 100000 in
theorem mX12_append {v0 : Nat} {v1 : Int32} {v2 : Int32} {v3 : Int32} {v4 : Int32} {v5 : Int32} {h : PH} {r : (Int32 × PH)} (hf : fX12_append v0 v1 v2 v3 v4 v5 h = some r) : eqz h (hX r.2) (hV r.2) := by
  unfold fX12_append at hf
  have hle := eqz_rf h
  obtain ⟨hk1, hf⟩ := gd_some hf
  obtain ⟨h2, rfl, hf⟩ := lt_some hf
  obtain ⟨z3, hz3, hf⟩ := bd_some hf
  obtain ⟨z4, hz4, hf⟩ := bd_some hf
  obtain ⟨z5, hz5, hf⟩ := bd_some hf
  obtain ⟨z6, hz6, hf⟩ := bd_some hf
  obtain ⟨z7, hz7, hf⟩ := bd_some hf
  rcases ite_or hf with ⟨q, hf⟩ | ⟨q, hf⟩
  · have hf := if_t q hf
    exact eqz_rt (mX12_append_b52 hf) hle
  · have hf := if_f q hf
    exact eqz_rt (mX12_append_b52 hf) hle
set_option maxRecDepth 100000 in
theorem wX12_append {E : PE} {l : Launch} (hG : Gs E l) {v0 : Nat} {v1 : Int32} {v2 : Int32} {v3 : Int32} {v4 : Int32} {v5 : Int32} {h : PH} {r : (Int32 × PH)} (hf : fX12_append v0 v1 v2 v3 v4 v5 h = some r) : Ct E l 1 0 0 yX12_append cX12_append 7 (some .int) [.ref v0, .int v1, .int v2, .int v3, .int v4, .int v5] h (fun v u => v = some (.int r.1) ∧ u = r.2) := by
  refine ct_of hG (by decide) (Nat.le_of_ble_eq_true rfl) ?_
  intro p e s m args below meth c X hnm
  show PW E p l e _ s m args below meth c _ 0 0 _ h 0 [(0, some (.ref v0)), (1, some (.int v1)), (2, some (.int v2)), (3, some (.int v3)), (4, some (.int v4)), (5, some (.int v5))] []
  unfold fX12_append at hf
  refine p_aload_n X (dcg dc_X12_append 0 rfl) rfl rfl ?_
  refine p_iconst (v := 0) X (dcg dc_X12_append 1 rfl) (by decide) ?_
  obtain ⟨hk1, hf⟩ := gd_some hf
  refine p_putI X fl_X12_1 rfl (by decide) (fun q hq => by cases hq; rfl) rfl rfl (dcg dc_X12_append 2 rfl) hk1 ?_
  obtain ⟨h2, rfl, hf⟩ := lt_some hf
  refine p_iload_n X (dcg dc_X12_append 3 rfl) rfl rfl ?_
  obtain ⟨z3, hz3, hf⟩ := bd_some hf
  refine p_callS (As := [_]) X ml_X12_166 (dcg dc_X12_append 4 rfl) rfl rfl  (wX12_bytesIn hG hz3) (by decide) (room4 (Nat.le_of_ble_eq_true rfl)) (Nat.le_refl _) (Nat.le_refl _) ?_
  rintro _ u9 ⟨rfl, e9⟩; have e9 := e9.symm; subst e9
  refine p_iload_n X (dcg dc_X12_append 5 rfl) rfl rfl ?_
  obtain ⟨z4, hz4, hf⟩ := bd_some hf
  refine p_callS (As := [_]) X ml_X12_166 (dcg dc_X12_append 6 rfl) rfl rfl  (wX12_bytesIn hG hz4) (by decide) (room4 (Nat.le_of_ble_eq_true rfl)) (Nat.le_refl _) (Nat.le_refl _) ?_
  rintro _ u9 ⟨rfl, e9⟩; have e9 := e9.symm; subst e9
  refine p_iadd X (dcg dc_X12_append 7 rfl) ?_
  refine p_iload_n X (dcg dc_X12_append 8 rfl) rfl rfl ?_
  obtain ⟨z5, hz5, hf⟩ := bd_some hf
  refine p_callS (As := [_]) X ml_X12_166 (dcg dc_X12_append 9 rfl) rfl rfl  (wX12_bytesIn hG hz5) (by decide) (room4 (Nat.le_of_ble_eq_true rfl)) (Nat.le_refl _) (Nat.le_refl _) ?_
  rintro _ u9 ⟨rfl, e9⟩; have e9 := e9.symm; subst e9
  refine p_iadd X (dcg dc_X12_append 10 rfl) ?_
  refine p_iload X (dcg dc_X12_append 11 rfl) rfl ?_
  obtain ⟨z6, hz6, hf⟩ := bd_some hf
  refine p_callS (As := [_]) X ml_X12_166 (dcg dc_X12_append 12 rfl) rfl rfl  (wX12_bytesIn hG hz6) (by decide) (room4 (Nat.le_of_ble_eq_true rfl)) (Nat.le_refl _) (Nat.le_refl _) ?_
  rintro _ u9 ⟨rfl, e9⟩; have e9 := e9.symm; subst e9
  refine p_iadd X (dcg dc_X12_append 13 rfl) ?_
  refine p_iload X (dcg dc_X12_append 14 rfl) rfl ?_
  obtain ⟨z7, hz7, hf⟩ := bd_some hf
  refine p_callS (As := [_]) X ml_X12_166 (dcg dc_X12_append 15 rfl) rfl rfl  (wX12_bytesIn hG hz7) (by decide) (room4 (Nat.le_of_ble_eq_true rfl)) (Nat.le_refl _) (Nat.le_refl _) ?_
  rintro _ u9 ⟨rfl, e9⟩; have e9 := e9.symm; subst e9
  refine p_iadd X (dcg dc_X12_append 16 rfl) ?_
  refine p_istore X (dcg dc_X12_append 17 rfl) (by decide) rfl ?_
  refine p_aload_n X (dcg dc_X12_append 18 rfl) rfl rfl ?_
  refine p_aload_n X (dcg dc_X12_append 19 rfl) rfl rfl ?_
  refine p_getI X fl_X12_163 rfl (by decide) (dcg dc_X12_append 20 rfl) hk1 ?_
  refine p_iload X (dcg dc_X12_append 21 rfl) rfl ?_
  refine p_iadd X (dcg dc_X12_append 22 rfl) ?_
  refine p_sipush (v := 300) X (dcg dc_X12_append 23 rfl) (by decide) ?_
  refine p_icmp_gt (tgt := 51) X (dcg dc_X12_append 24 rfl) (by decide) (fun q => ?_) (fun q => ?_)
  · have hf := if_t q hf
    refine p_iconst (v := 0) X (dcg dc_X12_append 27 rfl) (by decide) ?_
    refine p_pick [0, 1, 2, 3, 4, 5] ?_
    exact wX12_append_b52 X hG hnm hf 
  · have hf := if_f q hf
    refine p_iconst (v := 1) X (dcg dc_X12_append 25 rfl) (by decide) ?_
    refine p_goto (tgt := 52) X (dcg dc_X12_append 26 rfl) (by decide) ?_
    refine p_pick [0, 1, 2, 3, 4, 5] ?_
    exact wX12_append_b52 X hG hnm hf 
theorem dc_X12_clearTape : decs cX12_clearTape [(0, .aload_n 0, 1), (1, .iconst 0, 1), (2, .putfield 1, 3), (5, .aload_n 0, 1), (6, .getfield 163, 3), (9, .istore_n 1, 1), (10, .aload_n 0, 1), (11, .iconst 0, 1), (12, .putfield 163, 3), (15, .iload_n 1, 1), (16, .ireturn, 1)] = true := by decide +kernel
noncomputable def fX12_clearTape (v0 : Nat) (h : PH) : Option (Int32 × PH) :=
  gd (hK h v0 = 12) (lt (sI h 12 v0 0 (0 : Int32)) (fun h2 =>
  lt (sI h2 12 v0 2 (0 : Int32)) (fun h3 =>
  some (((hI h2 12 v0 2), h3)))))
set_option maxRecDepth 100000 in
theorem mX12_clearTape {v0 : Nat} {h : PH} {r : (Int32 × PH)} (hf : fX12_clearTape v0 h = some r) : eqz h (hX r.2) (hV r.2) := by
  unfold fX12_clearTape at hf
  have hle := eqz_rf h
  obtain ⟨hk1, hf⟩ := gd_some hf
  obtain ⟨h2, rfl, hf⟩ := lt_some hf
  obtain ⟨h3, rfl, hf⟩ := lt_some hf
  have ee := Option.some.inj hf; subst ee; exact hle
set_option maxRecDepth 100000 in
theorem wX12_clearTape {E : PE} {l : Launch} (hG : Gs E l) {v0 : Nat} {h : PH} {r : (Int32 × PH)} (hf : fX12_clearTape v0 h = some r) : Ct E l 0 0 0 yX12_clearTape cX12_clearTape 2 (some .int) [.ref v0] h (fun v u => v = some (.int r.1) ∧ u = r.2) := by
  refine ct_of hG (by decide) (Nat.le_of_ble_eq_true rfl) ?_
  intro p e s m args below meth c X hnm
  show PW E p l e _ s m args below meth c _ 0 0 _ h 0 [(0, some (.ref v0))] []
  unfold fX12_clearTape at hf
  refine p_aload_n X (dcg dc_X12_clearTape 0 rfl) rfl rfl ?_
  refine p_iconst (v := 0) X (dcg dc_X12_clearTape 1 rfl) (by decide) ?_
  obtain ⟨hk1, hf⟩ := gd_some hf
  refine p_putI X fl_X12_1 rfl (by decide) (fun q hq => by cases hq; rfl) rfl rfl (dcg dc_X12_clearTape 2 rfl) hk1 ?_
  obtain ⟨h2, rfl, hf⟩ := lt_some hf
  refine p_aload_n X (dcg dc_X12_clearTape 3 rfl) rfl rfl ?_
  refine p_getI X fl_X12_163 rfl (by decide) (dcg dc_X12_clearTape 4 rfl) hk1 ?_
  refine p_istore_n X (dcg dc_X12_clearTape 5 rfl) rfl (by decide) rfl ?_
  refine p_aload_n X (dcg dc_X12_clearTape 6 rfl) rfl rfl ?_
  refine p_iconst (v := 0) X (dcg dc_X12_clearTape 7 rfl) (by decide) ?_
  refine p_putI X fl_X12_163 rfl (by decide) (fun q hq => by cases hq; rfl) rfl rfl (dcg dc_X12_clearTape 8 rfl) hk1 ?_
  obtain ⟨h3, rfl, hf⟩ := lt_some hf
  refine p_iload_n X (dcg dc_X12_clearTape 9 rfl) rfl rfl ?_
  have er := Option.some.inj hf
  subst er
  exact p_iret X rfl (dcg dc_X12_clearTape 10 rfl) ⟨rfl, rfl⟩ (Nat.le_refl _) (Nat.le_refl _)
