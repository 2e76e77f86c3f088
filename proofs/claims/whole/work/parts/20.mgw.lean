/-! methods of the program (by program: wip/whole/gen2.py) -/
theorem dc_X12_isSignNow : decs cX12_isSignNow [(0, .aload_n 0, 1), (1, .getfield 264, 3), (4, .iconst 1, 1), (5, .if_icmp .ne 15, 3), (8, .aload_n 0, 1), (9, .getfield 258, 3), (12, .iload_n 1, 1), (13, .if_icmp .ne 7, 3), (16, .iconst 1, 1), (17, .goto 4, 3), (20, .iconst 0, 1), (21, .ireturn, 1)] = true := by decide +kernel
noncomputable def fX12_isSignNow_b21 (t0 : Int32) (h : PH) : Option Int32 :=
  gd (t0 &&& 1 = t0) (some (t0))
set_option maxRecDepth 100000 in
theorem wX12_isSignNow_b21 {E : PE} {p : Program} {l : Launch} {e : Env} {s : State} {m : MethodId} {args : Array Value} {below : List Frame} {meth : Method} {c : Code} (X : Cx E p l e (rmv 0 0 0) s m args below meth c RX12 cX12_isSignNow 2 (some .boolean)) (hG : Gs E l) (hnm : meth.name = yX12_isSignNow.name) {t0 : Int32} {h : PH} {r : Int32} (hf : fX12_isSignNow_b21 t0 h = some r)  : PW E p l e (rmv 0 0 0) s m args below meth c 2 0 0 (MQ below (QG E (fun v u => v = some (.int r) ∧ u = h)) args s 0 0 (pA E)) h 21 [] [.int t0] := by
  unfold fX12_isSignNow_b21 at hf
  obtain ⟨hg2, hf⟩ := gd_some hf
  have er := Option.some.inj hf
  subst er
  exact p_zret X rfl (congrArg Value.int hg2) (dcg dc_X12_isSignNow 11 rfl) ⟨rfl, rfl⟩ (Nat.le_refl _) (Nat.le_refl _)
noncomputable def fX12_isSignNow_b20  (h : PH) : Option Int32 :=
  fX12_isSignNow_b21 (0 : Int32) h
set_option maxRecDepth 100000 in
theorem wX12_isSignNow_b20 {E : PE} {p : Program} {l : Launch} {e : Env} {s : State} {m : MethodId} {args : Array Value} {below : List Frame} {meth : Method} {c : Code} (X : Cx E p l e (rmv 0 0 0) s m args below meth c RX12 cX12_isSignNow 2 (some .boolean)) (hG : Gs E l) (hnm : meth.name = yX12_isSignNow.name)  {h : PH} {r : Int32} (hf : fX12_isSignNow_b20  h = some r)  : PW E p l e (rmv 0 0 0) s m args below meth c 2 0 0 (MQ below (QG E (fun v u => v = some (.int r) ∧ u = h)) args s 0 0 (pA E)) h 20 [] [] := by
  unfold fX12_isSignNow_b20 at hf
  refine p_iconst (v := 0) X (dcg dc_X12_isSignNow 10 rfl) (by decide) ?_
  refine p_pick [] ?_
  exact wX12_isSignNow_b21 X hG hnm hf 
noncomputable def fX12_isSignNow (v0 : Nat) (v1 : Int32) (h : PH) : Option Int32 :=
  gd (hK h v0 = 12) (if (¬ (hI h 12 v0 21) = (1 : Int32)) then (fX12_isSignNow_b20  h) else
  if (¬ (hI h 12 v0 23) = v1) then (fX12_isSignNow_b20  h) else
  fX12_isSignNow_b21 (1 : Int32) h)
set_option maxRecDepth 100000 in
theorem wX12_isSignNow {E : PE} {l : Launch} (hG : Gs E l) {v0 : Nat} {v1 : Int32} {h : PH} {r : Int32} (hf : fX12_isSignNow v0 v1 h = some r) : Ct E l 0 0 0 yX12_isSignNow cX12_isSignNow 2 (some .boolean) [.ref v0, .int v1] h (fun v u => v = some (.int r) ∧ u = h) := by
  refine ct_of hG (by decide) (Nat.le_of_ble_eq_true rfl) ?_
  intro p e s m args below meth c X hnm
  show PW E p l e _ s m args below meth c _ 0 0 _ h 0 [(0, some (.ref v0)), (1, some (.int v1))] []
  unfold fX12_isSignNow at hf
  refine p_aload_n X (dcg dc_X12_isSignNow 0 rfl) rfl rfl ?_
  obtain ⟨hk1, hf⟩ := gd_some hf
  refine p_getI X fl_X12_264 rfl (by decide) (dcg dc_X12_isSignNow 1 rfl) hk1 ?_
  refine p_iconst (v := 1) X (dcg dc_X12_isSignNow 2 rfl) (by decide) ?_
  refine p_icmp_ne (tgt := 20) X (dcg dc_X12_isSignNow 3 rfl) (by decide) (fun q => ?_) (fun q => ?_)
  · have hf := if_t q hf
    refine p_pick [] ?_
    exact wX12_isSignNow_b20 X hG hnm hf 
  · have hf := if_f q hf
    refine p_aload_n X (dcg dc_X12_isSignNow 4 rfl) rfl rfl ?_
    refine p_getI X fl_X12_258 rfl (by decide) (dcg dc_X12_isSignNow 5 rfl) hk1 ?_
    refine p_iload_n X (dcg dc_X12_isSignNow 6 rfl) rfl rfl ?_
    refine p_icmp_ne (tgt := 20) X (dcg dc_X12_isSignNow 7 rfl) (by decide) (fun q => ?_) (fun q => ?_)
    · have hf := if_t q hf
      refine p_pick [] ?_
      exact wX12_isSignNow_b20 X hG hnm hf 
    · have hf := if_f q hf
      refine p_iconst (v := 1) X (dcg dc_X12_isSignNow 8 rfl) (by decide) ?_
      refine p_goto (tgt := 21) X (dcg dc_X12_isSignNow 9 rfl) (by decide) ?_
      refine p_pick [] ?_
      exact wX12_isSignNow_b21 X hG hnm hf 
theorem dc_X12_makes : decs cX12_makes [(0, .aload_n 0, 1), (1, .getfield 81, 3), (4, .iload_n 1, 1), (5, .iaload, 1), (6, .istore 5, 2), (8, .aload_n 0, 1), (9, .getfield 81, 3), (12, .iload_n 1, 1), (13, .dup2, 1), (14, .iaload, 1), (15, .iconst 1, 1), (16, .iadd, 1), (17, .iastore, 1), (18, .aload_n 0, 1), (19, .getfield 60, 3), (22, .sipush 400, 3), (25, .iload_n 1, 1), (26, .imul, 1), (27, .iload 5, 2), (29, .iadd, 1), (30, .iload_n 2, 1), (31, .iastore, 1), (32, .aload_n 0, 1), (33, .getfield 63, 3), (36, .sipush 400, 3), (39, .iload_n 1, 1), (40, .imul, 1), (41, .iload 5, 2), (43, .iadd, 1), (44, .iload_n 3, 1), (45, .iastore, 1), (46, .aload_n 0, 1), (47, .getfield 66, 3), (50, .sipush 400, 3), (53, .iload_n 1, 1), (54, .imul, 1), (55, .iload 5, 2), (57, .iadd, 1), (58, .iload 4, 2), (60, .iastore, 1), (61, .aload_n 0, 1), (62, .getfield 69, 3), (65, .sipush 400, 3), (68, .iload_n 1, 1), (69, .imul, 1), (70, .iload 5, 2), (72, .iadd, 1), (73, .iconst 0, 1), (74, .iastore, 1), (75, .aload_n 0, 1), (76, .getfield 72, 3), (79, .sipush 400, 3), (82, .iload_n 1, 1), (83, .imul, 1), (84, .iload 5, 2), (86, .iadd, 1), (87, .iconst (-1), 1), (88, .iastore, 1), (89, .aload_n 0, 1), (90, .getfield 75, 3), (93, .sipush 400, 3), (96, .iload_n 1, 1), (97, .imul, 1), (98, .iload 5, 2), (100, .iadd, 1), (101, .iconst (-1), 1), (102, .iastore, 1), (103, .iload 5, 2), (105, .ireturn, 1)] = true := by decide +kernel
noncomputable def fX12_makes (v0 : Nat) (v1 : Int32) (v2 : Int32) (v3 : Int32) (v4 : Int32) (h : PH) : Option (Int32 × PH) :=
  gd (hK h v0 = 12) (gs (hR h 12 v0 32) (fun a2 =>
  gd (hK h a2 = 20 ∧ inb v1 (hN h a2)) (gs (hR h 12 v0 32) (fun a6 =>
  gd (hK h a6 = 20 ∧ inb v1 (hN h a6)) (gd (inb v1 (hN h a6)) (lt (sI h 20 a6 (Int32.toNatClampNeg v1) ((hI h 20 a6 (Int32.toNatClampNeg v1)) + (1 : Int32))) (fun h11 =>
  gs (hR h11 12 v0 25) (fun a12 =>
  gd (hK h11 a12 = 20 ∧ inb (((400 : Int32) * v1) + (hI h 20 a2 (Int32.toNatClampNeg v1))) (hN h11 a12)) (lt (sI h11 20 a12 (Int32.toNatClampNeg (((400 : Int32) * v1) + (hI h 20 a2 (Int32.toNatClampNeg v1)))) v2) (fun h16 =>
  gs (hR h16 12 v0 26) (fun a17 =>
  gd (hK h16 a17 = 20 ∧ inb (((400 : Int32) * v1) + (hI h 20 a2 (Int32.toNatClampNeg v1))) (hN h16 a17)) (lt (sI h16 20 a17 (Int32.toNatClampNeg (((400 : Int32) * v1) + (hI h 20 a2 (Int32.toNatClampNeg v1)))) v3) (fun h21 =>
  gs (hR h21 12 v0 27) (fun a22 =>
  gd (hK h21 a22 = 20 ∧ inb (((400 : Int32) * v1) + (hI h 20 a2 (Int32.toNatClampNeg v1))) (hN h21 a22)) (lt (sI h21 20 a22 (Int32.toNatClampNeg (((400 : Int32) * v1) + (hI h 20 a2 (Int32.toNatClampNeg v1)))) v4) (fun h26 =>
  gs (hR h26 12 v0 28) (fun a27 =>
  gd (hK h26 a27 = 20 ∧ inb (((400 : Int32) * v1) + (hI h 20 a2 (Int32.toNatClampNeg v1))) (hN h26 a27)) (lt (sI h26 20 a27 (Int32.toNatClampNeg (((400 : Int32) * v1) + (hI h 20 a2 (Int32.toNatClampNeg v1)))) (0 : Int32)) (fun h31 =>
  gs (hR h31 12 v0 29) (fun a32 =>
  gd (hK h31 a32 = 20 ∧ inb (((400 : Int32) * v1) + (hI h 20 a2 (Int32.toNatClampNeg v1))) (hN h31 a32)) (lt (sI h31 20 a32 (Int32.toNatClampNeg (((400 : Int32) * v1) + (hI h 20 a2 (Int32.toNatClampNeg v1)))) (-1 : Int32)) (fun h36 =>
  gs (hR h36 12 v0 30) (fun a37 =>
  gd (hK h36 a37 = 20 ∧ inb (((400 : Int32) * v1) + (hI h 20 a2 (Int32.toNatClampNeg v1))) (hN h36 a37)) (lt (sI h36 20 a37 (Int32.toNatClampNeg (((400 : Int32) * v1) + (hI h 20 a2 (Int32.toNatClampNeg v1)))) (-1 : Int32)) (fun h41 =>
  some (((hI h 20 a2 (Int32.toNatClampNeg v1)), h41)))))))))))))))))))))))))))
set_option maxRecDepth 100000 in
theorem mX12_makes {v0 : Nat} {v1 : Int32} {v2 : Int32} {v3 : Int32} {v4 : Int32} {h : PH} {r : (Int32 × PH)} (hf : fX12_makes v0 v1 v2 v3 v4 h = some r) : eqz h (hX r.2) (hV r.2) := by
  unfold fX12_makes at hf
  have hle := eqz_rf h
  obtain ⟨hk1, hf⟩ := gd_some hf
  obtain ⟨a2, e3, hf⟩ := gs_some hf
  obtain ⟨⟨hk5, hb4⟩, hf⟩ := gd_some hf
  obtain ⟨a6, e7, hf⟩ := gs_some hf
  obtain ⟨⟨hk9, hb8⟩, hf⟩ := gd_some hf
  obtain ⟨hb10, hf⟩ := gd_some hf
  obtain ⟨h11, rfl, hf⟩ := lt_some hf
  obtain ⟨a12, e13, hf⟩ := gs_some hf
  obtain ⟨⟨hk15, hb14⟩, hf⟩ := gd_some hf
  obtain ⟨h16, rfl, hf⟩ := lt_some hf
  obtain ⟨a17, e18, hf⟩ := gs_some hf
  obtain ⟨⟨hk20, hb19⟩, hf⟩ := gd_some hf
  obtain ⟨h21, rfl, hf⟩ := lt_some hf
  obtain ⟨a22, e23, hf⟩ := gs_some hf
  obtain ⟨⟨hk25, hb24⟩, hf⟩ := gd_some hf
  obtain ⟨h26, rfl, hf⟩ := lt_some hf
  obtain ⟨a27, e28, hf⟩ := gs_some hf
  obtain ⟨⟨hk30, hb29⟩, hf⟩ := gd_some hf
  obtain ⟨h31, rfl, hf⟩ := lt_some hf
  obtain ⟨a32, e33, hf⟩ := gs_some hf
  obtain ⟨⟨hk35, hb34⟩, hf⟩ := gd_some hf
  obtain ⟨h36, rfl, hf⟩ := lt_some hf
  obtain ⟨a37, e38, hf⟩ := gs_some hf
  obtain ⟨⟨hk40, hb39⟩, hf⟩ := gd_some hf
  obtain ⟨h41, rfl, hf⟩ := lt_some hf
  have ee := Option.some.inj hf; subst ee; exact hle
set_option maxRecDepth 100000 in
theorem wX12_makes {E : PE} {l : Launch} (hG : Gs E l) {v0 : Nat} {v1 : Int32} {v2 : Int32} {v3 : Int32} {v4 : Int32} {h : PH} {r : (Int32 × PH)} (hf : fX12_makes v0 v1 v2 v3 v4 h = some r) : Ct E l 0 0 0 yX12_makes cX12_makes 6 (some .int) [.ref v0, .int v1, .int v2, .int v3, .int v4] h (fun v u => v = some (.int r.1) ∧ u = r.2) := by
  refine ct_of hG (by decide) (Nat.le_of_ble_eq_true rfl) ?_
  intro p e s m args below meth c X hnm
  show PW E p l e _ s m args below meth c _ 0 0 _ h 0 [(0, some (.ref v0)), (1, some (.int v1)), (2, some (.int v2)), (3, some (.int v3)), (4, some (.int v4))] []
  unfold fX12_makes at hf
  refine p_aload_n X (dcg dc_X12_makes 0 rfl) rfl rfl ?_
  obtain ⟨hk1, hf⟩ := gd_some hf
  refine p_getR X fl_X12_81 rfl (by decide) (dcg dc_X12_makes 1 rfl) hk1 ?_
  refine p_iload_n X (dcg dc_X12_makes 2 rfl) rfl rfl ?_
  obtain ⟨a2, e3, hf⟩ := gs_some hf
  first | subst e3 | (try rw [e3])
  obtain ⟨⟨hk5, hb4⟩, hf⟩ := gd_some hf
  refine p_iald X (dcg dc_X12_makes 3 rfl) hk5 (vp_of_inb hb4) ?_
  refine p_istore X (dcg dc_X12_makes 4 rfl) (by decide) rfl ?_
  refine p_aload_n X (dcg dc_X12_makes 5 rfl) rfl rfl ?_
  refine p_getR X fl_X12_81 rfl (by decide) (dcg dc_X12_makes 6 rfl) hk1 ?_
  refine p_iload_n X (dcg dc_X12_makes 7 rfl) rfl rfl ?_
  refine p_dup2 X (dcg dc_X12_makes 8 rfl) rfl (cat_rf _) ?_
  obtain ⟨a6, e7, hf⟩ := gs_some hf
  first | subst e7 | (try rw [e7])
  obtain ⟨⟨hk9, hb8⟩, hf⟩ := gd_some hf
  refine p_iald X (dcg dc_X12_makes 9 rfl) hk9 (vp_of_inb hb8) ?_
  refine p_iconst (v := 1) X (dcg dc_X12_makes 10 rfl) (by decide) ?_
  refine p_iadd X (dcg dc_X12_makes 11 rfl) ?_
  obtain ⟨hb10, hf⟩ := gd_some hf
  refine p_iast X (dcg dc_X12_makes 12 rfl) hk9 (vp_of_inb hb10) ?_
  obtain ⟨h11, rfl, hf⟩ := lt_some hf
  refine p_aload_n X (dcg dc_X12_makes 13 rfl) rfl rfl ?_
  refine p_getR X fl_X12_60 rfl (by decide) (dcg dc_X12_makes 14 rfl) hk1 ?_
  refine p_sipush (v := 400) X (dcg dc_X12_makes 15 rfl) (by decide) ?_
  refine p_iload_n X (dcg dc_X12_makes 16 rfl) rfl rfl ?_
  refine p_imul X (dcg dc_X12_makes 17 rfl) ?_
  refine p_iload X (dcg dc_X12_makes 18 rfl) rfl ?_
  refine p_iadd X (dcg dc_X12_makes 19 rfl) ?_
  refine p_iload_n X (dcg dc_X12_makes 20 rfl) rfl rfl ?_
  obtain ⟨a12, e13, hf⟩ := gs_some hf
  first | subst e13 | (try rw [e13])
  obtain ⟨⟨hk15, hb14⟩, hf⟩ := gd_some hf
  refine p_iast X (dcg dc_X12_makes 21 rfl) hk15 (vp_of_inb hb14) ?_
  obtain ⟨h16, rfl, hf⟩ := lt_some hf
  refine p_aload_n X (dcg dc_X12_makes 22 rfl) rfl rfl ?_
  refine p_getR X fl_X12_63 rfl (by decide) (dcg dc_X12_makes 23 rfl) hk1 ?_
  refine p_sipush (v := 400) X (dcg dc_X12_makes 24 rfl) (by decide) ?_
  refine p_iload_n X (dcg dc_X12_makes 25 rfl) rfl rfl ?_
  refine p_imul X (dcg dc_X12_makes 26 rfl) ?_
  refine p_iload X (dcg dc_X12_makes 27 rfl) rfl ?_
  refine p_iadd X (dcg dc_X12_makes 28 rfl) ?_
  refine p_iload_n X (dcg dc_X12_makes 29 rfl) rfl rfl ?_
  obtain ⟨a17, e18, hf⟩ := gs_some hf
  first | subst e18 | (try rw [e18])
  obtain ⟨⟨hk20, hb19⟩, hf⟩ := gd_some hf
  refine p_iast X (dcg dc_X12_makes 30 rfl) hk20 (vp_of_inb hb19) ?_
  obtain ⟨h21, rfl, hf⟩ := lt_some hf
  refine p_aload_n X (dcg dc_X12_makes 31 rfl) rfl rfl ?_
  refine p_getR X fl_X12_66 rfl (by decide) (dcg dc_X12_makes 32 rfl) hk1 ?_
  refine p_sipush (v := 400) X (dcg dc_X12_makes 33 rfl) (by decide) ?_
  refine p_iload_n X (dcg dc_X12_makes 34 rfl) rfl rfl ?_
  refine p_imul X (dcg dc_X12_makes 35 rfl) ?_
  refine p_iload X (dcg dc_X12_makes 36 rfl) rfl ?_
  refine p_iadd X (dcg dc_X12_makes 37 rfl) ?_
  refine p_iload X (dcg dc_X12_makes 38 rfl) rfl ?_
  obtain ⟨a22, e23, hf⟩ := gs_some hf
  first | subst e23 | (try rw [e23])
  obtain ⟨⟨hk25, hb24⟩, hf⟩ := gd_some hf
  refine p_iast X (dcg dc_X12_makes 39 rfl) hk25 (vp_of_inb hb24) ?_
  obtain ⟨h26, rfl, hf⟩ := lt_some hf
  refine p_aload_n X (dcg dc_X12_makes 40 rfl) rfl rfl ?_
  refine p_getR X fl_X12_69 rfl (by decide) (dcg dc_X12_makes 41 rfl) hk1 ?_
  refine p_sipush (v := 400) X (dcg dc_X12_makes 42 rfl) (by decide) ?_
  refine p_iload_n X (dcg dc_X12_makes 43 rfl) rfl rfl ?_
  refine p_imul X (dcg dc_X12_makes 44 rfl) ?_
  refine p_iload X (dcg dc_X12_makes 45 rfl) rfl ?_
  refine p_iadd X (dcg dc_X12_makes 46 rfl) ?_
  refine p_iconst (v := 0) X (dcg dc_X12_makes 47 rfl) (by decide) ?_
  obtain ⟨a27, e28, hf⟩ := gs_some hf
  first | subst e28 | (try rw [e28])
  obtain ⟨⟨hk30, hb29⟩, hf⟩ := gd_some hf
  refine p_iast X (dcg dc_X12_makes 48 rfl) hk30 (vp_of_inb hb29) ?_
  obtain ⟨h31, rfl, hf⟩ := lt_some hf
  refine p_aload_n X (dcg dc_X12_makes 49 rfl) rfl rfl ?_
  refine p_getR X fl_X12_72 rfl (by decide) (dcg dc_X12_makes 50 rfl) hk1 ?_
  refine p_sipush (v := 400) X (dcg dc_X12_makes 51 rfl) (by decide) ?_
  refine p_iload_n X (dcg dc_X12_makes 52 rfl) rfl rfl ?_
  refine p_imul X (dcg dc_X12_makes 53 rfl) ?_
  refine p_iload X (dcg dc_X12_makes 54 rfl) rfl ?_
  refine p_iadd X (dcg dc_X12_makes 55 rfl) ?_
  refine p_iconst (v := -1) X (dcg dc_X12_makes 56 rfl) (by decide) ?_
  obtain ⟨a32, e33, hf⟩ := gs_some hf
  first | subst e33 | (try rw [e33])
  obtain ⟨⟨hk35, hb34⟩, hf⟩ := gd_some hf
  refine p_iast X (dcg dc_X12_makes 57 rfl) hk35 (vp_of_inb hb34) ?_
  obtain ⟨h36, rfl, hf⟩ := lt_some hf
  refine p_aload_n X (dcg dc_X12_makes 58 rfl) rfl rfl ?_
  refine p_getR X fl_X12_75 rfl (by decide) (dcg dc_X12_makes 59 rfl) hk1 ?_
  refine p_sipush (v := 400) X (dcg dc_X12_makes 60 rfl) (by decide) ?_
  refine p_iload_n X (dcg dc_X12_makes 61 rfl) rfl rfl ?_
  refine p_imul X (dcg dc_X12_makes 62 rfl) ?_
  refine p_iload X (dcg dc_X12_makes 63 rfl) rfl ?_
  refine p_iadd X (dcg dc_X12_makes 64 rfl) ?_
  refine p_iconst (v := -1) X (dcg dc_X12_makes 65 rfl) (by decide) ?_
  obtain ⟨a37, e38, hf⟩ := gs_some hf
  first | subst e38 | (try rw [e38])
  obtain ⟨⟨hk40, hb39⟩, hf⟩ := gd_some hf
  refine p_iast X (dcg dc_X12_makes 66 rfl) hk40 (vp_of_inb hb39) ?_
  obtain ⟨h41, rfl, hf⟩ := lt_some hf
  refine p_iload X (dcg dc_X12_makes 67 rfl) rfl ?_
  have er := Option.some.inj hf
  subst er
  exact p_iret X rfl (dcg dc_X12_makes 68 rfl) ⟨rfl, rfl⟩ (Nat.le_refl _) (Nat.le_refl _)
theorem dc_X12_negates : decs cX12_negates [(0, .aload_n 0, 1), (1, .iload_n 1, 1), (2, .iconst 4, 1), (3, .iconst 0, 1), (4, .iconst 0, 1), (5, .invokevirtual 277, 3), (8, .istore_n 3, 1), (9, .aload_n 0, 1), (10, .getfield 72, 3), (13, .sipush 400, 3), (16, .iload_n 1, 1), (17, .imul, 1), (18, .iload_n 3, 1), (19, .iadd, 1), (20, .iload_n 2, 1), (21, .iastore, 1), (22, .aload_n 0, 1), (23, .getfield 75, 3), (26, .sipush 400, 3), (29, .iload_n 1, 1), (30, .imul, 1), (31, .iload_n 2, 1), (32, .iadd, 1), (33, .iconst (-1), 1), (34, .iastore, 1), (35, .iload_n 3, 1), (36, .ireturn, 1)] = true := by decide +kernel
noncomputable def fX12_negates (v0 : Nat) (v1 : Int32) (v2 : Int32) (h : PH) : Option (Int32 × PH) :=
  gd (hK h v0 = 12) (bd (fX12_makes v0 v1 (4 : Int32) (0 : Int32) (0 : Int32) h) (fun z2 =>
  gd (hK z2.2 v0 = 12) (gs (hR z2.2 12 v0 29) (fun a4 =>
  gd (hK z2.2 a4 = 20 ∧ inb (((400 : Int32) * v1) + z2.1) (hN z2.2 a4)) (lt (sI z2.2 20 a4 (Int32.toNatClampNeg (((400 : Int32) * v1) + z2.1)) v2) (fun h8 =>
  gs (hR h8 12 v0 30) (fun a9 =>
  gd (hK h8 a9 = 20 ∧ inb (((400 : Int32) * v1) + v2) (hN h8 a9)) (lt (sI h8 20 a9 (Int32.toNatClampNeg (((400 : Int32) * v1) + v2)) (-1 : Int32)) (fun h13 =>
  some ((z2.1, h13)))))))))))
set_option maxRecDepth 100000 in
theorem mX12_negates {v0 : Nat} {v1 : Int32} {v2 : Int32} {h : PH} {r : (Int32 × PH)} (hf : fX12_negates v0 v1 v2 h = some r) : eqz h (hX r.2) (hV r.2) := by
  unfold fX12_negates at hf
  have hle := eqz_rf h
  obtain ⟨hk1, hf⟩ := gd_some hf
  obtain ⟨z2, hz2, hf⟩ := bd_some hf
  have hle := eqz_rt (mX12_makes hz2) hle
  obtain ⟨hk3, hf⟩ := gd_some hf
  obtain ⟨a4, e5, hf⟩ := gs_some hf
  obtain ⟨⟨hk7, hb6⟩, hf⟩ := gd_some hf
  obtain ⟨h8, rfl, hf⟩ := lt_some hf
  obtain ⟨a9, e10, hf⟩ := gs_some hf
  obtain ⟨⟨hk12, hb11⟩, hf⟩ := gd_some hf
  obtain ⟨h13, rfl, hf⟩ := lt_some hf
  have ee := Option.some.inj hf; subst ee; exact hle
set_option maxRecDepth 100000 in
theorem wX12_negates {E : PE} {l : Launch} (hG : Gs E l) {v0 : Nat} {v1 : Int32} {v2 : Int32} {h : PH} {r : (Int32 × PH)} (hf : fX12_negates v0 v1 v2 h = some r) : Ct E l 1 0 0 yX12_negates cX12_negates 4 (some .int) [.ref v0, .int v1, .int v2] h (fun v u => v = some (.int r.1) ∧ u = r.2) := by
  refine ct_of hG (by decide) (Nat.le_of_ble_eq_true rfl) ?_
  intro p e s m args below meth c X hnm
  show PW E p l e _ s m args below meth c _ 0 0 _ h 0 [(0, some (.ref v0)), (1, some (.int v1)), (2, some (.int v2))] []
  unfold fX12_negates at hf
  refine p_aload_n X (dcg dc_X12_negates 0 rfl) rfl rfl ?_
  refine p_iload_n X (dcg dc_X12_negates 1 rfl) rfl rfl ?_
  refine p_iconst (v := 4) X (dcg dc_X12_negates 2 rfl) (by decide) ?_
  refine p_iconst (v := 0) X (dcg dc_X12_negates 3 rfl) (by decide) ?_
  refine p_iconst (v := 0) X (dcg dc_X12_negates 4 rfl) (by decide) ?_
  obtain ⟨hk1, hf⟩ := gd_some hf
  obtain ⟨z2, hz2, hf⟩ := bd_some hf
  refine p_callV (As := [_, _, _, _]) X ml_X12_277 (dcg dc_X12_negates 5 rfl) rfl rfl hk1 (wX12_makes hG hz2) (by decide) (room4 (Nat.le_of_ble_eq_true rfl)) (Nat.le_refl _) (Nat.le_refl _) ?_
  rintro _ u9 ⟨rfl, e9⟩; have e9 := e9.symm; subst e9
  refine p_istore_n X (dcg dc_X12_negates 6 rfl) rfl (by decide) rfl ?_
  refine p_aload_n X (dcg dc_X12_negates 7 rfl) rfl rfl ?_
  obtain ⟨hk3, hf⟩ := gd_some hf
  refine p_getR X fl_X12_72 rfl (by decide) (dcg dc_X12_negates 8 rfl) hk3 ?_
  refine p_sipush (v := 400) X (dcg dc_X12_negates 9 rfl) (by decide) ?_
  refine p_iload_n X (dcg dc_X12_negates 10 rfl) rfl rfl ?_
  refine p_imul X (dcg dc_X12_negates 11 rfl) ?_
  refine p_iload_n X (dcg dc_X12_negates 12 rfl) rfl rfl ?_
  refine p_iadd X (dcg dc_X12_negates 13 rfl) ?_
  refine p_iload_n X (dcg dc_X12_negates 14 rfl) rfl rfl ?_
  obtain ⟨a4, e5, hf⟩ := gs_some hf
  first | subst e5 | (try rw [e5])
  obtain ⟨⟨hk7, hb6⟩, hf⟩ := gd_some hf
  refine p_iast X (dcg dc_X12_negates 15 rfl) hk7 (vp_of_inb hb6) ?_
  obtain ⟨h8, rfl, hf⟩ := lt_some hf
  refine p_aload_n X (dcg dc_X12_negates 16 rfl) rfl rfl ?_
  refine p_getR X fl_X12_75 rfl (by decide) (dcg dc_X12_negates 17 rfl) hk3 ?_
  refine p_sipush (v := 400) X (dcg dc_X12_negates 18 rfl) (by decide) ?_
  refine p_iload_n X (dcg dc_X12_negates 19 rfl) rfl rfl ?_
  refine p_imul X (dcg dc_X12_negates 20 rfl) ?_
  refine p_iload_n X (dcg dc_X12_negates 21 rfl) rfl rfl ?_
  refine p_iadd X (dcg dc_X12_negates 22 rfl) ?_
  refine p_iconst (v := -1) X (dcg dc_X12_negates 23 rfl) (by decide) ?_
  obtain ⟨a9, e10, hf⟩ := gs_some hf
  first | subst e10 | (try rw [e10])
  obtain ⟨⟨hk12, hb11⟩, hf⟩ := gd_some hf
  refine p_iast X (dcg dc_X12_negates 24 rfl) hk12 (vp_of_inb hb11) ?_
  obtain ⟨h13, rfl, hf⟩ := lt_some hf
  refine p_iload_n X (dcg dc_X12_negates 25 rfl) rfl rfl ?_
  have er := Option.some.inj hf
  subst er
  exact p_iret X rfl (dcg dc_X12_negates 26 rfl) ⟨rfl, rfl⟩ (Nat.le_refl _) (Nat.le_refl _)
theorem dc_X12_begins0 : decs cX12_begins0 [(0, .aload_n 0, 1), (1, .getfield 96, 3), (4, .aload_n 0, 1), (5, .getfield 281, 3), (8, .iconst 0, 1), (9, .iastore, 1), (10, .aload_n 0, 1), (11, .getfield 105, 3), (14, .aload_n 0, 1), (15, .getfield 281, 3), (18, .iconst 0, 1), (19, .iastore, 1), (20, .aload_n 0, 1), (21, .getfield 108, 3), (24, .aload_n 0, 1), (25, .getfield 281, 3), (28, .iload_n 1, 1), (29, .iastore, 1), (30, .return_, 1)] = true := by decide +kernel
noncomputable def fX12_begins0 (v0 : Nat) (v1 : Int32) (h : PH) : Option PH :=
  gd (hK h v0 = 12) (gs (hR h 12 v0 37) (fun a2 =>
  gd (hK h a2 = 20 ∧ inb (hI h 12 v0 42) (hN h a2)) (lt (sI h 20 a2 (Int32.toNatClampNeg (hI h 12 v0 42)) (0 : Int32)) (fun h6 =>
  gs (hR h6 12 v0 40) (fun a7 =>
  gd (hK h6 a7 = 20 ∧ inb (hI h6 12 v0 42) (hN h6 a7)) (lt (sI h6 20 a7 (Int32.toNatClampNeg (hI h6 12 v0 42)) (0 : Int32)) (fun h11 =>
  gs (hR h11 12 v0 41) (fun a12 =>
  gd (hK h11 a12 = 20 ∧ inb (hI h11 12 v0 42) (hN h11 a12)) (lt (sI h11 20 a12 (Int32.toNatClampNeg (hI h11 12 v0 42)) v1) (fun h16 =>
  some (h16)))))))))))
set_option maxRecDepth 100000 in
theorem mX12_begins0 {v0 : Nat} {v1 : Int32} {h : PH} {r : PH} (hf : fX12_begins0 v0 v1 h = some r) : eqz h (hX r) (hV r) := by
  unfold fX12_begins0 at hf
  have hle := eqz_rf h
  obtain ⟨hk1, hf⟩ := gd_some hf
  obtain ⟨a2, e3, hf⟩ := gs_some hf
  obtain ⟨⟨hk5, hb4⟩, hf⟩ := gd_some hf
  obtain ⟨h6, rfl, hf⟩ := lt_some hf
  obtain ⟨a7, e8, hf⟩ := gs_some hf
  obtain ⟨⟨hk10, hb9⟩, hf⟩ := gd_some hf
  obtain ⟨h11, rfl, hf⟩ := lt_some hf
  obtain ⟨a12, e13, hf⟩ := gs_some hf
  obtain ⟨⟨hk15, hb14⟩, hf⟩ := gd_some hf
  obtain ⟨h16, rfl, hf⟩ := lt_some hf
  have ee := Option.some.inj hf; subst ee; exact hle
set_option maxRecDepth 100000 in
theorem wX12_begins0 {E : PE} {l : Launch} (hG : Gs E l) {v0 : Nat} {v1 : Int32} {h : PH} {r : PH} (hf : fX12_begins0 v0 v1 h = some r) : Ct E l 0 0 0 yX12_begins0 cX12_begins0 2 (none) [.ref v0, .int v1] h (fun v u => v = none ∧ u = r) := by
  refine ct_of hG (by decide) (Nat.le_of_ble_eq_true rfl) ?_
  intro p e s m args below meth c X hnm
  show PW E p l e _ s m args below meth c _ 0 0 _ h 0 [(0, some (.ref v0)), (1, some (.int v1))] []
  unfold fX12_begins0 at hf
  refine p_aload_n X (dcg dc_X12_begins0 0 rfl) rfl rfl ?_
  obtain ⟨hk1, hf⟩ := gd_some hf
  refine p_getR X fl_X12_96 rfl (by decide) (dcg dc_X12_begins0 1 rfl) hk1 ?_
  refine p_aload_n X (dcg dc_X12_begins0 2 rfl) rfl rfl ?_
  refine p_getI X fl_X12_281 rfl (by decide) (dcg dc_X12_begins0 3 rfl) hk1 ?_
  refine p_iconst (v := 0) X (dcg dc_X12_begins0 4 rfl) (by decide) ?_
  obtain ⟨a2, e3, hf⟩ := gs_some hf
  first | subst e3 | (try rw [e3])
  obtain ⟨⟨hk5, hb4⟩, hf⟩ := gd_some hf
  refine p_iast X (dcg dc_X12_begins0 5 rfl) hk5 (vp_of_inb hb4) ?_
  obtain ⟨h6, rfl, hf⟩ := lt_some hf
  refine p_aload_n X (dcg dc_X12_begins0 6 rfl) rfl rfl ?_
  refine p_getR X fl_X12_105 rfl (by decide) (dcg dc_X12_begins0 7 rfl) hk1 ?_
  refine p_aload_n X (dcg dc_X12_begins0 8 rfl) rfl rfl ?_
  refine p_getI X fl_X12_281 rfl (by decide) (dcg dc_X12_begins0 9 rfl) hk1 ?_
  refine p_iconst (v := 0) X (dcg dc_X12_begins0 10 rfl) (by decide) ?_
  obtain ⟨a7, e8, hf⟩ := gs_some hf
  first | subst e8 | (try rw [e8])
  obtain ⟨⟨hk10, hb9⟩, hf⟩ := gd_some hf
  refine p_iast X (dcg dc_X12_begins0 11 rfl) hk10 (vp_of_inb hb9) ?_
  obtain ⟨h11, rfl, hf⟩ := lt_some hf
  refine p_aload_n X (dcg dc_X12_begins0 12 rfl) rfl rfl ?_
  refine p_getR X fl_X12_108 rfl (by decide) (dcg dc_X12_begins0 13 rfl) hk1 ?_
  refine p_aload_n X (dcg dc_X12_begins0 14 rfl) rfl rfl ?_
  refine p_getI X fl_X12_281 rfl (by decide) (dcg dc_X12_begins0 15 rfl) hk1 ?_
  refine p_iload_n X (dcg dc_X12_begins0 16 rfl) rfl rfl ?_
  obtain ⟨a12, e13, hf⟩ := gs_some hf
  first | subst e13 | (try rw [e13])
  obtain ⟨⟨hk15, hb14⟩, hf⟩ := gd_some hf
  refine p_iast X (dcg dc_X12_begins0 17 rfl) hk15 (vp_of_inb hb14) ?_
  obtain ⟨h16, rfl, hf⟩ := lt_some hf
  have er := Option.some.inj hf
  subst er
  exact p_vret X rfl (dcg dc_X12_begins0 18 rfl) ⟨rfl, rfl⟩ (Nat.le_refl _) (Nat.le_refl _)
theorem dc_X12_hasPart : decs cX12_hasPart [(0, .iload_n 1, 1), (1, .istore_n 2, 1), (2, .aload_n 0, 1), (3, .getfield 284, 3), (6, .ifCond .le 34, 3), (9, .aload_n 0, 1), (10, .bipush 6, 2), (12, .iload_n 2, 1), (13, .invokevirtual 287, 3), (16, .istore_n 2, 1), (17, .aload_n 0, 1), (18, .dup, 1), (19, .getfield 284, 3), (22, .iconst 1, 1), (23, .isub, 1), (24, .putfield 284, 3), (27, .aload_n 0, 1), (28, .dup, 1), (29, .getfield 290, 3), (32, .iconst 1, 1), (33, .isub, 1), (34, .putfield 290, 3), (37, .goto (-35), 3), (40, .aload_n 0, 1), (41, .getfield 96, 3), (44, .aload_n 0, 1), (45, .getfield 281, 3), (48, .iaload, 1), (49, .ifCond .ne 16, 3), (52, .aload_n 0, 1), (53, .getfield 90, 3), (56, .aload_n 0, 1), (57, .getfield 281, 3), (60, .iload_n 2, 1), (61, .iastore, 1), (62, .goto 22, 3), (65, .aload_n 0, 1), (66, .getfield 75, 3), (69, .sipush 2400, 3), (72, .aload_n 0, 1), (73, .getfield 93, 3), (76, .aload_n 0, 1), (77, .getfield 281, 3), (80, .iaload, 1), (81, .iadd, 1), (82, .iload_n 2, 1), (83, .iastore, 1), (84, .aload_n 0, 1), (85, .getfield 93, 3), (88, .aload_n 0, 1), (89, .getfield 281, 3), (92, .iload_n 2, 1), (93, .iastore, 1), (94, .aload_n 0, 1), (95, .getfield 96, 3), (98, .aload_n 0, 1), (99, .getfield 281, 3), (102, .dup2, 1), (103, .iaload, 1), (104, .iconst 1, 1), (105, .iadd, 1), (106, .iastore, 1), (107, .return_, 1)] = true := by decide +kernel
noncomputable def fX12_hasPart_b84 (v0 : Nat) (v2 : Int32) (h : PH) : Option PH :=
  gd (hK h v0 = 12) (gs (hR h 12 v0 36) (fun a18 =>
  gd (hK h a18 = 20 ∧ inb (hI h 12 v0 42) (hN h a18)) (lt (sI h 20 a18 (Int32.toNatClampNeg (hI h 12 v0 42)) v2) (fun h22 =>
  gs (hR h22 12 v0 37) (fun a23 =>
  gd (hK h22 a23 = 20 ∧ inb (hI h22 12 v0 42) (hN h22 a23)) (gd (inb (hI h22 12 v0 42) (hN h22 a23)) (lt (sI h22 20 a23 (Int32.toNatClampNeg (hI h22 12 v0 42)) ((hI h22 20 a23 (Int32.toNatClampNeg (hI h22 12 v0 42))) + (1 : Int32))) (fun h28 =>
  some (h28)))))))))
set_option maxRecDepth 100000 in
theorem mX12_hasPart_b84 {v0 : Nat} {v2 : Int32} {h : PH} {r : PH} (hf : fX12_hasPart_b84 v0 v2 h = some r) : eqz h (hX r) (hV r) := by
  unfold fX12_hasPart_b84 at hf
  have hle := eqz_rf h
  obtain ⟨hk17, hf⟩ := gd_some hf
  obtain ⟨a18, e19, hf⟩ := gs_some hf
  obtain ⟨⟨hk21, hb20⟩, hf⟩ := gd_some hf
  obtain ⟨h22, rfl, hf⟩ := lt_some hf
  obtain ⟨a23, e24, hf⟩ := gs_some hf
  obtain ⟨⟨hk26, hb25⟩, hf⟩ := gd_some hf
  obtain ⟨hb27, hf⟩ := gd_some hf
  obtain ⟨h28, rfl, hf⟩ := lt_some hf
  have ee := Option.some.inj hf; subst ee; exact hle
set_option maxRecDepth 100000 in
theorem wX12_hasPart_b84 {E : PE} {p : Program} {l : Launch} {e : Env} {s : State} {m : MethodId} {args : Array Value} {below : List Frame} {meth : Method} {c : Code} (X : Cx E p l e (rmv 2 0 0) s m args below meth c RX12 cX12_hasPart 3 (none)) (hG : Gs E l) (hnm : meth.name = yX12_hasPart.name) {v0 : Nat} {v2 : Int32} {h : PH} {r : PH} (hf : fX12_hasPart_b84 v0 v2 h = some r)  : PW E p l e (rmv 2 0 0) s m args below meth c 3 0 0 (MQ below (QG E (fun v u => v = none ∧ u = r)) args s 0 0 (pA E)) h 84 [(0, some (.ref v0)), (2, some (.int v2))] [] := by
  unfold fX12_hasPart_b84 at hf
  refine p_aload_n X (dcg dc_X12_hasPart 47 rfl) rfl rfl ?_
  obtain ⟨hk17, hf⟩ := gd_some hf
  refine p_getR X fl_X12_93 rfl (by decide) (dcg dc_X12_hasPart 48 rfl) hk17 ?_
  refine p_aload_n X (dcg dc_X12_hasPart 49 rfl) rfl rfl ?_
  refine p_getI X fl_X12_281 rfl (by decide) (dcg dc_X12_hasPart 50 rfl) hk17 ?_
  refine p_iload_n X (dcg dc_X12_hasPart 51 rfl) rfl rfl ?_
  obtain ⟨a18, e19, hf⟩ := gs_some hf
  first | subst e19 | (try rw [e19])
  obtain ⟨⟨hk21, hb20⟩, hf⟩ := gd_some hf
  refine p_iast X (dcg dc_X12_hasPart 52 rfl) hk21 (vp_of_inb hb20) ?_
  obtain ⟨h22, rfl, hf⟩ := lt_some hf
  refine p_aload_n X (dcg dc_X12_hasPart 53 rfl) rfl rfl ?_
  refine p_getR X fl_X12_96 rfl (by decide) (dcg dc_X12_hasPart 54 rfl) hk17 ?_
  refine p_aload_n X (dcg dc_X12_hasPart 55 rfl) rfl rfl ?_
  refine p_getI X fl_X12_281 rfl (by decide) (dcg dc_X12_hasPart 56 rfl) hk17 ?_
  refine p_dup2 X (dcg dc_X12_hasPart 57 rfl) rfl (cat_rf _) ?_
  obtain ⟨a23, e24, hf⟩ := gs_some hf
  first | subst e24 | (try rw [e24])
  obtain ⟨⟨hk26, hb25⟩, hf⟩ := gd_some hf
  refine p_iald X (dcg dc_X12_hasPart 58 rfl) hk26 (vp_of_inb hb25) ?_
  refine p_iconst (v := 1) X (dcg dc_X12_hasPart 59 rfl) (by decide) ?_
  refine p_iadd X (dcg dc_X12_hasPart 60 rfl) ?_
  obtain ⟨hb27, hf⟩ := gd_some hf
  refine p_iast X (dcg dc_X12_hasPart 61 rfl) hk26 (vp_of_inb hb27) ?_
  obtain ⟨h28, rfl, hf⟩ := lt_some hf
  have er := Option.some.inj hf
  subst er
  exact p_vret X rfl (dcg dc_X12_hasPart 62 rfl) ⟨rfl, rfl⟩ (Nat.le_refl _) (Nat.le_refl _)
noncomputable def fX12_hasPart_c2 (v0 : Nat) (v2 : Int32) (h : PH) : Option ((Int32 × PH) ⊕ PH) :=
  gd (hK h v0 = 12) (if ((hI h 12 v0 44) ≤ 0) then (mr (gs (hR h 12 v0 37) (fun a4 =>
  gd (hK h a4 = 20 ∧ inb (hI h 12 v0 42) (hN h a4)) (if (¬ (hI h 20 a4 (Int32.toNatClampNeg (hI h 12 v0 42))) = 0) then (gs (hR h 12 v0 36) (fun a8 =>
  gd (hK h a8 = 20 ∧ inb (hI h 12 v0 42) (hN h a8)) (gs (hR h 12 v0 30) (fun a12 =>
  gd (hK h a12 = 20 ∧ inb ((2400 : Int32) + (hI h 20 a8 (Int32.toNatClampNeg (hI h 12 v0 42)))) (hN h a12)) (lt (sI h 20 a12 (Int32.toNatClampNeg ((2400 : Int32) + (hI h 20 a8 (Int32.toNatClampNeg (hI h 12 v0 42))))) v2) (fun h16 =>
  fX12_hasPart_b84 v0 v2 h16)))))) else
  gs (hR h 12 v0 35) (fun a29 =>
  gd (hK h a29 = 20 ∧ inb (hI h 12 v0 42) (hN h a29)) (lt (sI h 20 a29 (Int32.toNatClampNeg (hI h 12 v0 42)) v2) (fun h33 =>
  fX12_hasPart_b84 v0 v2 h33))))))) else
  bd (fX12_negates v0 (6 : Int32) v2 h) (fun z34 =>
  gd (hK z34.2 v0 = 12) (lt (sI z34.2 12 v0 44 ((hI z34.2 12 v0 44) - (1 : Int32))) (fun h36 =>
  lt (sI h36 12 v0 43 ((hI h36 12 v0 43) - (1 : Int32))) (fun h37 =>
  some (.inl (z34.1, h37)))))))
set_option maxRecDepth 100000 in
theorem mX12_hasPart_c2 {v0 : Nat} {v2 : Int32} {h : PH} {x : ((Int32 × PH) ⊕ PH)} (hf : fX12_hasPart_c2 v0 v2 h = some x) : (∀ w9 : (Int32 × PH), x = .inl w9 → eqz h (hX (w9.2)) (hV (w9.2))) ∧ (∀ w9 : PH, x = .inr w9 → eqz h (hX w9) (hV w9)) := by
  unfold fX12_hasPart_c2 at hf
  have hle := eqz_rf h
  obtain ⟨hk1, hf⟩ := gd_some hf
  rcases ite_or hf with ⟨q, hf⟩ | ⟨q, hf⟩
  · have hf := if_t q hf
    obtain ⟨y2, hfm, rfl⟩ := mr_some hf; have hf := hfm; clear hfm
    obtain ⟨a4, e5, hf⟩ := gs_some hf
    obtain ⟨⟨hk7, hb6⟩, hf⟩ := gd_some hf
    rcases ite_or hf with ⟨q, hf⟩ | ⟨q, hf⟩
    · have hf := if_t q hf
      obtain ⟨a8, e9, hf⟩ := gs_some hf
      obtain ⟨⟨hk11, hb10⟩, hf⟩ := gd_some hf
      obtain ⟨a12, e13, hf⟩ := gs_some hf
      obtain ⟨⟨hk15, hb14⟩, hf⟩ := gd_some hf
      obtain ⟨h16, rfl, hf⟩ := lt_some hf
      have cf := mX12_hasPart_b84 hf
      exact ⟨(fun z e => nomatch e), (fun z e => by cases e <;> exact eqz_rt cf hle)⟩
    · have hf := if_f q hf
      obtain ⟨a29, e30, hf⟩ := gs_some hf
      obtain ⟨⟨hk32, hb31⟩, hf⟩ := gd_some hf
      obtain ⟨h33, rfl, hf⟩ := lt_some hf
      have cf := mX12_hasPart_b84 hf
      exact ⟨(fun z e => nomatch e), (fun z e => by cases e <;> exact eqz_rt cf hle)⟩
  · have hf := if_f q hf
    obtain ⟨z34, hz34, hf⟩ := bd_some hf
    have hle := eqz_rt (mX12_negates hz34) hle
    obtain ⟨hk35, hf⟩ := gd_some hf
    obtain ⟨h36, rfl, hf⟩ := lt_some hf
    obtain ⟨h37, rfl, hf⟩ := lt_some hf
    have ee := Option.some.inj hf; subst ee
    exact ⟨(fun z e => by have ee := Sum.inl.inj (e); subst ee; exact hle), (fun z e => nomatch e)⟩
set_option maxRecDepth 100000 in
theorem wX12_hasPart_c2 {E : PE} {p : Program} {l : Launch} {e : Env} {s : State} {m : MethodId} {args : Array Value} {below : List Frame} {meth : Method} {c : Code} (X : Cx E p l e (rmv 2 0 0) s m args below meth c RX12 cX12_hasPart 3 (none)) (hG : Gs E l) (hnm : meth.name = yX12_hasPart.name) {v0 : Nat} {v2 : Int32} {h : PH} {r : PH} {x : ((Int32 × PH) ⊕ PH)} (hf : fX12_hasPart_c2 v0 v2 h = some x) (k0 : ∀ z : (Int32 × PH), x = .inl z → PW E p l e (rmv 2 0 0) s m args below meth c 3 0 0 (MQ below (QG E (fun v u => v = none ∧ u = r)) args s 0 0 (pA E)) (z.2) 2 [(0, some (.ref v0)), (2, some (.int (z.1)))] []) (kf : ∀ z : PH, x = .inr z → z = r) : PW E p l e (rmv 2 0 0) s m args below meth c 3 0 0 (MQ below (QG E (fun v u => v = none ∧ u = r)) args s 0 0 (pA E)) h 2 [(0, some (.ref v0)), (2, some (.int v2))] [] := by
  unfold fX12_hasPart_c2 at hf
  refine p_aload_n X (dcg dc_X12_hasPart 2 rfl) rfl rfl ?_
  obtain ⟨hk1, hf⟩ := gd_some hf
  refine p_getI X fl_X12_284 rfl (by decide) (dcg dc_X12_hasPart 3 rfl) hk1 ?_
  refine p_if_le (tgt := 40) X (dcg dc_X12_hasPart 4 rfl) (by decide) (fun q => ?_) (fun q => ?_)
  · have hf := if_t q hf
    obtain ⟨y2, hf, hy3⟩ := mr_some hf
    have hy3f := kf y2 hy3
    subst hy3f
    refine p_aload_n X (dcg dc_X12_hasPart 23 rfl) rfl rfl ?_
    refine p_getR X fl_X12_96 rfl (by decide) (dcg dc_X12_hasPart 24 rfl) hk1 ?_
    refine p_aload_n X (dcg dc_X12_hasPart 25 rfl) rfl rfl ?_
    refine p_getI X fl_X12_281 rfl (by decide) (dcg dc_X12_hasPart 26 rfl) hk1 ?_
    obtain ⟨a4, e5, hf⟩ := gs_some hf
    first | subst e5 | (try rw [e5])
    obtain ⟨⟨hk7, hb6⟩, hf⟩ := gd_some hf
    refine p_iald X (dcg dc_X12_hasPart 27 rfl) hk7 (vp_of_inb hb6) ?_
    refine p_if_ne (tgt := 65) X (dcg dc_X12_hasPart 28 rfl) (by decide) (fun q => ?_) (fun q => ?_)
    · have hf := if_t q hf
      refine p_aload_n X (dcg dc_X12_hasPart 36 rfl) rfl rfl ?_
      refine p_getR X fl_X12_75 rfl (by decide) (dcg dc_X12_hasPart 37 rfl) hk1 ?_
      refine p_sipush (v := 2400) X (dcg dc_X12_hasPart 38 rfl) (by decide) ?_
      refine p_aload_n X (dcg dc_X12_hasPart 39 rfl) rfl rfl ?_
      refine p_getR X fl_X12_93 rfl (by decide) (dcg dc_X12_hasPart 40 rfl) hk1 ?_
      refine p_aload_n X (dcg dc_X12_hasPart 41 rfl) rfl rfl ?_
      refine p_getI X fl_X12_281 rfl (by decide) (dcg dc_X12_hasPart 42 rfl) hk1 ?_
      obtain ⟨a8, e9, hf⟩ := gs_some hf
      first | subst e9 | (try rw [e9])
      obtain ⟨⟨hk11, hb10⟩, hf⟩ := gd_some hf
      refine p_iald X (dcg dc_X12_hasPart 43 rfl) hk11 (vp_of_inb hb10) ?_
      refine p_iadd X (dcg dc_X12_hasPart 44 rfl) ?_
      refine p_iload_n X (dcg dc_X12_hasPart 45 rfl) rfl rfl ?_
      obtain ⟨a12, e13, hf⟩ := gs_some hf
      first | subst e13 | (try rw [e13])
      obtain ⟨⟨hk15, hb14⟩, hf⟩ := gd_some hf
      refine p_iast X (dcg dc_X12_hasPart 46 rfl) hk15 (vp_of_inb hb14) ?_
      obtain ⟨h16, rfl, hf⟩ := lt_some hf
      refine p_pick [0, 2] ?_
      exact wX12_hasPart_b84 X hG hnm hf 
    · have hf := if_f q hf
      refine p_aload_n X (dcg dc_X12_hasPart 29 rfl) rfl rfl ?_
      refine p_getR X fl_X12_90 rfl (by decide) (dcg dc_X12_hasPart 30 rfl) hk1 ?_
      refine p_aload_n X (dcg dc_X12_hasPart 31 rfl) rfl rfl ?_
      refine p_getI X fl_X12_281 rfl (by decide) (dcg dc_X12_hasPart 32 rfl) hk1 ?_
      refine p_iload_n X (dcg dc_X12_hasPart 33 rfl) rfl rfl ?_
      obtain ⟨a29, e30, hf⟩ := gs_some hf
      first | subst e30 | (try rw [e30])
      obtain ⟨⟨hk32, hb31⟩, hf⟩ := gd_some hf
      refine p_iast X (dcg dc_X12_hasPart 34 rfl) hk32 (vp_of_inb hb31) ?_
      obtain ⟨h33, rfl, hf⟩ := lt_some hf
      refine p_goto (tgt := 84) X (dcg dc_X12_hasPart 35 rfl) (by decide) ?_
      refine p_pick [0, 2] ?_
      exact wX12_hasPart_b84 X hG hnm hf 
  · have hf := if_f q hf
    refine p_aload_n X (dcg dc_X12_hasPart 5 rfl) rfl rfl ?_
    refine p_bipush (v := 6) X (dcg dc_X12_hasPart 6 rfl) (by decide) ?_
    refine p_iload_n X (dcg dc_X12_hasPart 7 rfl) rfl rfl ?_
    obtain ⟨z34, hz34, hf⟩ := bd_some hf
    refine p_callV (As := [_, _]) X ml_X12_287 (dcg dc_X12_hasPart 8 rfl) rfl rfl hk1 (wX12_negates hG hz34) (by decide) (room4 (Nat.le_of_ble_eq_true rfl)) (Nat.le_refl _) (Nat.le_refl _) ?_
    rintro _ u9 ⟨rfl, e9⟩; have e9 := e9.symm; subst e9
    refine p_istore_n X (dcg dc_X12_hasPart 9 rfl) rfl (by decide) rfl ?_
    refine p_aload_n X (dcg dc_X12_hasPart 10 rfl) rfl rfl ?_
    refine p_dup X (dcg dc_X12_hasPart 11 rfl) rfl ?_
    obtain ⟨hk35, hf⟩ := gd_some hf
    refine p_getI X fl_X12_284 rfl (by decide) (dcg dc_X12_hasPart 12 rfl) hk35 ?_
    refine p_iconst (v := 1) X (dcg dc_X12_hasPart 13 rfl) (by decide) ?_
    refine p_isub X (dcg dc_X12_hasPart 14 rfl) ?_
    refine p_putI X fl_X12_284 rfl (by decide) (fun q hq => by cases hq; rfl) rfl rfl (dcg dc_X12_hasPart 15 rfl) hk35 ?_
    obtain ⟨h36, rfl, hf⟩ := lt_some hf
    refine p_aload_n X (dcg dc_X12_hasPart 16 rfl) rfl rfl ?_
    refine p_dup X (dcg dc_X12_hasPart 17 rfl) rfl ?_
    refine p_getI X fl_X12_290 rfl (by decide) (dcg dc_X12_hasPart 18 rfl) hk35 ?_
    refine p_iconst (v := 1) X (dcg dc_X12_hasPart 19 rfl) (by decide) ?_
    refine p_isub X (dcg dc_X12_hasPart 20 rfl) ?_
    refine p_putI X fl_X12_290 rfl (by decide) (fun q hq => by cases hq; rfl) rfl rfl (dcg dc_X12_hasPart 21 rfl) hk35 ?_
    obtain ⟨h37, rfl, hf⟩ := lt_some hf
    refine p_goto (tgt := 2) X (dcg dc_X12_hasPart 22 rfl) (by decide) ?_
    refine p_pick [0, 2] ?_
    exact k0 _ (Option.some.inj hf).symm
noncomputable def fX12_hasPart_l2 (v0 : Nat) (v2 : Int32) (h : PH) : Option PH := wh (fun z : (Int32 × PH) => fX12_hasPart_c2 v0 (z.1) (z.2)) (v2, h)
set_option maxRecDepth 100000 in
theorem mX12_hasPart_l2 {v0 : Nat} {v2 : Int32} {h : PH} {r : PH} (hf : fX12_hasPart_l2 v0 v2 h = some r) : eqz h (hX r) (hV r) := by
  unfold fX12_hasPart_l2 at hf
  refine wh_ind (P := fun z => eqz (z.2) (hX r) (hV r)) (fun z x0 hs i1 i2 => ?_) _ hf
  obtain ⟨c0, cf⟩ := mX12_hasPart_c2 (v0 := v0) (v2 := z.1) (h := z.2) hs
  rcases hxx : x0 with zz | zz
  · exact eqz_tr (c0 zz hxx) (i1 zz hxx)
  · have ee := i2 zz hxx; subst ee; exact cf zz hxx
set_option maxRecDepth 100000 in
theorem wX12_hasPart_l2 {E : PE} {p : Program} {l : Launch} {e : Env} {s : State} {m : MethodId} {args : Array Value} {below : List Frame} {meth : Method} {c : Code} (X : Cx E p l e (rmv 2 0 0) s m args below meth c RX12 cX12_hasPart 3 (none)) (hG : Gs E l) (hnm : meth.name = yX12_hasPart.name) {v0 : Nat} {v2 : Int32} {h : PH} {r : PH} (hf : fX12_hasPart_l2 v0 v2 h = some r)  : PW E p l e (rmv 2 0 0) s m args below meth c 3 0 0 (MQ below (QG E (fun v u => v = none ∧ u = r)) args s 0 0 (pA E)) h 2 [(0, some (.ref v0)), (2, some (.int v2))] [] := by
  unfold fX12_hasPart_l2 at hf
  refine wh_ind (P := fun z => PW E p l e (rmv 2 0 0) s m args below meth c 3 0 0 (MQ below (QG E (fun v u => v = none ∧ u = r)) args s 0 0 (pA E)) (z.2) 2 [(0, some (.ref v0)), (2, some (.int (z.1)))] []) (fun z x0 hs i1 i2 => ?_) _ hf
  exact wX12_hasPart_c2 (r := r) (v0 := v0) (v2 := z.1) (h := z.2) X hG hnm hs i1  i2
noncomputable def fX12_hasPart (v0 : Nat) (v1 : Int32) (h : PH) : Option PH :=
  fX12_hasPart_l2 v0 v1 h
set_option maxRecDepth 100000 in
theorem mX12_hasPart {v0 : Nat} {v1 : Int32} {h : PH} {r : PH} (hf : fX12_hasPart v0 v1 h = some r) : eqz h (hX r) (hV r) := by
  unfold fX12_hasPart at hf
  have hle := eqz_rf h
  exact eqz_rt (mX12_hasPart_l2 hf) hle
set_option maxRecDepth 100000 in
theorem wX12_hasPart {E : PE} {l : Launch} (hG : Gs E l) {v0 : Nat} {v1 : Int32} {h : PH} {r : PH} (hf : fX12_hasPart v0 v1 h = some r) : Ct E l 2 0 0 yX12_hasPart cX12_hasPart 3 (none) [.ref v0, .int v1] h (fun v u => v = none ∧ u = r) := by
  refine ct_of hG (by decide) (Nat.le_of_ble_eq_true rfl) ?_
  intro p e s m args below meth c X hnm
  show PW E p l e _ s m args below meth c _ 0 0 _ h 0 [(0, some (.ref v0)), (1, some (.int v1))] []
  unfold fX12_hasPart at hf
  refine p_iload_n X (dcg dc_X12_hasPart 0 rfl) rfl rfl ?_
  refine p_istore_n X (dcg dc_X12_hasPart 1 rfl) rfl (by decide) rfl ?_
  refine p_pick [0, 2] ?_
  exact wX12_hasPart_l2 X hG hnm hf 
theorem dc_X12_joins : decs cX12_joins [(0, .iload_n 3, 1), (1, .iconst 1, 1), (2, .if_icmp .ne 5, 3), (5, .iload_n 2, 1), (6, .ireturn, 1), (7, .aload_n 0, 1), (8, .bipush 6, 2), (10, .iload_n 1, 1), (11, .iconst 0, 1), (12, .iconst 0, 1), (13, .invokevirtual 277, 3), (16, .istore 4, 2), (18, .aload_n 0, 1), (19, .getfield 72, 3), (22, .sipush 2400, 3), (25, .iload 4, 2), (27, .iadd, 1), (28, .iload_n 2, 1), (29, .iastore, 1), (30, .iload 4, 2), (32, .ireturn, 1)] = true := by decide +kernel
noncomputable def fX12_joins (v0 : Nat) (v1 : Int32) (v2 : Int32) (v3 : Int32) (h : PH) : Option (Int32 × PH) :=
  if (¬ v3 = (1 : Int32)) then (gd (hK h v0 = 12) (bd (fX12_makes v0 (6 : Int32) v1 (0 : Int32) (0 : Int32) h) (fun z2 =>
  gd (hK z2.2 v0 = 12) (gs (hR z2.2 12 v0 29) (fun a4 =>
  gd (hK z2.2 a4 = 20 ∧ inb ((2400 : Int32) + z2.1) (hN z2.2 a4)) (lt (sI z2.2 20 a4 (Int32.toNatClampNeg ((2400 : Int32) + z2.1)) v2) (fun h8 =>
  some ((z2.1, h8))))))))) else
  some ((v2, h))
set_option maxRecDepth 100000 in
theorem mX12_joins {v0 : Nat} {v1 : Int32} {v2 : Int32} {v3 : Int32} {h : PH} {r : (Int32 × PH)} (hf : fX12_joins v0 v1 v2 v3 h = some r) : eqz h (hX r.2) (hV r.2) := by
  unfold fX12_joins at hf
  have hle := eqz_rf h
  rcases ite_or hf with ⟨q, hf⟩ | ⟨q, hf⟩
  · have hf := if_t q hf
    obtain ⟨hk1, hf⟩ := gd_some hf
    obtain ⟨z2, hz2, hf⟩ := bd_some hf
    have hle := eqz_rt (mX12_makes hz2) hle
    obtain ⟨hk3, hf⟩ := gd_some hf
    obtain ⟨a4, e5, hf⟩ := gs_some hf
    obtain ⟨⟨hk7, hb6⟩, hf⟩ := gd_some hf
    obtain ⟨h8, rfl, hf⟩ := lt_some hf
    have ee := Option.some.inj hf; subst ee; exact hle
  · have hf := if_f q hf
    have ee := Option.some.inj hf; subst ee; exact hle
set_option maxRecDepth 100000 in
theorem wX12_joins {E : PE} {l : Launch} (hG : Gs E l) {v0 : Nat} {v1 : Int32} {v2 : Int32} {v3 : Int32} {h : PH} {r : (Int32 × PH)} (hf : fX12_joins v0 v1 v2 v3 h = some r) : Ct E l 1 0 0 yX12_joins cX12_joins 5 (some .int) [.ref v0, .int v1, .int v2, .int v3] h (fun v u => v = some (.int r.1) ∧ u = r.2) := by
  refine ct_of hG (by decide) (Nat.le_of_ble_eq_true rfl) ?_
  intro p e s m args below meth c X hnm
  show PW E p l e _ s m args below meth c _ 0 0 _ h 0 [(0, some (.ref v0)), (1, some (.int v1)), (2, some (.int v2)), (3, some (.int v3))] []
  unfold fX12_joins at hf
  refine p_iload_n X (dcg dc_X12_joins 0 rfl) rfl rfl ?_
  refine p_iconst (v := 1) X (dcg dc_X12_joins 1 rfl) (by decide) ?_
  refine p_icmp_ne (tgt := 7) X (dcg dc_X12_joins 2 rfl) (by decide) (fun q => ?_) (fun q => ?_)
  · have hf := if_t q hf
    refine p_aload_n X (dcg dc_X12_joins 5 rfl) rfl rfl ?_
    refine p_bipush (v := 6) X (dcg dc_X12_joins 6 rfl) (by decide) ?_
    refine p_iload_n X (dcg dc_X12_joins 7 rfl) rfl rfl ?_
    refine p_iconst (v := 0) X (dcg dc_X12_joins 8 rfl) (by decide) ?_
    refine p_iconst (v := 0) X (dcg dc_X12_joins 9 rfl) (by decide) ?_
    obtain ⟨hk1, hf⟩ := gd_some hf
    obtain ⟨z2, hz2, hf⟩ := bd_some hf
    refine p_callV (As := [_, _, _, _]) X ml_X12_277 (dcg dc_X12_joins 10 rfl) rfl rfl hk1 (wX12_makes hG hz2) (by decide) (room4 (Nat.le_of_ble_eq_true rfl)) (Nat.le_refl _) (Nat.le_refl _) ?_
    rintro _ u9 ⟨rfl, e9⟩; have e9 := e9.symm; subst e9
    refine p_istore X (dcg dc_X12_joins 11 rfl) (by decide) rfl ?_
    refine p_aload_n X (dcg dc_X12_joins 12 rfl) rfl rfl ?_
    obtain ⟨hk3, hf⟩ := gd_some hf
    refine p_getR X fl_X12_72 rfl (by decide) (dcg dc_X12_joins 13 rfl) hk3 ?_
    refine p_sipush (v := 2400) X (dcg dc_X12_joins 14 rfl) (by decide) ?_
    refine p_iload X (dcg dc_X12_joins 15 rfl) rfl ?_
    refine p_iadd X (dcg dc_X12_joins 16 rfl) ?_
    refine p_iload_n X (dcg dc_X12_joins 17 rfl) rfl rfl ?_
    obtain ⟨a4, e5, hf⟩ := gs_some hf
    first | subst e5 | (try rw [e5])
    obtain ⟨⟨hk7, hb6⟩, hf⟩ := gd_some hf
    refine p_iast X (dcg dc_X12_joins 18 rfl) hk7 (vp_of_inb hb6) ?_
    obtain ⟨h8, rfl, hf⟩ := lt_some hf
    refine p_iload X (dcg dc_X12_joins 19 rfl) rfl ?_
    have er := Option.some.inj hf
    subst er
    exact p_iret X rfl (dcg dc_X12_joins 20 rfl) ⟨rfl, rfl⟩ (Nat.le_refl _) (Nat.le_refl _)
  · have hf := if_f q hf
    refine p_iload_n X (dcg dc_X12_joins 3 rfl) rfl rfl ?_
    have er := Option.some.inj hf
    subst er
    exact p_iret X rfl (dcg dc_X12_joins 4 rfl) ⟨rfl, rfl⟩ (Nat.le_refl _) (Nat.le_refl _)
theorem dc_X12_endsAnd : decs cX12_endsAnd [(0, .aload_n 0, 1), (1, .iconst 5, 1), (2, .aload_n 0, 1), (3, .getfield 90, 3), (6, .aload_n 0, 1), (7, .getfield 281, 3), (10, .iaload, 1), (11, .aload_n 0, 1), (12, .getfield 96, 3), (15, .aload_n 0, 1), (16, .getfield 281, 3), (19, .iaload, 1), (20, .invokevirtual 293, 3), (23, .istore_n 1, 1), (24, .aload_n 0, 1), (25, .getfield 96, 3), (28, .aload_n 0, 1), (29, .getfield 281, 3), (32, .iconst 0, 1), (33, .iastore, 1), (34, .aload_n 0, 1), (35, .getfield 105, 3), (38, .aload_n 0, 1), (39, .getfield 281, 3), (42, .iaload, 1), (43, .ifCond .ne 16, 3), (46, .aload_n 0, 1), (47, .getfield 99, 3), (50, .aload_n 0, 1), (51, .getfield 281, 3), (54, .iload_n 1, 1), (55, .iastore, 1), (56, .goto 22, 3), (59, .aload_n 0, 1), (60, .getfield 75, 3), (63, .sipush 2400, 3), (66, .aload_n 0, 1), (67, .getfield 102, 3), (70, .aload_n 0, 1), (71, .getfield 281, 3), (74, .iaload, 1), (75, .iadd, 1), (76, .iload_n 1, 1), (77, .iastore, 1), (78, .aload_n 0, 1), (79, .getfield 102, 3), (82, .aload_n 0, 1), (83, .getfield 281, 3), (86, .iload_n 1, 1), (87, .iastore, 1), (88, .aload_n 0, 1), (89, .getfield 105, 3), (92, .aload_n 0, 1), (93, .getfield 281, 3), (96, .dup2, 1), (97, .iaload, 1), (98, .iconst 1, 1), (99, .iadd, 1), (100, .iastore, 1), (101, .return_, 1)] = true := by decide +kernel
noncomputable def fX12_endsAnd_b78 (v0 : Nat) (v1 : Int32) (h : PH) : Option PH :=
  gd (hK h v0 = 12) (gs (hR h 12 v0 39) (fun a31 =>
  gd (hK h a31 = 20 ∧ inb (hI h 12 v0 42) (hN h a31)) (lt (sI h 20 a31 (Int32.toNatClampNeg (hI h 12 v0 42)) v1) (fun h35 =>
  gs (hR h35 12 v0 40) (fun a36 =>
  gd (hK h35 a36 = 20 ∧ inb (hI h35 12 v0 42) (hN h35 a36)) (gd (inb (hI h35 12 v0 42) (hN h35 a36)) (lt (sI h35 20 a36 (Int32.toNatClampNeg (hI h35 12 v0 42)) ((hI h35 20 a36 (Int32.toNatClampNeg (hI h35 12 v0 42))) + (1 : Int32))) (fun h41 =>
  some (h41)))))))))
set_option maxRecDepth 100000 in
theorem mX12_endsAnd_b78 {v0 : Nat} {v1 : Int32} {h : PH} {r : PH} (hf : fX12_endsAnd_b78 v0 v1 h = some r) : eqz h (hX r) (hV r) := by
  unfold fX12_endsAnd_b78 at hf
  have hle := eqz_rf h
  obtain ⟨hk30, hf⟩ := gd_some hf
  obtain ⟨a31, e32, hf⟩ := gs_some hf
  obtain ⟨⟨hk34, hb33⟩, hf⟩ := gd_some hf
  obtain ⟨h35, rfl, hf⟩ := lt_some hf
  obtain ⟨a36, e37, hf⟩ := gs_some hf
  obtain ⟨⟨hk39, hb38⟩, hf⟩ := gd_some hf
  obtain ⟨hb40, hf⟩ := gd_some hf
  obtain ⟨h41, rfl, hf⟩ := lt_some hf
  have ee := Option.some.inj hf; subst ee; exact hle
set_option maxRecDepth 100000 in
theorem wX12_endsAnd_b78 {E : PE} {p : Program} {l : Launch} {e : Env} {s : State} {m : MethodId} {args : Array Value} {below : List Frame} {meth : Method} {c : Code} (X : Cx E p l e (rmv 2 0 0) s m args below meth c RX12 cX12_endsAnd 2 (none)) (hG : Gs E l) (hnm : meth.name = yX12_endsAnd.name) {v0 : Nat} {v1 : Int32} {h : PH} {r : PH} (hf : fX12_endsAnd_b78 v0 v1 h = some r)  : PW E p l e (rmv 2 0 0) s m args below meth c 2 0 0 (MQ below (QG E (fun v u => v = none ∧ u = r)) args s 0 0 (pA E)) h 78 [(0, some (.ref v0)), (1, some (.int v1))] [] := by
  unfold fX12_endsAnd_b78 at hf
  refine p_aload_n X (dcg dc_X12_endsAnd 44 rfl) rfl rfl ?_
  obtain ⟨hk30, hf⟩ := gd_some hf
  refine p_getR X fl_X12_102 rfl (by decide) (dcg dc_X12_endsAnd 45 rfl) hk30 ?_
  refine p_aload_n X (dcg dc_X12_endsAnd 46 rfl) rfl rfl ?_
  refine p_getI X fl_X12_281 rfl (by decide) (dcg dc_X12_endsAnd 47 rfl) hk30 ?_
  refine p_iload_n X (dcg dc_X12_endsAnd 48 rfl) rfl rfl ?_
  obtain ⟨a31, e32, hf⟩ := gs_some hf
  first | subst e32 | (try rw [e32])
  obtain ⟨⟨hk34, hb33⟩, hf⟩ := gd_some hf
  refine p_iast X (dcg dc_X12_endsAnd 49 rfl) hk34 (vp_of_inb hb33) ?_
  obtain ⟨h35, rfl, hf⟩ := lt_some hf
  refine p_aload_n X (dcg dc_X12_endsAnd 50 rfl) rfl rfl ?_
  refine p_getR X fl_X12_105 rfl (by decide) (dcg dc_X12_endsAnd 51 rfl) hk30 ?_
  refine p_aload_n X (dcg dc_X12_endsAnd 52 rfl) rfl rfl ?_
  refine p_getI X fl_X12_281 rfl (by decide) (dcg dc_X12_endsAnd 53 rfl) hk30 ?_
  refine p_dup2 X (dcg dc_X12_endsAnd 54 rfl) rfl (cat_rf _) ?_
  obtain ⟨a36, e37, hf⟩ := gs_some hf
  first | subst e37 | (try rw [e37])
  obtain ⟨⟨hk39, hb38⟩, hf⟩ := gd_some hf
  refine p_iald X (dcg dc_X12_endsAnd 55 rfl) hk39 (vp_of_inb hb38) ?_
  refine p_iconst (v := 1) X (dcg dc_X12_endsAnd 56 rfl) (by decide) ?_
  refine p_iadd X (dcg dc_X12_endsAnd 57 rfl) ?_
  obtain ⟨hb40, hf⟩ := gd_some hf
  refine p_iast X (dcg dc_X12_endsAnd 58 rfl) hk39 (vp_of_inb hb40) ?_
  obtain ⟨h41, rfl, hf⟩ := lt_some hf
  have er := Option.some.inj hf
  subst er
  exact p_vret X rfl (dcg dc_X12_endsAnd 59 rfl) ⟨rfl, rfl⟩ (Nat.le_refl _) (Nat.le_refl _)
noncomputable def fX12_endsAnd (v0 : Nat) (h : PH) : Option PH :=
  gd (hK h v0 = 12) (gs (hR h 12 v0 35) (fun a2 =>
  gd (hK h a2 = 20 ∧ inb (hI h 12 v0 42) (hN h a2)) (gs (hR h 12 v0 37) (fun a6 =>
  gd (hK h a6 = 20 ∧ inb (hI h 12 v0 42) (hN h a6)) (bd (fX12_joins v0 (5 : Int32) (hI h 20 a2 (Int32.toNatClampNeg (hI h 12 v0 42))) (hI h 20 a6 (Int32.toNatClampNeg (hI h 12 v0 42))) h) (fun z10 =>
  gd (hK z10.2 v0 = 12) (gs (hR z10.2 12 v0 37) (fun a12 =>
  gd (hK z10.2 a12 = 20 ∧ inb (hI z10.2 12 v0 42) (hN z10.2 a12)) (lt (sI z10.2 20 a12 (Int32.toNatClampNeg (hI z10.2 12 v0 42)) (0 : Int32)) (fun h16 =>
  gs (hR h16 12 v0 40) (fun a17 =>
  gd (hK h16 a17 = 20 ∧ inb (hI h16 12 v0 42) (hN h16 a17)) (if (¬ (hI h16 20 a17 (Int32.toNatClampNeg (hI h16 12 v0 42))) = 0) then (gs (hR h16 12 v0 39) (fun a21 =>
  gd (hK h16 a21 = 20 ∧ inb (hI h16 12 v0 42) (hN h16 a21)) (gs (hR h16 12 v0 30) (fun a25 =>
  gd (hK h16 a25 = 20 ∧ inb ((2400 : Int32) + (hI h16 20 a21 (Int32.toNatClampNeg (hI h16 12 v0 42)))) (hN h16 a25)) (lt (sI h16 20 a25 (Int32.toNatClampNeg ((2400 : Int32) + (hI h16 20 a21 (Int32.toNatClampNeg (hI h16 12 v0 42))))) z10.1) (fun h29 =>
  fX12_endsAnd_b78 v0 z10.1 h29)))))) else
  gs (hR h16 12 v0 38) (fun a42 =>
  gd (hK h16 a42 = 20 ∧ inb (hI h16 12 v0 42) (hN h16 a42)) (lt (sI h16 20 a42 (Int32.toNatClampNeg (hI h16 12 v0 42)) z10.1) (fun h46 =>
  fX12_endsAnd_b78 v0 z10.1 h46)))))))))))))))
set_option maxRecDepth 100000 in
theorem mX12_endsAnd {v0 : Nat} {h : PH} {r : PH} (hf : fX12_endsAnd v0 h = some r) : eqz h (hX r) (hV r) := by
  unfold fX12_endsAnd at hf
  have hle := eqz_rf h
  obtain ⟨hk1, hf⟩ := gd_some hf
  obtain ⟨a2, e3, hf⟩ := gs_some hf
  obtain ⟨⟨hk5, hb4⟩, hf⟩ := gd_some hf
  obtain ⟨a6, e7, hf⟩ := gs_some hf
  obtain ⟨⟨hk9, hb8⟩, hf⟩ := gd_some hf
  obtain ⟨z10, hz10, hf⟩ := bd_some hf
  have hle := eqz_rt (mX12_joins hz10) hle
  obtain ⟨hk11, hf⟩ := gd_some hf
  obtain ⟨a12, e13, hf⟩ := gs_some hf
  obtain ⟨⟨hk15, hb14⟩, hf⟩ := gd_some hf
  obtain ⟨h16, rfl, hf⟩ := lt_some hf
  obtain ⟨a17, e18, hf⟩ := gs_some hf
  obtain ⟨⟨hk20, hb19⟩, hf⟩ := gd_some hf
  rcases ite_or hf with ⟨q, hf⟩ | ⟨q, hf⟩
  · have hf := if_t q hf
    obtain ⟨a21, e22, hf⟩ := gs_some hf
    obtain ⟨⟨hk24, hb23⟩, hf⟩ := gd_some hf
    obtain ⟨a25, e26, hf⟩ := gs_some hf
    obtain ⟨⟨hk28, hb27⟩, hf⟩ := gd_some hf
    obtain ⟨h29, rfl, hf⟩ := lt_some hf
    exact eqz_rt (mX12_endsAnd_b78 hf) hle
  · have hf := if_f q hf
    obtain ⟨a42, e43, hf⟩ := gs_some hf
    obtain ⟨⟨hk45, hb44⟩, hf⟩ := gd_some hf
    obtain ⟨h46, rfl, hf⟩ := lt_some hf
    exact eqz_rt (mX12_endsAnd_b78 hf) hle
set_option maxRecDepth 100000 in
theorem wX12_endsAnd {E : PE} {l : Launch} (hG : Gs E l) {v0 : Nat} {h : PH} {r : PH} (hf : fX12_endsAnd v0 h = some r) : Ct E l 2 0 0 yX12_endsAnd cX12_endsAnd 2 (none) [.ref v0] h (fun v u => v = none ∧ u = r) := by
  refine ct_of hG (by decide) (Nat.le_of_ble_eq_true rfl) ?_
  intro p e s m args below meth c X hnm
  show PW E p l e _ s m args below meth c _ 0 0 _ h 0 [(0, some (.ref v0))] []
  unfold fX12_endsAnd at hf
  refine p_aload_n X (dcg dc_X12_endsAnd 0 rfl) rfl rfl ?_
  refine p_iconst (v := 5) X (dcg dc_X12_endsAnd 1 rfl) (by decide) ?_
  refine p_aload_n X (dcg dc_X12_endsAnd 2 rfl) rfl rfl ?_
  obtain ⟨hk1, hf⟩ := gd_some hf
  refine p_getR X fl_X12_90 rfl (by decide) (dcg dc_X12_endsAnd 3 rfl) hk1 ?_
  refine p_aload_n X (dcg dc_X12_endsAnd 4 rfl) rfl rfl ?_
  refine p_getI X fl_X12_281 rfl (by decide) (dcg dc_X12_endsAnd 5 rfl) hk1 ?_
  obtain ⟨a2, e3, hf⟩ := gs_some hf
  first | subst e3 | (try rw [e3])
  obtain ⟨⟨hk5, hb4⟩, hf⟩ := gd_some hf
  refine p_iald X (dcg dc_X12_endsAnd 6 rfl) hk5 (vp_of_inb hb4) ?_
  refine p_aload_n X (dcg dc_X12_endsAnd 7 rfl) rfl rfl ?_
  refine p_getR X fl_X12_96 rfl (by decide) (dcg dc_X12_endsAnd 8 rfl) hk1 ?_
  refine p_aload_n X (dcg dc_X12_endsAnd 9 rfl) rfl rfl ?_
  refine p_getI X fl_X12_281 rfl (by decide) (dcg dc_X12_endsAnd 10 rfl) hk1 ?_
  obtain ⟨a6, e7, hf⟩ := gs_some hf
  first | subst e7 | (try rw [e7])
  obtain ⟨⟨hk9, hb8⟩, hf⟩ := gd_some hf
  refine p_iald X (dcg dc_X12_endsAnd 11 rfl) hk9 (vp_of_inb hb8) ?_
  obtain ⟨z10, hz10, hf⟩ := bd_some hf
  refine p_callV (As := [_, _, _]) X ml_X12_293 (dcg dc_X12_endsAnd 12 rfl) rfl rfl hk1 (wX12_joins hG hz10) (by decide) (room4 (Nat.le_of_ble_eq_true rfl)) (Nat.le_refl _) (Nat.le_refl _) ?_
  rintro _ u9 ⟨rfl, e9⟩; have e9 := e9.symm; subst e9
  refine p_istore_n X (dcg dc_X12_endsAnd 13 rfl) rfl (by decide) rfl ?_
  refine p_aload_n X (dcg dc_X12_endsAnd 14 rfl) rfl rfl ?_
  obtain ⟨hk11, hf⟩ := gd_some hf
  refine p_getR X fl_X12_96 rfl (by decide) (dcg dc_X12_endsAnd 15 rfl) hk11 ?_
  refine p_aload_n X (dcg dc_X12_endsAnd 16 rfl) rfl rfl ?_
  refine p_getI X fl_X12_281 rfl (by decide) (dcg dc_X12_endsAnd 17 rfl) hk11 ?_
  refine p_iconst (v := 0) X (dcg dc_X12_endsAnd 18 rfl) (by decide) ?_
  obtain ⟨a12, e13, hf⟩ := gs_some hf
  first | subst e13 | (try rw [e13])
  obtain ⟨⟨hk15, hb14⟩, hf⟩ := gd_some hf
  refine p_iast X (dcg dc_X12_endsAnd 19 rfl) hk15 (vp_of_inb hb14) ?_
  obtain ⟨h16, rfl, hf⟩ := lt_some hf
  refine p_aload_n X (dcg dc_X12_endsAnd 20 rfl) rfl rfl ?_
  refine p_getR X fl_X12_105 rfl (by decide) (dcg dc_X12_endsAnd 21 rfl) hk11 ?_
  refine p_aload_n X (dcg dc_X12_endsAnd 22 rfl) rfl rfl ?_
  refine p_getI X fl_X12_281 rfl (by decide) (dcg dc_X12_endsAnd 23 rfl) hk11 ?_
  obtain ⟨a17, e18, hf⟩ := gs_some hf
  first | subst e18 | (try rw [e18])
  obtain ⟨⟨hk20, hb19⟩, hf⟩ := gd_some hf
  refine p_iald X (dcg dc_X12_endsAnd 24 rfl) hk20 (vp_of_inb hb19) ?_
  refine p_if_ne (tgt := 59) X (dcg dc_X12_endsAnd 25 rfl) (by decide) (fun q => ?_) (fun q => ?_)
  · have hf := if_t q hf
    refine p_aload_n X (dcg dc_X12_endsAnd 33 rfl) rfl rfl ?_
    refine p_getR X fl_X12_75 rfl (by decide) (dcg dc_X12_endsAnd 34 rfl) hk11 ?_
    refine p_sipush (v := 2400) X (dcg dc_X12_endsAnd 35 rfl) (by decide) ?_
    refine p_aload_n X (dcg dc_X12_endsAnd 36 rfl) rfl rfl ?_
    refine p_getR X fl_X12_102 rfl (by decide) (dcg dc_X12_endsAnd 37 rfl) hk11 ?_
    refine p_aload_n X (dcg dc_X12_endsAnd 38 rfl) rfl rfl ?_
    refine p_getI X fl_X12_281 rfl (by decide) (dcg dc_X12_endsAnd 39 rfl) hk11 ?_
    obtain ⟨a21, e22, hf⟩ := gs_some hf
    first | subst e22 | (try rw [e22])
    obtain ⟨⟨hk24, hb23⟩, hf⟩ := gd_some hf
    refine p_iald X (dcg dc_X12_endsAnd 40 rfl) hk24 (vp_of_inb hb23) ?_
    refine p_iadd X (dcg dc_X12_endsAnd 41 rfl) ?_
    refine p_iload_n X (dcg dc_X12_endsAnd 42 rfl) rfl rfl ?_
    obtain ⟨a25, e26, hf⟩ := gs_some hf
    first | subst e26 | (try rw [e26])
    obtain ⟨⟨hk28, hb27⟩, hf⟩ := gd_some hf
    refine p_iast X (dcg dc_X12_endsAnd 43 rfl) hk28 (vp_of_inb hb27) ?_
    obtain ⟨h29, rfl, hf⟩ := lt_some hf
    refine p_pick [0, 1] ?_
    exact wX12_endsAnd_b78 X hG hnm hf 
  · have hf := if_f q hf
    refine p_aload_n X (dcg dc_X12_endsAnd 26 rfl) rfl rfl ?_
    refine p_getR X fl_X12_99 rfl (by decide) (dcg dc_X12_endsAnd 27 rfl) hk11 ?_
    refine p_aload_n X (dcg dc_X12_endsAnd 28 rfl) rfl rfl ?_
    refine p_getI X fl_X12_281 rfl (by decide) (dcg dc_X12_endsAnd 29 rfl) hk11 ?_
    refine p_iload_n X (dcg dc_X12_endsAnd 30 rfl) rfl rfl ?_
    obtain ⟨a42, e43, hf⟩ := gs_some hf
    first | subst e43 | (try rw [e43])
    obtain ⟨⟨hk45, hb44⟩, hf⟩ := gd_some hf
    refine p_iast X (dcg dc_X12_endsAnd 31 rfl) hk45 (vp_of_inb hb44) ?_
    obtain ⟨h46, rfl, hf⟩ := lt_some hf
    refine p_goto (tgt := 78) X (dcg dc_X12_endsAnd 32 rfl) (by decide) ?_
    refine p_pick [0, 1] ?_
    exact wX12_endsAnd_b78 X hG hnm hf 
theorem dc_X12_endsOr : decs cX12_endsOr [(0, .aload_n 0, 1), (1, .invokevirtual 297, 3), (4, .aload_n 0, 1), (5, .bipush 6, 2), (7, .aload_n 0, 1), (8, .getfield 99, 3), (11, .aload_n 0, 1), (12, .getfield 281, 3), (15, .iaload, 1), (16, .aload_n 0, 1), (17, .getfield 105, 3), (20, .aload_n 0, 1), (21, .getfield 281, 3), (24, .iaload, 1), (25, .invokevirtual 293, 3), (28, .ireturn, 1)] = true := by decide +kernel
noncomputable def fX12_endsOr (v0 : Nat) (h : PH) : Option (Int32 × PH) :=
  gd (hK h v0 = 12) (bd (fX12_endsAnd v0 h) (fun z2 =>
  gd (hK z2 v0 = 12) (gs (hR z2 12 v0 38) (fun a4 =>
  gd (hK z2 a4 = 20 ∧ inb (hI z2 12 v0 42) (hN z2 a4)) (gs (hR z2 12 v0 40) (fun a8 =>
  gd (hK z2 a8 = 20 ∧ inb (hI z2 12 v0 42) (hN z2 a8)) (bd (fX12_joins v0 (6 : Int32) (hI z2 20 a4 (Int32.toNatClampNeg (hI z2 12 v0 42))) (hI z2 20 a8 (Int32.toNatClampNeg (hI z2 12 v0 42))) z2) (fun z12 =>
  some ((z12.1, z12.2))))))))))
set_option maxRecDepth 100000 in
theorem mX12_endsOr {v0 : Nat} {h : PH} {r : (Int32 × PH)} (hf : fX12_endsOr v0 h = some r) : eqz h (hX r.2) (hV r.2) := by
  unfold fX12_endsOr at hf
  have hle := eqz_rf h
  obtain ⟨hk1, hf⟩ := gd_some hf
  obtain ⟨z2, hz2, hf⟩ := bd_some hf
  have hle := eqz_rt (mX12_endsAnd hz2) hle
  obtain ⟨hk3, hf⟩ := gd_some hf
  obtain ⟨a4, e5, hf⟩ := gs_some hf
  obtain ⟨⟨hk7, hb6⟩, hf⟩ := gd_some hf
  obtain ⟨a8, e9, hf⟩ := gs_some hf
  obtain ⟨⟨hk11, hb10⟩, hf⟩ := gd_some hf
  obtain ⟨z12, hz12, hf⟩ := bd_some hf
  have hle := eqz_rt (mX12_joins hz12) hle
  have ee := Option.some.inj hf; subst ee; exact hle
set_option maxRecDepth 100000 in
theorem wX12_endsOr {E : PE} {l : Launch} (hG : Gs E l) {v0 : Nat} {h : PH} {r : (Int32 × PH)} (hf : fX12_endsOr v0 h = some r) : Ct E l 3 0 0 yX12_endsOr cX12_endsOr 1 (some .int) [.ref v0] h (fun v u => v = some (.int r.1) ∧ u = r.2) := by
  refine ct_of hG (by decide) (Nat.le_of_ble_eq_true rfl) ?_
  intro p e s m args below meth c X hnm
  show PW E p l e _ s m args below meth c _ 0 0 _ h 0 [(0, some (.ref v0))] []
  unfold fX12_endsOr at hf
  refine p_aload_n X (dcg dc_X12_endsOr 0 rfl) rfl rfl ?_
  obtain ⟨hk1, hf⟩ := gd_some hf
  obtain ⟨z2, hz2, hf⟩ := bd_some hf
  refine p_callV (As := []) X ml_X12_297 (dcg dc_X12_endsOr 1 rfl) rfl rfl hk1 (wX12_endsAnd hG hz2) (by decide) (room4 (Nat.le_of_ble_eq_true rfl)) (Nat.le_refl _) (Nat.le_refl _) ?_
  rintro _ u9 ⟨rfl, e9⟩; have e9 := e9.symm; subst e9
  refine p_aload_n X (dcg dc_X12_endsOr 2 rfl) rfl rfl ?_
  refine p_bipush (v := 6) X (dcg dc_X12_endsOr 3 rfl) (by decide) ?_
  refine p_aload_n X (dcg dc_X12_endsOr 4 rfl) rfl rfl ?_
  obtain ⟨hk3, hf⟩ := gd_some hf
  refine p_getR X fl_X12_99 rfl (by decide) (dcg dc_X12_endsOr 5 rfl) hk3 ?_
  refine p_aload_n X (dcg dc_X12_endsOr 6 rfl) rfl rfl ?_
  refine p_getI X fl_X12_281 rfl (by decide) (dcg dc_X12_endsOr 7 rfl) hk3 ?_
  obtain ⟨a4, e5, hf⟩ := gs_some hf
  first | subst e5 | (try rw [e5])
  obtain ⟨⟨hk7, hb6⟩, hf⟩ := gd_some hf
  refine p_iald X (dcg dc_X12_endsOr 8 rfl) hk7 (vp_of_inb hb6) ?_
  refine p_aload_n X (dcg dc_X12_endsOr 9 rfl) rfl rfl ?_
  refine p_getR X fl_X12_105 rfl (by decide) (dcg dc_X12_endsOr 10 rfl) hk3 ?_
  refine p_aload_n X (dcg dc_X12_endsOr 11 rfl) rfl rfl ?_
  refine p_getI X fl_X12_281 rfl (by decide) (dcg dc_X12_endsOr 12 rfl) hk3 ?_
  obtain ⟨a8, e9, hf⟩ := gs_some hf
  first | subst e9 | (try rw [e9])
  obtain ⟨⟨hk11, hb10⟩, hf⟩ := gd_some hf
  refine p_iald X (dcg dc_X12_endsOr 13 rfl) hk11 (vp_of_inb hb10) ?_
  obtain ⟨z12, hz12, hf⟩ := bd_some hf
  refine p_callV (As := [_, _, _]) X ml_X12_293 (dcg dc_X12_endsOr 14 rfl) rfl rfl hk3 (wX12_joins hG hz12) (by decide) (room4 (Nat.le_of_ble_eq_true rfl)) (Nat.le_refl _) (Nat.le_refl _) ?_
  rintro _ u9 ⟨rfl, e9⟩; have e9 := e9.symm; subst e9
  have er := Option.some.inj hf
  subst er
  exact p_iret X rfl (dcg dc_X12_endsOr 15 rfl) ⟨rfl, rfl⟩ (Nat.le_refl _) (Nat.le_refl _)
theorem dc_X12_takesWord : decs cX12_takesWord [(0, .aload_n 0, 1), (1, .getfield 264, 3), (4, .iconst 3, 1), (5, .if_icmp .ne 12, 3), (8, .aload_n 0, 1), (9, .getfield 300, 3), (12, .bipush 20, 2), (14, .if_icmp .ne 5, 3), (17, .iconst 0, 1), (18, .ireturn, 1), (19, .aload_n 0, 1), (20, .dup, 1), (21, .getfield 300, 3), (24, .iconst 1, 1), (25, .iadd, 1), (26, .putfield 300, 3), (29, .iconst 1, 1), (30, .ireturn, 1)] = true := by decide +kernel
noncomputable def fX12_takesWord_b17  (h : PH) : Option (Int32 × PH) :=
  some (((0 : Int32), h))
set_option maxRecDepth 100000 in
theorem mX12_takesWord_b17  {h : PH} {r : (Int32 × PH)} (hf : fX12_takesWord_b17  h = some r) : eqz h (hX r.2) (hV r.2) := by
  unfold fX12_takesWord_b17 at hf
  have hle := eqz_rf h
  have ee := Option.some.inj hf; subst ee; exact hle
set_option maxRecDepth 100000 in
theorem wX12_takesWord_b17 {E : PE} {p : Program} {l : Launch} {e : Env} {s : State} {m : MethodId} {args : Array Value} {below : List Frame} {meth : Method} {c : Code} (X : Cx E p l e (rmv 0 0 0) s m args below meth c RX12 cX12_takesWord 1 (some .boolean)) (hG : Gs E l) (hnm : meth.name = yX12_takesWord.name)  {h : PH} {r : (Int32 × PH)} (hf : fX12_takesWord_b17  h = some r)  : PW E p l e (rmv 0 0 0) s m args below meth c 1 0 0 (MQ below (QG E (fun v u => v = some (.int r.1) ∧ u = r.2)) args s 0 0 (pA E)) h 17 [] [] := by
  unfold fX12_takesWord_b17 at hf
  refine p_iconst (v := 0) X (dcg dc_X12_takesWord 8 rfl) (by decide) ?_
  have er := Option.some.inj hf
  subst er
  exact p_zret X rfl rfl (dcg dc_X12_takesWord 9 rfl) ⟨rfl, rfl⟩ (Nat.le_refl _) (Nat.le_refl _)
noncomputable def fX12_takesWord (v0 : Nat) (h : PH) : Option (Int32 × PH) :=
  gd (hK h v0 = 12) (if (¬ (hI h 12 v0 21) = (3 : Int32)) then (fX12_takesWord_b17  h) else
  if (¬ (hI h 12 v0 45) = (20 : Int32)) then (lt (sI h 12 v0 45 ((hI h 12 v0 45) + (1 : Int32))) (fun h2 =>
  some (((1 : Int32), h2)))) else
  fX12_takesWord_b17  h)
set_option maxRecDepth 100000 in
theorem mX12_takesWord {v0 : Nat} {h : PH} {r : (Int32 × PH)} (hf : fX12_takesWord v0 h = some r) : eqz h (hX r.2) (hV r.2) := by
  unfold fX12_takesWord at hf
  have hle := eqz_rf h
  obtain ⟨hk1, hf⟩ := gd_some hf
  rcases ite_or hf with ⟨q, hf⟩ | ⟨q, hf⟩
  · have hf := if_t q hf
    exact eqz_rt (mX12_takesWord_b17 hf) hle
  · have hf := if_f q hf
    rcases ite_or hf with ⟨q, hf⟩ | ⟨q, hf⟩
    · have hf := if_t q hf
      obtain ⟨h2, rfl, hf⟩ := lt_some hf
      have ee := Option.some.inj hf; subst ee; exact hle
    · have hf := if_f q hf
      exact eqz_rt (mX12_takesWord_b17 hf) hle
set_option maxRecDepth 100000 in
theorem wX12_takesWord {E : PE} {l : Launch} (hG : Gs E l) {v0 : Nat} {h : PH} {r : (Int32 × PH)} (hf : fX12_takesWord v0 h = some r) : Ct E l 0 0 0 yX12_takesWord cX12_takesWord 1 (some .boolean) [.ref v0] h (fun v u => v = some (.int r.1) ∧ u = r.2) := by
  refine ct_of hG (by decide) (Nat.le_of_ble_eq_true rfl) ?_
  intro p e s m args below meth c X hnm
  show PW E p l e _ s m args below meth c _ 0 0 _ h 0 [(0, some (.ref v0))] []
  unfold fX12_takesWord at hf
  refine p_aload_n X (dcg dc_X12_takesWord 0 rfl) rfl rfl ?_
  obtain ⟨hk1, hf⟩ := gd_some hf
  refine p_getI X fl_X12_264 rfl (by decide) (dcg dc_X12_takesWord 1 rfl) hk1 ?_
  refine p_iconst (v := 3) X (dcg dc_X12_takesWord 2 rfl) (by decide) ?_
  refine p_icmp_ne (tgt := 17) X (dcg dc_X12_takesWord 3 rfl) (by decide) (fun q => ?_) (fun q => ?_)
  · have hf := if_t q hf
    refine p_pick [] ?_
    exact wX12_takesWord_b17 X hG hnm hf 
  · have hf := if_f q hf
    refine p_aload_n X (dcg dc_X12_takesWord 4 rfl) rfl rfl ?_
    refine p_getI X fl_X12_300 rfl (by decide) (dcg dc_X12_takesWord 5 rfl) hk1 ?_
    refine p_bipush (v := 20) X (dcg dc_X12_takesWord 6 rfl) (by decide) ?_
    refine p_icmp_ne (tgt := 19) X (dcg dc_X12_takesWord 7 rfl) (by decide) (fun q => ?_) (fun q => ?_)
    · have hf := if_t q hf
      refine p_aload_n X (dcg dc_X12_takesWord 10 rfl) rfl rfl ?_
      refine p_dup X (dcg dc_X12_takesWord 11 rfl) rfl ?_
      refine p_getI X fl_X12_300 rfl (by decide) (dcg dc_X12_takesWord 12 rfl) hk1 ?_
      refine p_iconst (v := 1) X (dcg dc_X12_takesWord 13 rfl) (by decide) ?_
      refine p_iadd X (dcg dc_X12_takesWord 14 rfl) ?_
      refine p_putI X fl_X12_300 rfl (by decide) (fun q hq => by cases hq; rfl) rfl rfl (dcg dc_X12_takesWord 15 rfl) hk1 ?_
      obtain ⟨h2, rfl, hf⟩ := lt_some hf
      refine p_iconst (v := 1) X (dcg dc_X12_takesWord 16 rfl) (by decide) ?_
      have er := Option.some.inj hf
      subst er
      exact p_zret X rfl rfl (dcg dc_X12_takesWord 17 rfl) ⟨rfl, rfl⟩ (Nat.le_refl _) (Nat.le_refl _)
    · have hf := if_f q hf
      refine p_pick [] ?_
      exact wX12_takesWord_b17 X hG hnm hf 
theorem dc_X12_readsLine : decs cX12_readsLine [(0, .aload_n 0, 1), (1, .getfield 84, 3), (4, .bipush 6, 2), (6, .iaload, 1), (7, .istore_n 1, 1), (8, .aload_n 0, 1), (9, .invokevirtual 303, 3), (12, .aload_n 0, 1), (13, .invokevirtual 306, 3), (16, .ifCond .ne 5, 3), (19, .iconst 0, 1), (20, .ireturn, 1), (21, .aload_n 0, 1), (22, .getfield 78, 3), (25, .bipush 120, 2), (27, .aload_n 0, 1), (28, .getfield 84, 3), (31, .bipush 6, 2), (33, .iaload, 1), (34, .iadd, 1), (35, .aload_n 0, 1), (36, .getfield 258, 3), (39, .iastore, 1), (40, .aload_n 0, 1), (41, .getfield 84, 3), (44, .bipush 6, 2), (46, .dup2, 1), (47, .iaload, 1), (48, .iconst 1, 1), (49, .iadd, 1), (50, .iastore, 1), (51, .aload_n 0, 1), (52, .invokevirtual 303, 3), (55, .aload_n 0, 1), (56, .bipush 93, 2), (58, .invokevirtual 309, 3), (61, .ifCond .eq (-49), 3), (64, .aload_n 0, 1), (65, .aload_n 0, 1), (66, .bipush 6, 2), (68, .iconst 3, 1), (69, .iload_n 1, 1), (70, .aload_n 0, 1), (71, .getfield 84, 3), (74, .bipush 6, 2), (76, .iaload, 1), (77, .iload_n 1, 1), (78, .isub, 1), (79, .invokevirtual 277, 3), (82, .invokevirtual 312, 3), (85, .aload_n 0, 1), (86, .invokevirtual 303, 3), (89, .iconst 1, 1), (90, .ireturn, 1)] = true := by decide +kernel
noncomputable def fX12_readsLine_c12 (v0 : Nat) (v1 : Int32) (h : PH) : Option ((PH) ⊕ (Int32 × PH)) :=
  gd (hK h v0 = 12) (bd (fX12_takesWord v0 h) (fun z8 =>
  if (¬ z8.1 = 0) then (gd (hK z8.2 v0 = 12) (gs (hR z8.2 12 v0 33) (fun a10 =>
  gd (hK z8.2 a10 = 20 ∧ inb (6 : Int32) (hN z8.2 a10)) (gs (hR z8.2 12 v0 31) (fun a14 =>
  gd (hK z8.2 a14 = 20 ∧ inb ((120 : Int32) + (hI z8.2 20 a10 (Int32.toNatClampNeg (6 : Int32)))) (hN z8.2 a14)) (lt (sI z8.2 20 a14 (Int32.toNatClampNeg ((120 : Int32) + (hI z8.2 20 a10 (Int32.toNatClampNeg (6 : Int32))))) (hI z8.2 12 v0 23)) (fun h18 =>
  gs (hR h18 12 v0 33) (fun a19 =>
  gd (hK h18 a19 = 20 ∧ inb (6 : Int32) (hN h18 a19)) (gd (inb (6 : Int32) (hN h18 a19)) (lt (sI h18 20 a19 (Int32.toNatClampNeg (6 : Int32)) ((hI h18 20 a19 (Int32.toNatClampNeg (6 : Int32))) + (1 : Int32))) (fun h24 =>
  bd (fX12_reads v0 h24) (fun z25 =>
  gd (hK z25 v0 = 12) (bd (fX12_isSignNow v0 (93 : Int32) z25) (fun z27 =>
  if (z27 = 0) then (some (.inl (z25))) else
  mr (gs (hR z25 12 v0 33) (fun a30 =>
  gd (hK z25 a30 = 20 ∧ inb (6 : Int32) (hN z25 a30)) (bd (fX12_makes v0 (6 : Int32) (3 : Int32) v1 ((hI z25 20 a30 (Int32.toNatClampNeg (6 : Int32))) - v1) z25) (fun z34 =>
  gd (hK z34.2 v0 = 12) (bd (fX12_hasPart v0 z34.1 z34.2) (fun z36 =>
  gd (hK z36 v0 = 12) (bd (fX12_reads v0 z36) (fun z38 =>
  some (((1 : Int32), z38)))))))))))))))))))))))) else
  mr (some (((0 : Int32), z8.2)))))
set_option maxRecDepth 100000 in
theorem mX12_readsLine_c12 {v0 : Nat} {v1 : Int32} {h : PH} {x : ((PH) ⊕ (Int32 × PH))} (hf : fX12_readsLine_c12 v0 v1 h = some x) : (∀ w9 : (PH), x = .inl w9 → eqz h (hX (w9)) (hV (w9))) ∧ (∀ w9 : (Int32 × PH), x = .inr w9 → eqz h (hX w9.2) (hV w9.2)) := by
  unfold fX12_readsLine_c12 at hf
  have hle := eqz_rf h
  obtain ⟨hk7, hf⟩ := gd_some hf
  obtain ⟨z8, hz8, hf⟩ := bd_some hf
  have hle := eqz_rt (mX12_takesWord hz8) hle
  rcases ite_or hf with ⟨q, hf⟩ | ⟨q, hf⟩
  · have hf := if_t q hf
    obtain ⟨hk9, hf⟩ := gd_some hf
    obtain ⟨a10, e11, hf⟩ := gs_some hf
    obtain ⟨⟨hk13, hb12⟩, hf⟩ := gd_some hf
    obtain ⟨a14, e15, hf⟩ := gs_some hf
    obtain ⟨⟨hk17, hb16⟩, hf⟩ := gd_some hf
    obtain ⟨h18, rfl, hf⟩ := lt_some hf
    obtain ⟨a19, e20, hf⟩ := gs_some hf
    obtain ⟨⟨hk22, hb21⟩, hf⟩ := gd_some hf
    obtain ⟨hb23, hf⟩ := gd_some hf
    obtain ⟨h24, rfl, hf⟩ := lt_some hf
    obtain ⟨z25, hz25, hf⟩ := bd_some hf
    have hle := eqz_rt (mX12_reads hz25) hle
    obtain ⟨hk26, hf⟩ := gd_some hf
    obtain ⟨z27, hz27, hf⟩ := bd_some hf
    rcases ite_or hf with ⟨q, hf⟩ | ⟨q, hf⟩
    · have hf := if_t q hf
      have ee := Option.some.inj hf; subst ee
      exact ⟨(fun z e => by have ee := Sum.inl.inj (e); subst ee; exact hle), (fun z e => nomatch e)⟩
    · have hf := if_f q hf
      obtain ⟨y28, hfm, rfl⟩ := mr_some hf; have hf := hfm; clear hfm
      obtain ⟨a30, e31, hf⟩ := gs_some hf
      obtain ⟨⟨hk33, hb32⟩, hf⟩ := gd_some hf
      obtain ⟨z34, hz34, hf⟩ := bd_some hf
      have hle := eqz_rt (mX12_makes hz34) hle
      obtain ⟨hk35, hf⟩ := gd_some hf
      obtain ⟨z36, hz36, hf⟩ := bd_some hf
      have hle := eqz_rt (mX12_hasPart hz36) hle
      obtain ⟨hk37, hf⟩ := gd_some hf
      obtain ⟨z38, hz38, hf⟩ := bd_some hf
      have hle := eqz_rt (mX12_reads hz38) hle
      have ee := Option.some.inj hf; subst ee
      exact ⟨(fun z e => nomatch e), (fun z e => by have ee := Sum.inr.inj (e); subst ee; exact hle)⟩
  · have hf := if_f q hf
    obtain ⟨y39, hfm, rfl⟩ := mr_some hf; have hf := hfm; clear hfm
    have ee := Option.some.inj hf; subst ee
    exact ⟨(fun z e => nomatch e), (fun z e => by have ee := Sum.inr.inj (e); subst ee; exact hle)⟩
set_option maxRecDepth 100000 in
theorem wX12_readsLine_c12 {E : PE} {p : Program} {l : Launch} {e : Env} {s : State} {m : MethodId} {args : Array Value} {below : List Frame} {meth : Method} {c : Code} (X : Cx E p l e (rmv 3 0 0) s m args below meth c RX12 cX12_readsLine 2 (some .boolean)) (hG : Gs E l) (hnm : meth.name = yX12_readsLine.name) {v0 : Nat} {v1 : Int32} {h : PH} {r : (Int32 × PH)} {x : ((PH) ⊕ (Int32 × PH))} (hf : fX12_readsLine_c12 v0 v1 h = some x) (k0 : ∀ z : (PH), x = .inl z → PW E p l e (rmv 3 0 0) s m args below meth c 2 0 0 (MQ below (QG E (fun v u => v = some (.int r.1) ∧ u = r.2)) args s 0 0 (pA E)) (z) 12 [(0, some (.ref v0)), (1, some (.int v1))] []) (kf : ∀ z : (Int32 × PH), x = .inr z → z = r) : PW E p l e (rmv 3 0 0) s m args below meth c 2 0 0 (MQ below (QG E (fun v u => v = some (.int r.1) ∧ u = r.2)) args s 0 0 (pA E)) h 12 [(0, some (.ref v0)), (1, some (.int v1))] [] := by
  unfold fX12_readsLine_c12 at hf
  refine p_aload_n X (dcg dc_X12_readsLine 7 rfl) rfl rfl ?_
  obtain ⟨hk7, hf⟩ := gd_some hf
  obtain ⟨z8, hz8, hf⟩ := bd_some hf
  refine p_callV (As := []) X ml_X12_306 (dcg dc_X12_readsLine 8 rfl) rfl rfl hk7 (wX12_takesWord hG hz8) (by decide) (room4 (Nat.le_of_ble_eq_true rfl)) (Nat.le_refl _) (Nat.le_refl _) ?_
  rintro _ u9 ⟨rfl, e9⟩; have e9 := e9.symm; subst e9
  refine p_if_ne (tgt := 21) X (dcg dc_X12_readsLine 9 rfl) (by decide) (fun q => ?_) (fun q => ?_)
  · have hf := if_t q hf
    refine p_aload_n X (dcg dc_X12_readsLine 12 rfl) rfl rfl ?_
    obtain ⟨hk9, hf⟩ := gd_some hf
    refine p_getR X fl_X12_78 rfl (by decide) (dcg dc_X12_readsLine 13 rfl) hk9 ?_
    refine p_bipush (v := 120) X (dcg dc_X12_readsLine 14 rfl) (by decide) ?_
    refine p_aload_n X (dcg dc_X12_readsLine 15 rfl) rfl rfl ?_
    refine p_getR X fl_X12_84 rfl (by decide) (dcg dc_X12_readsLine 16 rfl) hk9 ?_
    refine p_bipush (v := 6) X (dcg dc_X12_readsLine 17 rfl) (by decide) ?_
    obtain ⟨a10, e11, hf⟩ := gs_some hf
    first | subst e11 | (try rw [e11])
    obtain ⟨⟨hk13, hb12⟩, hf⟩ := gd_some hf
    refine p_iald X (dcg dc_X12_readsLine 18 rfl) hk13 (vp_of_inb hb12) ?_
    refine p_iadd X (dcg dc_X12_readsLine 19 rfl) ?_
    refine p_aload_n X (dcg dc_X12_readsLine 20 rfl) rfl rfl ?_
    refine p_getI X fl_X12_258 rfl (by decide) (dcg dc_X12_readsLine 21 rfl) hk9 ?_
    obtain ⟨a14, e15, hf⟩ := gs_some hf
    first | subst e15 | (try rw [e15])
    obtain ⟨⟨hk17, hb16⟩, hf⟩ := gd_some hf
    refine p_iast X (dcg dc_X12_readsLine 22 rfl) hk17 (vp_of_inb hb16) ?_
    obtain ⟨h18, rfl, hf⟩ := lt_some hf
    refine p_aload_n X (dcg dc_X12_readsLine 23 rfl) rfl rfl ?_
    refine p_getR X fl_X12_84 rfl (by decide) (dcg dc_X12_readsLine 24 rfl) hk9 ?_
    refine p_bipush (v := 6) X (dcg dc_X12_readsLine 25 rfl) (by decide) ?_
    refine p_dup2 X (dcg dc_X12_readsLine 26 rfl) rfl (cat_rf _) ?_
    obtain ⟨a19, e20, hf⟩ := gs_some hf
    first | subst e20 | (try rw [e20])
    obtain ⟨⟨hk22, hb21⟩, hf⟩ := gd_some hf
    refine p_iald X (dcg dc_X12_readsLine 27 rfl) hk22 (vp_of_inb hb21) ?_
    refine p_iconst (v := 1) X (dcg dc_X12_readsLine 28 rfl) (by decide) ?_
    refine p_iadd X (dcg dc_X12_readsLine 29 rfl) ?_
    obtain ⟨hb23, hf⟩ := gd_some hf
    refine p_iast X (dcg dc_X12_readsLine 30 rfl) hk22 (vp_of_inb hb23) ?_
    obtain ⟨h24, rfl, hf⟩ := lt_some hf
    refine p_aload_n X (dcg dc_X12_readsLine 31 rfl) rfl rfl ?_
    obtain ⟨z25, hz25, hf⟩ := bd_some hf
    refine p_callV (As := []) X ml_X12_303 (dcg dc_X12_readsLine 32 rfl) rfl rfl hk9 (wX12_reads hG hz25) (by decide) (room4 (Nat.le_of_ble_eq_true rfl)) (Nat.le_refl _) (Nat.le_refl _) ?_
    rintro _ u9 ⟨rfl, e9⟩; have e9 := e9.symm; subst e9
    refine p_aload_n X (dcg dc_X12_readsLine 33 rfl) rfl rfl ?_
    refine p_bipush (v := 93) X (dcg dc_X12_readsLine 34 rfl) (by decide) ?_
    obtain ⟨hk26, hf⟩ := gd_some hf
    obtain ⟨z27, hz27, hf⟩ := bd_some hf
    refine p_callV (As := [_]) X ml_X12_309 (dcg dc_X12_readsLine 35 rfl) rfl rfl hk26 (wX12_isSignNow hG hz27) (by decide) (room4 (Nat.le_of_ble_eq_true rfl)) (Nat.le_refl _) (Nat.le_refl _) ?_
    rintro _ u9 ⟨rfl, e9⟩; have e9 := e9.symm; subst e9
    refine p_if_eq (tgt := 12) X (dcg dc_X12_readsLine 36 rfl) (by decide) (fun q => ?_) (fun q => ?_)
    · have hf := if_t q hf
      refine p_pick [0, 1] ?_
      exact k0 _ (Option.some.inj hf).symm
    · have hf := if_f q hf
      obtain ⟨y28, hf, hy29⟩ := mr_some hf
      have hy29f := kf y28 hy29
      subst hy29f
      refine p_aload_n X (dcg dc_X12_readsLine 37 rfl) rfl rfl ?_
      refine p_aload_n X (dcg dc_X12_readsLine 38 rfl) rfl rfl ?_
      refine p_bipush (v := 6) X (dcg dc_X12_readsLine 39 rfl) (by decide) ?_
      refine p_iconst (v := 3) X (dcg dc_X12_readsLine 40 rfl) (by decide) ?_
      refine p_iload_n X (dcg dc_X12_readsLine 41 rfl) rfl rfl ?_
      refine p_aload_n X (dcg dc_X12_readsLine 42 rfl) rfl rfl ?_
      refine p_getR X fl_X12_84 rfl (by decide) (dcg dc_X12_readsLine 43 rfl) hk26 ?_
      refine p_bipush (v := 6) X (dcg dc_X12_readsLine 44 rfl) (by decide) ?_
      obtain ⟨a30, e31, hf⟩ := gs_some hf
      first | subst e31 | (try rw [e31])
      obtain ⟨⟨hk33, hb32⟩, hf⟩ := gd_some hf
      refine p_iald X (dcg dc_X12_readsLine 45 rfl) hk33 (vp_of_inb hb32) ?_
      refine p_iload_n X (dcg dc_X12_readsLine 46 rfl) rfl rfl ?_
      refine p_isub X (dcg dc_X12_readsLine 47 rfl) ?_
      obtain ⟨z34, hz34, hf⟩ := bd_some hf
      refine p_callV (As := [_, _, _, _]) X ml_X12_277 (dcg dc_X12_readsLine 48 rfl) rfl rfl hk26 (wX12_makes hG hz34) (by decide) (room4 (Nat.le_of_ble_eq_true rfl)) (Nat.le_refl _) (Nat.le_refl _) ?_
      rintro _ u9 ⟨rfl, e9⟩; have e9 := e9.symm; subst e9
      obtain ⟨hk35, hf⟩ := gd_some hf
      obtain ⟨z36, hz36, hf⟩ := bd_some hf
      refine p_callV (As := [_]) X ml_X12_312 (dcg dc_X12_readsLine 49 rfl) rfl rfl hk35 (wX12_hasPart hG hz36) (by decide) (room4 (Nat.le_of_ble_eq_true rfl)) (Nat.le_refl _) (Nat.le_refl _) ?_
      rintro _ u9 ⟨rfl, e9⟩; have e9 := e9.symm; subst e9
      refine p_aload_n X (dcg dc_X12_readsLine 50 rfl) rfl rfl ?_
      obtain ⟨hk37, hf⟩ := gd_some hf
      obtain ⟨z38, hz38, hf⟩ := bd_some hf
      refine p_callV (As := []) X ml_X12_303 (dcg dc_X12_readsLine 51 rfl) rfl rfl hk37 (wX12_reads hG hz38) (by decide) (room4 (Nat.le_of_ble_eq_true rfl)) (Nat.le_refl _) (Nat.le_refl _) ?_
      rintro _ u9 ⟨rfl, e9⟩; have e9 := e9.symm; subst e9
      refine p_iconst (v := 1) X (dcg dc_X12_readsLine 52 rfl) (by decide) ?_
      have er := Option.some.inj hf
      subst er
      exact p_zret X rfl rfl (dcg dc_X12_readsLine 53 rfl) ⟨rfl, rfl⟩ (Nat.le_refl _) (Nat.le_refl _)
  · have hf := if_f q hf
    obtain ⟨y39, hf, hy40⟩ := mr_some hf
    have hy40f := kf y39 hy40
    subst hy40f
    refine p_iconst (v := 0) X (dcg dc_X12_readsLine 10 rfl) (by decide) ?_
    have er := Option.some.inj hf
    subst er
    exact p_zret X rfl rfl (dcg dc_X12_readsLine 11 rfl) ⟨rfl, rfl⟩ (Nat.le_refl _) (Nat.le_refl _)
noncomputable def fX12_readsLine_l12 (v0 : Nat) (v1 : Int32) (h : PH) : Option (Int32 × PH) := wh (fun z : (PH) => fX12_readsLine_c12 v0 v1 (z)) (h)
set_option maxRecDepth 100000 in
theorem mX12_readsLine_l12 {v0 : Nat} {v1 : Int32} {h : PH} {r : (Int32 × PH)} (hf : fX12_readsLine_l12 v0 v1 h = some r) : eqz h (hX r.2) (hV r.2) := by
  unfold fX12_readsLine_l12 at hf
  refine wh_ind (P := fun z => eqz (z) (hX r.2) (hV r.2)) (fun z x0 hs i1 i2 => ?_) _ hf
  obtain ⟨c0, cf⟩ := mX12_readsLine_c12 (v0 := v0) (v1 := v1) (h := z) hs
  rcases hxx : x0 with zz | zz
  · exact eqz_tr (c0 zz hxx) (i1 zz hxx)
  · have ee := i2 zz hxx; subst ee; exact cf zz hxx
set_option maxRecDepth 100000 in
theorem wX12_readsLine_l12 {E : PE} {p : Program} {l : Launch} {e : Env} {s : State} {m : MethodId} {args : Array Value} {below : List Frame} {meth : Method} {c : Code} (X : Cx E p l e (rmv 3 0 0) s m args below meth c RX12 cX12_readsLine 2 (some .boolean)) (hG : Gs E l) (hnm : meth.name = yX12_readsLine.name) {v0 : Nat} {v1 : Int32} {h : PH} {r : (Int32 × PH)} (hf : fX12_readsLine_l12 v0 v1 h = some r)  : PW E p l e (rmv 3 0 0) s m args below meth c 2 0 0 (MQ below (QG E (fun v u => v = some (.int r.1) ∧ u = r.2)) args s 0 0 (pA E)) h 12 [(0, some (.ref v0)), (1, some (.int v1))] [] := by
  unfold fX12_readsLine_l12 at hf
  refine wh_ind (P := fun z => PW E p l e (rmv 3 0 0) s m args below meth c 2 0 0 (MQ below (QG E (fun v u => v = some (.int r.1) ∧ u = r.2)) args s 0 0 (pA E)) (z) 12 [(0, some (.ref v0)), (1, some (.int v1))] []) (fun z x0 hs i1 i2 => ?_) _ hf
  exact wX12_readsLine_c12 (r := r) (v0 := v0) (v1 := v1) (h := z) X hG hnm hs i1  i2
noncomputable def fX12_readsLine (v0 : Nat) (h : PH) : Option (Int32 × PH) :=
  gd (hK h v0 = 12) (gs (hR h 12 v0 33) (fun a2 =>
  gd (hK h a2 = 20 ∧ inb (6 : Int32) (hN h a2)) (bd (fX12_reads v0 h) (fun z6 =>
  fX12_readsLine_l12 v0 (hI h 20 a2 (Int32.toNatClampNeg (6 : Int32))) z6))))
set_option maxRecDepth 100000 in
theorem mX12_readsLine {v0 : Nat} {h : PH} {r : (Int32 × PH)} (hf : fX12_readsLine v0 h = some r) : eqz h (hX r.2) (hV r.2) := by
  unfold fX12_readsLine at hf
  have hle := eqz_rf h
  obtain ⟨hk1, hf⟩ := gd_some hf
  obtain ⟨a2, e3, hf⟩ := gs_some hf
  obtain ⟨⟨hk5, hb4⟩, hf⟩ := gd_some hf
  obtain ⟨z6, hz6, hf⟩ := bd_some hf
  have hle := eqz_rt (mX12_reads hz6) hle
  exact eqz_rt (mX12_readsLine_l12 hf) hle
set_option maxRecDepth 100000 in
theorem wX12_readsLine {E : PE} {l : Launch} (hG : Gs E l) {v0 : Nat} {h : PH} {r : (Int32 × PH)} (hf : fX12_readsLine v0 h = some r) : Ct E l 3 0 0 yX12_readsLine cX12_readsLine 2 (some .boolean) [.ref v0] h (fun v u => v = some (.int r.1) ∧ u = r.2) := by
  refine ct_of hG (by decide) (Nat.le_of_ble_eq_true rfl) ?_
  intro p e s m args below meth c X hnm
  show PW E p l e _ s m args below meth c _ 0 0 _ h 0 [(0, some (.ref v0))] []
  unfold fX12_readsLine at hf
  refine p_aload_n X (dcg dc_X12_readsLine 0 rfl) rfl rfl ?_
  obtain ⟨hk1, hf⟩ := gd_some hf
  refine p_getR X fl_X12_84 rfl (by decide) (dcg dc_X12_readsLine 1 rfl) hk1 ?_
  refine p_bipush (v := 6) X (dcg dc_X12_readsLine 2 rfl) (by decide) ?_
  obtain ⟨a2, e3, hf⟩ := gs_some hf
  first | subst e3 | (try rw [e3])
  obtain ⟨⟨hk5, hb4⟩, hf⟩ := gd_some hf
  refine p_iald X (dcg dc_X12_readsLine 3 rfl) hk5 (vp_of_inb hb4) ?_
  refine p_istore_n X (dcg dc_X12_readsLine 4 rfl) rfl (by decide) rfl ?_
  refine p_aload_n X (dcg dc_X12_readsLine 5 rfl) rfl rfl ?_
  obtain ⟨z6, hz6, hf⟩ := bd_some hf
  refine p_callV (As := []) X ml_X12_303 (dcg dc_X12_readsLine 6 rfl) rfl rfl hk1 (wX12_reads hG hz6) (by decide) (room4 (Nat.le_of_ble_eq_true rfl)) (Nat.le_refl _) (Nat.le_refl _) ?_
  rintro _ u9 ⟨rfl, e9⟩; have e9 := e9.symm; subst e9
  refine p_pick [0, 1] ?_
  exact wX12_readsLine_l12 X hG hnm hf 
theorem dc_X12_readsPart : decs cX12_readsPart [(0, .aload_n 0, 1), (1, .bipush 91, 2), (3, .invokevirtual 309, 3), (6, .ifCond .eq 8, 3), (9, .aload_n 0, 1), (10, .invokevirtual 315, 3), (13, .ireturn, 1), (14, .aload_n 0, 1), (15, .getfield 258, 3), (18, .istore_n 1, 1), (19, .aload_n 0, 1), (20, .invokevirtual 306, 3), (23, .ifCond .ne 5, 3), (26, .iconst 0, 1), (27, .ireturn, 1), (28, .aload_n 0, 1), (29, .invokevirtual 303, 3), (32, .aload_n 0, 1), (33, .bipush 42, 2), (35, .invokevirtual 309, 3), (38, .ifCond .eq 23, 3), (41, .aload_n 0, 1), (42, .aload_n 0, 1), (43, .bipush 6, 2), (45, .iconst 1, 1), (46, .iload_n 1, 1), (47, .iconst 0, 1), (48, .invokevirtual 277, 3), (51, .invokevirtual 312, 3), (54, .aload_n 0, 1), (55, .invokevirtual 303, 3), (58, .goto 93, 3), (61, .aload_n 0, 1), (62, .bipush 126, 2), (64, .invokevirtual 309, 3), (67, .ifCond .eq 71, 3), (70, .aload_n 0, 1), (71, .invokevirtual 303, 3), (74, .aload_n 0, 1), (75, .getfield 258, 3), (78, .istore_n 2, 1), (79, .aload_n 0, 1), (80, .getfield 264, 3), (83, .iconst 2, 1), (84, .if_icmp .eq 5, 3), (87, .iconst 0, 1), (88, .ireturn, 1), (89, .aload_n 0, 1), (90, .invokevirtual 303, 3), (93, .aload_n 0, 1), (94, .invokevirtual 306, 3), (97, .ifCond .ne 5, 3), (100, .iconst 0, 1), (101, .ireturn, 1), (102, .aload_n 0, 1), (103, .bipush 6, 2), (105, .iconst 2, 1), (106, .iload_n 1, 1), (107, .aload_n 0, 1), (108, .getfield 258, 3), (111, .invokevirtual 277, 3), (114, .istore_n 3, 1), (115, .aload_n 0, 1), (116, .getfield 69, 3), (119, .sipush 2400, 3), (122, .iload_n 3, 1), (123, .iadd, 1), (124, .iload_n 2, 1), (125, .iastore, 1), (126, .aload_n 0, 1), (127, .iload_n 3, 1), (128, .invokevirtual 312, 3), (131, .aload_n 0, 1), (132, .invokevirtual 303, 3), (135, .goto 16, 3), (138, .aload_n 0, 1), (139, .aload_n 0, 1), (140, .bipush 6, 2), (142, .iconst 0, 1), (143, .iload_n 1, 1), (144, .iconst 0, 1), (145, .invokevirtual 277, 3), (148, .invokevirtual 312, 3), (151, .iconst 1, 1), (152, .ireturn, 1)] = true := by decide +kernel
noncomputable def fX12_readsPart_b151  (h : PH) : Option (Int32 × PH) :=
  some (((1 : Int32), h))
set_option maxRecDepth 100000 in
theorem mX12_readsPart_b151  {h : PH} {r : (Int32 × PH)} (hf : fX12_readsPart_b151  h = some r) : eqz h (hX r.2) (hV r.2) := by
  unfold fX12_readsPart_b151 at hf
  have hle := eqz_rf h
  have ee := Option.some.inj hf; subst ee; exact hle
set_option maxRecDepth 100000 in
theorem wX12_readsPart_b151 {E : PE} {p : Program} {l : Launch} {e : Env} {s : State} {m : MethodId} {args : Array Value} {below : List Frame} {meth : Method} {c : Code} (X : Cx E p l e (rmv 4 0 0) s m args below meth c RX12 cX12_readsPart 4 (some .boolean)) (hG : Gs E l) (hnm : meth.name = yX12_readsPart.name)  {h : PH} {r : (Int32 × PH)} (hf : fX12_readsPart_b151  h = some r)  : PW E p l e (rmv 4 0 0) s m args below meth c 4 0 0 (MQ below (QG E (fun v u => v = some (.int r.1) ∧ u = r.2)) args s 0 0 (pA E)) h 151 [] [] := by
  unfold fX12_readsPart_b151 at hf
  refine p_iconst (v := 1) X (dcg dc_X12_readsPart 83 rfl) (by decide) ?_
  have er := Option.some.inj hf
  subst er
  exact p_zret X rfl rfl (dcg dc_X12_readsPart 84 rfl) ⟨rfl, rfl⟩ (Nat.le_refl _) (Nat.le_refl _)
noncomputable def fX12_readsPart (v0 : Nat) (h : PH) : Option (Int32 × PH) :=
  gd (hK h v0 = 12) (bd (fX12_isSignNow v0 (91 : Int32) h) (fun z2 =>
  if (z2 = 0) then (bd (fX12_takesWord v0 h) (fun z3 =>
  if (¬ z3.1 = 0) then (gd (hK z3.2 v0 = 12) (bd (fX12_reads v0 z3.2) (fun z5 =>
  gd (hK z5 v0 = 12) (bd (fX12_isSignNow v0 (42 : Int32) z5) (fun z7 =>
  if (z7 = 0) then (bd (fX12_isSignNow v0 (126 : Int32) z5) (fun z8 =>
  if (z8 = 0) then (bd (fX12_makes v0 (6 : Int32) (0 : Int32) (hI h 12 v0 23) (0 : Int32) z5) (fun z9 =>
  gd (hK z9.2 v0 = 12) (bd (fX12_hasPart v0 z9.1 z9.2) (fun z11 =>
  fX12_readsPart_b151  z11)))) else
  bd (fX12_reads v0 z5) (fun z12 =>
  gd (hK z12 v0 = 12) (if ((hI z12 12 v0 21) = (2 : Int32)) then (bd (fX12_reads v0 z12) (fun z14 =>
  gd (hK z14 v0 = 12) (bd (fX12_takesWord v0 z14) (fun z16 =>
  if (¬ z16.1 = 0) then (gd (hK z16.2 v0 = 12) (bd (fX12_makes v0 (6 : Int32) (2 : Int32) (hI h 12 v0 23) (hI z16.2 12 v0 23) z16.2) (fun z18 =>
  gd (hK z18.2 v0 = 12) (gs (hR z18.2 12 v0 28) (fun a20 =>
  gd (hK z18.2 a20 = 20 ∧ inb ((2400 : Int32) + z18.1) (hN z18.2 a20)) (lt (sI z18.2 20 a20 (Int32.toNatClampNeg ((2400 : Int32) + z18.1)) (hI z12 12 v0 23)) (fun h24 =>
  bd (fX12_hasPart v0 z18.1 h24) (fun z25 =>
  gd (hK z25 v0 = 12) (bd (fX12_reads v0 z25) (fun z27 =>
  fX12_readsPart_b151  z27)))))))))) else
  some (((0 : Int32), z16.2)))))) else
  some (((0 : Int32), z12)))))) else
  bd (fX12_makes v0 (6 : Int32) (1 : Int32) (hI h 12 v0 23) (0 : Int32) z5) (fun z28 =>
  gd (hK z28.2 v0 = 12) (bd (fX12_hasPart v0 z28.1 z28.2) (fun z30 =>
  gd (hK z30 v0 = 12) (bd (fX12_reads v0 z30) (fun z32 =>
  fX12_readsPart_b151  z32)))))))))) else
  some (((0 : Int32), z3.2)))) else
  bd (fX12_readsLine v0 h) (fun z33 =>
  gd (z33.1 &&& 1 = z33.1) (some ((z33.1, z33.2))))))
set_option maxRecDepth 100000 in
theorem mX12_readsPart {v0 : Nat} {h : PH} {r : (Int32 × PH)} (hf : fX12_readsPart v0 h = some r) : eqz h (hX r.2) (hV r.2) := by
  unfold fX12_readsPart at hf
  have hle := eqz_rf h
  obtain ⟨hk1, hf⟩ := gd_some hf
  obtain ⟨z2, hz2, hf⟩ := bd_some hf
  rcases ite_or hf with ⟨q, hf⟩ | ⟨q, hf⟩
  · have hf := if_t q hf
    obtain ⟨z3, hz3, hf⟩ := bd_some hf
    have hle := eqz_rt (mX12_takesWord hz3) hle
    rcases ite_or hf with ⟨q, hf⟩ | ⟨q, hf⟩
    · have hf := if_t q hf
      obtain ⟨hk4, hf⟩ := gd_some hf
      obtain ⟨z5, hz5, hf⟩ := bd_some hf
      have hle := eqz_rt (mX12_reads hz5) hle
      obtain ⟨hk6, hf⟩ := gd_some hf
      obtain ⟨z7, hz7, hf⟩ := bd_some hf
      rcases ite_or hf with ⟨q, hf⟩ | ⟨q, hf⟩
      · have hf := if_t q hf
        obtain ⟨z8, hz8, hf⟩ := bd_some hf
        rcases ite_or hf with ⟨q, hf⟩ | ⟨q, hf⟩
        · have hf := if_t q hf
          obtain ⟨z9, hz9, hf⟩ := bd_some hf
          have hle := eqz_rt (mX12_makes hz9) hle
          obtain ⟨hk10, hf⟩ := gd_some hf
          obtain ⟨z11, hz11, hf⟩ := bd_some hf
          have hle := eqz_rt (mX12_hasPart hz11) hle
          exact eqz_rt (mX12_readsPart_b151 hf) hle
        · have hf := if_f q hf
          obtain ⟨z12, hz12, hf⟩ := bd_some hf
          have hle := eqz_rt (mX12_reads hz12) hle
          obtain ⟨hk13, hf⟩ := gd_some hf
          rcases ite_or hf with ⟨q, hf⟩ | ⟨q, hf⟩
          · have hf := if_t q hf
            obtain ⟨z14, hz14, hf⟩ := bd_some hf
            have hle := eqz_rt (mX12_reads hz14) hle
            obtain ⟨hk15, hf⟩ := gd_some hf
            obtain ⟨z16, hz16, hf⟩ := bd_some hf
            have hle := eqz_rt (mX12_takesWord hz16) hle
            rcases ite_or hf with ⟨q, hf⟩ | ⟨q, hf⟩
            · have hf := if_t q hf
              obtain ⟨hk17, hf⟩ := gd_some hf
              obtain ⟨z18, hz18, hf⟩ := bd_some hf
              have hle := eqz_rt (mX12_makes hz18) hle
              obtain ⟨hk19, hf⟩ := gd_some hf
              obtain ⟨a20, e21, hf⟩ := gs_some hf
              obtain ⟨⟨hk23, hb22⟩, hf⟩ := gd_some hf
              obtain ⟨h24, rfl, hf⟩ := lt_some hf
              obtain ⟨z25, hz25, hf⟩ := bd_some hf
              have hle := eqz_rt (mX12_hasPart hz25) hle
              obtain ⟨hk26, hf⟩ := gd_some hf
              obtain ⟨z27, hz27, hf⟩ := bd_some hf
              have hle := eqz_rt (mX12_reads hz27) hle
              exact eqz_rt (mX12_readsPart_b151 hf) hle
            · have hf := if_f q hf
              have ee := Option.some.inj hf; subst ee; exact hle
          · have hf := if_f q hf
            have ee := Option.some.inj hf; subst ee; exact hle
      · have hf := if_f q hf
        obtain ⟨z28, hz28, hf⟩ := bd_some hf
        have hle := eqz_rt (mX12_makes hz28) hle
        obtain ⟨hk29, hf⟩ := gd_some hf
        obtain ⟨z30, hz30, hf⟩ := bd_some hf
        have hle := eqz_rt (mX12_hasPart hz30) hle
        obtain ⟨hk31, hf⟩ := gd_some hf
        obtain ⟨z32, hz32, hf⟩ := bd_some hf
        have hle := eqz_rt (mX12_reads hz32) hle
        exact eqz_rt (mX12_readsPart_b151 hf) hle
    · have hf := if_f q hf
      have ee := Option.some.inj hf; subst ee; exact hle
  · have hf := if_f q hf
    obtain ⟨z33, hz33, hf⟩ := bd_some hf
    have hle := eqz_rt (mX12_readsLine hz33) hle
    obtain ⟨hg34, hf⟩ := gd_some hf
    have ee := Option.some.inj hf; subst ee; exact hle
set_option maxRecDepth 100000 in
theorem wX12_readsPart {E : PE} {l : Launch} (hG : Gs E l) {v0 : Nat} {h : PH} {r : (Int32 × PH)} (hf : fX12_readsPart v0 h = some r) : Ct E l 4 0 0 yX12_readsPart cX12_readsPart 4 (some .boolean) [.ref v0] h (fun v u => v = some (.int r.1) ∧ u = r.2) := by
  refine ct_of hG (by decide) (Nat.le_of_ble_eq_true rfl) ?_
  intro p e s m args below meth c X hnm
  show PW E p l e _ s m args below meth c _ 0 0 _ h 0 [(0, some (.ref v0))] []
  unfold fX12_readsPart at hf
  refine p_aload_n X (dcg dc_X12_readsPart 0 rfl) rfl rfl ?_
  refine p_bipush (v := 91) X (dcg dc_X12_readsPart 1 rfl) (by decide) ?_
  obtain ⟨hk1, hf⟩ := gd_some hf
  obtain ⟨z2, hz2, hf⟩ := bd_some hf
  refine p_callV (As := [_]) X ml_X12_309 (dcg dc_X12_readsPart 2 rfl) rfl rfl hk1 (wX12_isSignNow hG hz2) (by decide) (room4 (Nat.le_of_ble_eq_true rfl)) (Nat.le_refl _) (Nat.le_refl _) ?_
  rintro _ u9 ⟨rfl, e9⟩; have e9 := e9.symm; subst e9
  refine p_if_eq (tgt := 14) X (dcg dc_X12_readsPart 3 rfl) (by decide) (fun q => ?_) (fun q => ?_)
  · have hf := if_t q hf
    refine p_aload_n X (dcg dc_X12_readsPart 7 rfl) rfl rfl ?_
    refine p_getI X fl_X12_258 rfl (by decide) (dcg dc_X12_readsPart 8 rfl) hk1 ?_
    refine p_istore_n X (dcg dc_X12_readsPart 9 rfl) rfl (by decide) rfl ?_
    refine p_aload_n X (dcg dc_X12_readsPart 10 rfl) rfl rfl ?_
    obtain ⟨z3, hz3, hf⟩ := bd_some hf
    refine p_callV (As := []) X ml_X12_306 (dcg dc_X12_readsPart 11 rfl) rfl rfl hk1 (wX12_takesWord hG hz3) (by decide) (room4 (Nat.le_of_ble_eq_true rfl)) (Nat.le_refl _) (Nat.le_refl _) ?_
    rintro _ u9 ⟨rfl, e9⟩; have e9 := e9.symm; subst e9
    refine p_if_ne (tgt := 28) X (dcg dc_X12_readsPart 12 rfl) (by decide) (fun q => ?_) (fun q => ?_)
    · have hf := if_t q hf
      refine p_aload_n X (dcg dc_X12_readsPart 15 rfl) rfl rfl ?_
      obtain ⟨hk4, hf⟩ := gd_some hf
      obtain ⟨z5, hz5, hf⟩ := bd_some hf
      refine p_callV (As := []) X ml_X12_303 (dcg dc_X12_readsPart 16 rfl) rfl rfl hk4 (wX12_reads hG hz5) (by decide) (room4 (Nat.le_of_ble_eq_true rfl)) (Nat.le_refl _) (Nat.le_refl _) ?_
      rintro _ u9 ⟨rfl, e9⟩; have e9 := e9.symm; subst e9
      refine p_aload_n X (dcg dc_X12_readsPart 17 rfl) rfl rfl ?_
      refine p_bipush (v := 42) X (dcg dc_X12_readsPart 18 rfl) (by decide) ?_
      obtain ⟨hk6, hf⟩ := gd_some hf
      obtain ⟨z7, hz7, hf⟩ := bd_some hf
      refine p_callV (As := [_]) X ml_X12_309 (dcg dc_X12_readsPart 19 rfl) rfl rfl hk6 (wX12_isSignNow hG hz7) (by decide) (room4 (Nat.le_of_ble_eq_true rfl)) (Nat.le_refl _) (Nat.le_refl _) ?_
      rintro _ u9 ⟨rfl, e9⟩; have e9 := e9.symm; subst e9
      refine p_if_eq (tgt := 61) X (dcg dc_X12_readsPart 20 rfl) (by decide) (fun q => ?_) (fun q => ?_)
      · have hf := if_t q hf
        refine p_aload_n X (dcg dc_X12_readsPart 32 rfl) rfl rfl ?_
        refine p_bipush (v := 126) X (dcg dc_X12_readsPart 33 rfl) (by decide) ?_
        obtain ⟨z8, hz8, hf⟩ := bd_some hf
        refine p_callV (As := [_]) X ml_X12_309 (dcg dc_X12_readsPart 34 rfl) rfl rfl hk6 (wX12_isSignNow hG hz8) (by decide) (room4 (Nat.le_of_ble_eq_true rfl)) (Nat.le_refl _) (Nat.le_refl _) ?_
        rintro _ u9 ⟨rfl, e9⟩; have e9 := e9.symm; subst e9
        refine p_if_eq (tgt := 138) X (dcg dc_X12_readsPart 35 rfl) (by decide) (fun q => ?_) (fun q => ?_)
        · have hf := if_t q hf
          refine p_aload_n X (dcg dc_X12_readsPart 75 rfl) rfl rfl ?_
          refine p_aload_n X (dcg dc_X12_readsPart 76 rfl) rfl rfl ?_
          refine p_bipush (v := 6) X (dcg dc_X12_readsPart 77 rfl) (by decide) ?_
          refine p_iconst (v := 0) X (dcg dc_X12_readsPart 78 rfl) (by decide) ?_
          refine p_iload_n X (dcg dc_X12_readsPart 79 rfl) rfl rfl ?_
          refine p_iconst (v := 0) X (dcg dc_X12_readsPart 80 rfl) (by decide) ?_
          obtain ⟨z9, hz9, hf⟩ := bd_some hf
          refine p_callV (As := [_, _, _, _]) X ml_X12_277 (dcg dc_X12_readsPart 81 rfl) rfl rfl hk6 (wX12_makes hG hz9) (by decide) (room4 (Nat.le_of_ble_eq_true rfl)) (Nat.le_refl _) (Nat.le_refl _) ?_
          rintro _ u9 ⟨rfl, e9⟩; have e9 := e9.symm; subst e9
          obtain ⟨hk10, hf⟩ := gd_some hf
          obtain ⟨z11, hz11, hf⟩ := bd_some hf
          refine p_callV (As := [_]) X ml_X12_312 (dcg dc_X12_readsPart 82 rfl) rfl rfl hk10 (wX12_hasPart hG hz11) (by decide) (room4 (Nat.le_of_ble_eq_true rfl)) (Nat.le_refl _) (Nat.le_refl _) ?_
          rintro _ u9 ⟨rfl, e9⟩; have e9 := e9.symm; subst e9
          refine p_pick [] ?_
          exact wX12_readsPart_b151 X hG hnm hf 
        · have hf := if_f q hf
          refine p_aload_n X (dcg dc_X12_readsPart 36 rfl) rfl rfl ?_
          obtain ⟨z12, hz12, hf⟩ := bd_some hf
          refine p_callV (As := []) X ml_X12_303 (dcg dc_X12_readsPart 37 rfl) rfl rfl hk6 (wX12_reads hG hz12) (by decide) (room4 (Nat.le_of_ble_eq_true rfl)) (Nat.le_refl _) (Nat.le_refl _) ?_
          rintro _ u9 ⟨rfl, e9⟩; have e9 := e9.symm; subst e9
          refine p_aload_n X (dcg dc_X12_readsPart 38 rfl) rfl rfl ?_
          obtain ⟨hk13, hf⟩ := gd_some hf
          refine p_getI X fl_X12_258 rfl (by decide) (dcg dc_X12_readsPart 39 rfl) hk13 ?_
          refine p_istore_n X (dcg dc_X12_readsPart 40 rfl) rfl (by decide) rfl ?_
          refine p_aload_n X (dcg dc_X12_readsPart 41 rfl) rfl rfl ?_
          refine p_getI X fl_X12_264 rfl (by decide) (dcg dc_X12_readsPart 42 rfl) hk13 ?_
          refine p_iconst (v := 2) X (dcg dc_X12_readsPart 43 rfl) (by decide) ?_
          refine p_icmp_eq (tgt := 89) X (dcg dc_X12_readsPart 44 rfl) (by decide) (fun q => ?_) (fun q => ?_)
          · have hf := if_t q hf
            refine p_aload_n X (dcg dc_X12_readsPart 47 rfl) rfl rfl ?_
            obtain ⟨z14, hz14, hf⟩ := bd_some hf
            refine p_callV (As := []) X ml_X12_303 (dcg dc_X12_readsPart 48 rfl) rfl rfl hk13 (wX12_reads hG hz14) (by decide) (room4 (Nat.le_of_ble_eq_true rfl)) (Nat.le_refl _) (Nat.le_refl _) ?_
            rintro _ u9 ⟨rfl, e9⟩; have e9 := e9.symm; subst e9
            refine p_aload_n X (dcg dc_X12_readsPart 49 rfl) rfl rfl ?_
            obtain ⟨hk15, hf⟩ := gd_some hf
            obtain ⟨z16, hz16, hf⟩ := bd_some hf
            refine p_callV (As := []) X ml_X12_306 (dcg dc_X12_readsPart 50 rfl) rfl rfl hk15 (wX12_takesWord hG hz16) (by decide) (room4 (Nat.le_of_ble_eq_true rfl)) (Nat.le_refl _) (Nat.le_refl _) ?_
            rintro _ u9 ⟨rfl, e9⟩; have e9 := e9.symm; subst e9
            refine p_if_ne (tgt := 102) X (dcg dc_X12_readsPart 51 rfl) (by decide) (fun q => ?_) (fun q => ?_)
            · have hf := if_t q hf
              refine p_aload_n X (dcg dc_X12_readsPart 54 rfl) rfl rfl ?_
              refine p_bipush (v := 6) X (dcg dc_X12_readsPart 55 rfl) (by decide) ?_
              refine p_iconst (v := 2) X (dcg dc_X12_readsPart 56 rfl) (by decide) ?_
              refine p_iload_n X (dcg dc_X12_readsPart 57 rfl) rfl rfl ?_
              refine p_aload_n X (dcg dc_X12_readsPart 58 rfl) rfl rfl ?_
              obtain ⟨hk17, hf⟩ := gd_some hf
              refine p_getI X fl_X12_258 rfl (by decide) (dcg dc_X12_readsPart 59 rfl) hk17 ?_
              obtain ⟨z18, hz18, hf⟩ := bd_some hf
              refine p_callV (As := [_, _, _, _]) X ml_X12_277 (dcg dc_X12_readsPart 60 rfl) rfl rfl hk17 (wX12_makes hG hz18) (by decide) (room4 (Nat.le_of_ble_eq_true rfl)) (Nat.le_refl _) (Nat.le_refl _) ?_
              rintro _ u9 ⟨rfl, e9⟩; have e9 := e9.symm; subst e9
              refine p_istore_n X (dcg dc_X12_readsPart 61 rfl) rfl (by decide) rfl ?_
              refine p_aload_n X (dcg dc_X12_readsPart 62 rfl) rfl rfl ?_
              obtain ⟨hk19, hf⟩ := gd_some hf
              refine p_getR X fl_X12_69 rfl (by decide) (dcg dc_X12_readsPart 63 rfl) hk19 ?_
              refine p_sipush (v := 2400) X (dcg dc_X12_readsPart 64 rfl) (by decide) ?_
              refine p_iload_n X (dcg dc_X12_readsPart 65 rfl) rfl rfl ?_
              refine p_iadd X (dcg dc_X12_readsPart 66 rfl) ?_
              refine p_iload_n X (dcg dc_X12_readsPart 67 rfl) rfl rfl ?_
              obtain ⟨a20, e21, hf⟩ := gs_some hf
              first | subst e21 | (try rw [e21])
              obtain ⟨⟨hk23, hb22⟩, hf⟩ := gd_some hf
              refine p_iast X (dcg dc_X12_readsPart 68 rfl) hk23 (vp_of_inb hb22) ?_
              obtain ⟨h24, rfl, hf⟩ := lt_some hf
              refine p_aload_n X (dcg dc_X12_readsPart 69 rfl) rfl rfl ?_
              refine p_iload_n X (dcg dc_X12_readsPart 70 rfl) rfl rfl ?_
              obtain ⟨z25, hz25, hf⟩ := bd_some hf
              refine p_callV (As := [_]) X ml_X12_312 (dcg dc_X12_readsPart 71 rfl) rfl rfl hk19 (wX12_hasPart hG hz25) (by decide) (room4 (Nat.le_of_ble_eq_true rfl)) (Nat.le_refl _) (Nat.le_refl _) ?_
              rintro _ u9 ⟨rfl, e9⟩; have e9 := e9.symm; subst e9
              refine p_aload_n X (dcg dc_X12_readsPart 72 rfl) rfl rfl ?_
              obtain ⟨hk26, hf⟩ := gd_some hf
              obtain ⟨z27, hz27, hf⟩ := bd_some hf
              refine p_callV (As := []) X ml_X12_303 (dcg dc_X12_readsPart 73 rfl) rfl rfl hk26 (wX12_reads hG hz27) (by decide) (room4 (Nat.le_of_ble_eq_true rfl)) (Nat.le_refl _) (Nat.le_refl _) ?_
              rintro _ u9 ⟨rfl, e9⟩; have e9 := e9.symm; subst e9
              refine p_goto (tgt := 151) X (dcg dc_X12_readsPart 74 rfl) (by decide) ?_
              refine p_pick [] ?_
              exact wX12_readsPart_b151 X hG hnm hf 
            · have hf := if_f q hf
              refine p_iconst (v := 0) X (dcg dc_X12_readsPart 52 rfl) (by decide) ?_
              have er := Option.some.inj hf
              subst er
              exact p_zret X rfl rfl (dcg dc_X12_readsPart 53 rfl) ⟨rfl, rfl⟩ (Nat.le_refl _) (Nat.le_refl _)
          · have hf := if_f q hf
            refine p_iconst (v := 0) X (dcg dc_X12_readsPart 45 rfl) (by decide) ?_
            have er := Option.some.inj hf
            subst er
            exact p_zret X rfl rfl (dcg dc_X12_readsPart 46 rfl) ⟨rfl, rfl⟩ (Nat.le_refl _) (Nat.le_refl _)
      · have hf := if_f q hf
        refine p_aload_n X (dcg dc_X12_readsPart 21 rfl) rfl rfl ?_
        refine p_aload_n X (dcg dc_X12_readsPart 22 rfl) rfl rfl ?_
        refine p_bipush (v := 6) X (dcg dc_X12_readsPart 23 rfl) (by decide) ?_
        refine p_iconst (v := 1) X (dcg dc_X12_readsPart 24 rfl) (by decide) ?_
        refine p_iload_n X (dcg dc_X12_readsPart 25 rfl) rfl rfl ?_
        refine p_iconst (v := 0) X (dcg dc_X12_readsPart 26 rfl) (by decide) ?_
        obtain ⟨z28, hz28, hf⟩ := bd_some hf
        refine p_callV (As := [_, _, _, _]) X ml_X12_277 (dcg dc_X12_readsPart 27 rfl) rfl rfl hk6 (wX12_makes hG hz28) (by decide) (room4 (Nat.le_of_ble_eq_true rfl)) (Nat.le_refl _) (Nat.le_refl _) ?_
        rintro _ u9 ⟨rfl, e9⟩; have e9 := e9.symm; subst e9
        obtain ⟨hk29, hf⟩ := gd_some hf
        obtain ⟨z30, hz30, hf⟩ := bd_some hf
        refine p_callV (As := [_]) X ml_X12_312 (dcg dc_X12_readsPart 28 rfl) rfl rfl hk29 (wX12_hasPart hG hz30) (by decide) (room4 (Nat.le_of_ble_eq_true rfl)) (Nat.le_refl _) (Nat.le_refl _) ?_
        rintro _ u9 ⟨rfl, e9⟩; have e9 := e9.symm; subst e9
        refine p_aload_n X (dcg dc_X12_readsPart 29 rfl) rfl rfl ?_
        obtain ⟨hk31, hf⟩ := gd_some hf
        obtain ⟨z32, hz32, hf⟩ := bd_some hf
        refine p_callV (As := []) X ml_X12_303 (dcg dc_X12_readsPart 30 rfl) rfl rfl hk31 (wX12_reads hG hz32) (by decide) (room4 (Nat.le_of_ble_eq_true rfl)) (Nat.le_refl _) (Nat.le_refl _) ?_
        rintro _ u9 ⟨rfl, e9⟩; have e9 := e9.symm; subst e9
        refine p_goto (tgt := 151) X (dcg dc_X12_readsPart 31 rfl) (by decide) ?_
        refine p_pick [] ?_
        exact wX12_readsPart_b151 X hG hnm hf 
    · have hf := if_f q hf
      refine p_iconst (v := 0) X (dcg dc_X12_readsPart 13 rfl) (by decide) ?_
      have er := Option.some.inj hf
      subst er
      exact p_zret X rfl rfl (dcg dc_X12_readsPart 14 rfl) ⟨rfl, rfl⟩ (Nat.le_refl _) (Nat.le_refl _)
  · have hf := if_f q hf
    refine p_aload_n X (dcg dc_X12_readsPart 4 rfl) rfl rfl ?_
    obtain ⟨z33, hz33, hf⟩ := bd_some hf
    refine p_callV (As := []) X ml_X12_315 (dcg dc_X12_readsPart 5 rfl) rfl rfl hk1 (wX12_readsLine hG hz33) (by decide) (room4 (Nat.le_of_ble_eq_true rfl)) (Nat.le_refl _) (Nat.le_refl _) ?_
    rintro _ u9 ⟨rfl, e9⟩; have e9 := e9.symm; subst e9
    obtain ⟨hg34, hf⟩ := gd_some hf
    have er := Option.some.inj hf
    subst er
    exact p_zret X rfl (congrArg Value.int hg34) (dcg dc_X12_readsPart 6 rfl) ⟨rfl, rfl⟩ (Nat.le_refl _) (Nat.le_refl _)
theorem dc_X12_opens : decs cX12_opens [(0, .aload_n 0, 1), (1, .getfield 290, 3), (4, .bipush 8, 2), (6, .if_icmp .ne 5, 3), (9, .iconst 0, 1), (10, .ireturn, 1), (11, .aload_n 0, 1), (12, .dup, 1), (13, .getfield 290, 3), (16, .iconst 1, 1), (17, .iadd, 1), (18, .putfield 290, 3), (21, .aload_n 0, 1), (22, .getfield 258, 3), (25, .bipush 33, 2), (27, .if_icmp .ne 16, 3), (30, .aload_n 0, 1), (31, .dup, 1), (32, .getfield 284, 3), (35, .iconst 1, 1), (36, .iadd, 1), (37, .putfield 284, 3), (40, .goto 26, 3), (43, .aload_n 0, 1), (44, .dup, 1), (45, .getfield 281, 3), (48, .iconst 1, 1), (49, .iadd, 1), (50, .putfield 281, 3), (53, .aload_n 0, 1), (54, .aload_n 0, 1), (55, .getfield 284, 3), (58, .invokevirtual 318, 3), (61, .aload_n 0, 1), (62, .iconst 0, 1), (63, .putfield 284, 3), (66, .aload_n 0, 1), (67, .invokevirtual 303, 3), (70, .iconst 1, 1), (71, .ireturn, 1)] = true := by decide +kernel
noncomputable def fX12_opens_b66 (v0 : Nat) (h : PH) : Option (Int32 × PH) :=
  gd (hK h v0 = 12) (bd (fX12_reads v0 h) (fun z8 =>
  some (((1 : Int32), z8))))
set_option maxRecDepth 100000 in
theorem mX12_opens_b66 {v0 : Nat} {h : PH} {r : (Int32 × PH)} (hf : fX12_opens_b66 v0 h = some r) : eqz h (hX r.2) (hV r.2) := by
  unfold fX12_opens_b66 at hf
  have hle := eqz_rf h
  obtain ⟨hk7, hf⟩ := gd_some hf
  obtain ⟨z8, hz8, hf⟩ := bd_some hf
  have hle := eqz_rt (mX12_reads hz8) hle
  have ee := Option.some.inj hf; subst ee; exact hle
set_option maxRecDepth 100000 in
theorem wX12_opens_b66 {E : PE} {p : Program} {l : Launch} {e : Env} {s : State} {m : MethodId} {args : Array Value} {below : List Frame} {meth : Method} {c : Code} (X : Cx E p l e (rmv 3 0 0) s m args below meth c RX12 cX12_opens 1 (some .boolean)) (hG : Gs E l) (hnm : meth.name = yX12_opens.name) {v0 : Nat} {h : PH} {r : (Int32 × PH)} (hf : fX12_opens_b66 v0 h = some r)  : PW E p l e (rmv 3 0 0) s m args below meth c 1 0 0 (MQ below (QG E (fun v u => v = some (.int r.1) ∧ u = r.2)) args s 0 0 (pA E)) h 66 [(0, some (.ref v0))] [] := by
  unfold fX12_opens_b66 at hf
  refine p_aload_n X (dcg dc_X12_opens 36 rfl) rfl rfl ?_
  obtain ⟨hk7, hf⟩ := gd_some hf
  obtain ⟨z8, hz8, hf⟩ := bd_some hf
  refine p_callV (As := []) X ml_X12_303 (dcg dc_X12_opens 37 rfl) rfl rfl hk7 (wX12_reads hG hz8) (by decide) (room4 (Nat.le_of_ble_eq_true rfl)) (Nat.le_refl _) (Nat.le_refl _) ?_
  rintro _ u9 ⟨rfl, e9⟩; have e9 := e9.symm; subst e9
  refine p_iconst (v := 1) X (dcg dc_X12_opens 38 rfl) (by decide) ?_
  have er := Option.some.inj hf
  subst er
  exact p_zret X rfl rfl (dcg dc_X12_opens 39 rfl) ⟨rfl, rfl⟩ (Nat.le_refl _) (Nat.le_refl _)
noncomputable def fX12_opens (v0 : Nat) (h : PH) : Option (Int32 × PH) :=
  gd (hK h v0 = 12) (if (¬ (hI h 12 v0 43) = (8 : Int32)) then (lt (sI h 12 v0 43 ((hI h 12 v0 43) + (1 : Int32))) (fun h2 =>
  if (¬ (hI h2 12 v0 23) = (33 : Int32)) then (lt (sI h2 12 v0 42 ((hI h2 12 v0 42) + (1 : Int32))) (fun h3 =>
  bd (fX12_begins0 v0 (hI h3 12 v0 44) h3) (fun z4 =>
  gd (hK z4 v0 = 12) (lt (sI z4 12 v0 44 (0 : Int32)) (fun h6 =>
  fX12_opens_b66 v0 h6))))) else
  lt (sI h2 12 v0 44 ((hI h2 12 v0 44) + (1 : Int32))) (fun h9 =>
  fX12_opens_b66 v0 h9))) else
  some (((0 : Int32), h)))
set_option maxRecDepth 100000 in
theorem mX12_opens {v0 : Nat} {h : PH} {r : (Int32 × PH)} (hf : fX12_opens v0 h = some r) : eqz h (hX r.2) (hV r.2) := by
  unfold fX12_opens at hf
  have hle := eqz_rf h
  obtain ⟨hk1, hf⟩ := gd_some hf
  rcases ite_or hf with ⟨q, hf⟩ | ⟨q, hf⟩
  · have hf := if_t q hf
    obtain ⟨h2, rfl, hf⟩ := lt_some hf
    rcases ite_or hf with ⟨q, hf⟩ | ⟨q, hf⟩
    · have hf := if_t q hf
      obtain ⟨h3, rfl, hf⟩ := lt_some hf
      obtain ⟨z4, hz4, hf⟩ := bd_some hf
      have hle := eqz_rt (mX12_begins0 hz4) hle
      obtain ⟨hk5, hf⟩ := gd_some hf
      obtain ⟨h6, rfl, hf⟩ := lt_some hf
      exact eqz_rt (mX12_opens_b66 hf) hle
    · have hf := if_f q hf
      obtain ⟨h9, rfl, hf⟩ := lt_some hf
      exact eqz_rt (mX12_opens_b66 hf) hle
  · have hf := if_f q hf
    have ee := Option.some.inj hf; subst ee; exact hle
set_option maxRecDepth 100000 in
theorem wX12_opens {E : PE} {l : Launch} (hG : Gs E l) {v0 : Nat} {h : PH} {r : (Int32 × PH)} (hf : fX12_opens v0 h = some r) : Ct E l 3 0 0 yX12_opens cX12_opens 1 (some .boolean) [.ref v0] h (fun v u => v = some (.int r.1) ∧ u = r.2) := by
  refine ct_of hG (by decide) (Nat.le_of_ble_eq_true rfl) ?_
  intro p e s m args below meth c X hnm
  show PW E p l e _ s m args below meth c _ 0 0 _ h 0 [(0, some (.ref v0))] []
  unfold fX12_opens at hf
  refine p_aload_n X (dcg dc_X12_opens 0 rfl) rfl rfl ?_
  obtain ⟨hk1, hf⟩ := gd_some hf
  refine p_getI X fl_X12_290 rfl (by decide) (dcg dc_X12_opens 1 rfl) hk1 ?_
  refine p_bipush (v := 8) X (dcg dc_X12_opens 2 rfl) (by decide) ?_
  refine p_icmp_ne (tgt := 11) X (dcg dc_X12_opens 3 rfl) (by decide) (fun q => ?_) (fun q => ?_)
  · have hf := if_t q hf
    refine p_aload_n X (dcg dc_X12_opens 6 rfl) rfl rfl ?_
    refine p_dup X (dcg dc_X12_opens 7 rfl) rfl ?_
    refine p_getI X fl_X12_290 rfl (by decide) (dcg dc_X12_opens 8 rfl) hk1 ?_
    refine p_iconst (v := 1) X (dcg dc_X12_opens 9 rfl) (by decide) ?_
    refine p_iadd X (dcg dc_X12_opens 10 rfl) ?_
    refine p_putI X fl_X12_290 rfl (by decide) (fun q hq => by cases hq; rfl) rfl rfl (dcg dc_X12_opens 11 rfl) hk1 ?_
    obtain ⟨h2, rfl, hf⟩ := lt_some hf
    refine p_aload_n X (dcg dc_X12_opens 12 rfl) rfl rfl ?_
    refine p_getI X fl_X12_258 rfl (by decide) (dcg dc_X12_opens 13 rfl) hk1 ?_
    refine p_bipush (v := 33) X (dcg dc_X12_opens 14 rfl) (by decide) ?_
    refine p_icmp_ne (tgt := 43) X (dcg dc_X12_opens 15 rfl) (by decide) (fun q => ?_) (fun q => ?_)
    · have hf := if_t q hf
      refine p_aload_n X (dcg dc_X12_opens 23 rfl) rfl rfl ?_
      refine p_dup X (dcg dc_X12_opens 24 rfl) rfl ?_
      refine p_getI X fl_X12_281 rfl (by decide) (dcg dc_X12_opens 25 rfl) hk1 ?_
      refine p_iconst (v := 1) X (dcg dc_X12_opens 26 rfl) (by decide) ?_
      refine p_iadd X (dcg dc_X12_opens 27 rfl) ?_
      refine p_putI X fl_X12_281 rfl (by decide) (fun q hq => by cases hq; rfl) rfl rfl (dcg dc_X12_opens 28 rfl) hk1 ?_
      obtain ⟨h3, rfl, hf⟩ := lt_some hf
      refine p_aload_n X (dcg dc_X12_opens 29 rfl) rfl rfl ?_
      refine p_aload_n X (dcg dc_X12_opens 30 rfl) rfl rfl ?_
      refine p_getI X fl_X12_284 rfl (by decide) (dcg dc_X12_opens 31 rfl) hk1 ?_
      obtain ⟨z4, hz4, hf⟩ := bd_some hf
      refine p_callV (As := [_]) X ml_X12_318 (dcg dc_X12_opens 32 rfl) rfl rfl hk1 (wX12_begins0 hG hz4) (by decide) (room4 (Nat.le_of_ble_eq_true rfl)) (Nat.le_refl _) (Nat.le_refl _) ?_
      rintro _ u9 ⟨rfl, e9⟩; have e9 := e9.symm; subst e9
      refine p_aload_n X (dcg dc_X12_opens 33 rfl) rfl rfl ?_
      refine p_iconst (v := 0) X (dcg dc_X12_opens 34 rfl) (by decide) ?_
      obtain ⟨hk5, hf⟩ := gd_some hf
      refine p_putI X fl_X12_284 rfl (by decide) (fun q hq => by cases hq; rfl) rfl rfl (dcg dc_X12_opens 35 rfl) hk5 ?_
      obtain ⟨h6, rfl, hf⟩ := lt_some hf
      refine p_pick [0] ?_
      exact wX12_opens_b66 X hG hnm hf 
    · have hf := if_f q hf
      refine p_aload_n X (dcg dc_X12_opens 16 rfl) rfl rfl ?_
      refine p_dup X (dcg dc_X12_opens 17 rfl) rfl ?_
      refine p_getI X fl_X12_284 rfl (by decide) (dcg dc_X12_opens 18 rfl) hk1 ?_
      refine p_iconst (v := 1) X (dcg dc_X12_opens 19 rfl) (by decide) ?_
      refine p_iadd X (dcg dc_X12_opens 20 rfl) ?_
      refine p_putI X fl_X12_284 rfl (by decide) (fun q hq => by cases hq; rfl) rfl rfl (dcg dc_X12_opens 21 rfl) hk1 ?_
      obtain ⟨h9, rfl, hf⟩ := lt_some hf
      refine p_goto (tgt := 66) X (dcg dc_X12_opens 22 rfl) (by decide) ?_
      refine p_pick [0] ?_
      exact wX12_opens_b66 X hG hnm hf 
  · have hf := if_f q hf
    refine p_iconst (v := 0) X (dcg dc_X12_opens 4 rfl) (by decide) ?_
    have er := Option.some.inj hf
    subst er
    exact p_zret X rfl rfl (dcg dc_X12_opens 5 rfl) ⟨rfl, rfl⟩ (Nat.le_refl _) (Nat.le_refl _)
