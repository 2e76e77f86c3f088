/-! methods of the program (by program: wip/whole/gen2.py) -/
theorem dc_X12_writtenAt : decs cX12_writtenAt [(0, .aload_n 0, 1), (1, .iconst 0, 1), (2, .putfield 1, 3), (5, .aload_n 0, 1), (6, .iload_n 1, 1), (7, .iconst 0, 1), (8, .aload_n 0, 1), (9, .getfield 382, 3), (12, .iconst 1, 1), (13, .isub, 1), (14, .invokestatic 148, 3), (17, .iconst 1, 1), (18, .invokevirtual 156, 3), (21, .ifCond .eq 8, 3), (24, .bipush 32, 2), (26, .goto 10, 3), (29, .aload_n 0, 1), (30, .getfield 132, 3), (33, .iload_n 1, 1), (34, .iaload, 1), (35, .i2c, 1), (36, .ireturn, 1)] = true := by decide +kernel
noncomputable def fX12_writtenAt_b36 (t0 : Int32) (h : PH) : Option (Int32 × PH) :=
  gd ((((Int32.toUInt32 t0).toUInt16).toUInt32).toInt32 = t0) (some ((t0, h)))
set_option maxRecDepth 100000 in
theorem mX12_writtenAt_b36 {t0 : Int32} {h : PH} {r : (Int32 × PH)} (hf : fX12_writtenAt_b36 t0 h = some r) : eqz h (hX r.2) (hV r.2) := by
  unfold fX12_writtenAt_b36 at hf
  have hle := eqz_rf h
  obtain ⟨hg10, hf⟩ := gd_some hf
  have ee := Option.some.inj hf; subst ee; exact hle
set_option maxRecDepth 100000 in
theorem wX12_writtenAt_b36 {E : PE} {p : Program} {l : Launch} {e : Env} {s : State} {m : MethodId} {args : Array Value} {below : List Frame} {meth : Method} {c : Code} (X : Cx E p l e (rmv 1 0 0) s m args below meth c RX12 cX12_writtenAt 2 (some .char)) (hG : Gs E l) (hnm : meth.name = yX12_writtenAt.name) {t0 : Int32} {h : PH} {r : (Int32 × PH)} (hf : fX12_writtenAt_b36 t0 h = some r)  : PW E p l e (rmv 1 0 0) s m args below meth c 2 0 0 (MQ below (QG E (fun v u => v = some (.int r.1) ∧ u = r.2)) args s 0 0 (pA E)) h 36 [] [.int t0] := by
  unfold fX12_writtenAt_b36 at hf
  obtain ⟨hg10, hf⟩ := gd_some hf
  have er := Option.some.inj hf
  subst er
  exact p_zret X rfl (congrArg Value.int hg10) (dcg dc_X12_writtenAt 21 rfl) ⟨rfl, rfl⟩ (Nat.le_refl _) (Nat.le_refl _)
noncomputable def fX12_writtenAt (v0 : Nat) (v1 : Int32) (h : PH) : Option (Int32 × PH) :=
  gd (hK h v0 = 12) (lt (sI h 12 v0 0 (0 : Int32)) (fun h2 =>
  bd (fX12_in v1 (0 : Int32) ((hI h2 12 v0 56) - (1 : Int32))) (fun z3 =>
  bd (fX12_fails v0 z3 (1 : Int32) h2) (fun z4 =>
  if (z4.1 = 0) then (gd (hK z4.2 v0 = 12) (gs (hR z4.2 12 v0 54) (fun a6 =>
  gd (hK z4.2 a6 = 20 ∧ inb v1 (hN z4.2 a6)) (fX12_writtenAt_b36 (((Int32.toUInt32 (hI z4.2 20 a6 (Int32.toNatClampNeg v1))) % 65536).toInt32) z4.2)))) else
  fX12_writtenAt_b36 (32 : Int32) z4.2))))
set_option maxRecDepth 100000 in
theorem mX12_writtenAt {v0 : Nat} {v1 : Int32} {h : PH} {r : (Int32 × PH)} (hf : fX12_writtenAt v0 v1 h = some r) : eqz h (hX r.2) (hV r.2) := by
  unfold fX12_writtenAt at hf
  have hle := eqz_rf h
  obtain ⟨hk1, hf⟩ := gd_some hf
  obtain ⟨h2, rfl, hf⟩ := lt_some hf
  obtain ⟨z3, hz3, hf⟩ := bd_some hf
  obtain ⟨z4, hz4, hf⟩ := bd_some hf
  have hle := eqz_rt (mX12_fails hz4) hle
  rcases ite_or hf with ⟨q, hf⟩ | ⟨q, hf⟩
  · have hf := if_t q hf
    obtain ⟨hk5, hf⟩ := gd_some hf
    obtain ⟨a6, e7, hf⟩ := gs_some hf
    obtain ⟨⟨hk9, hb8⟩, hf⟩ := gd_some hf
    exact eqz_rt (mX12_writtenAt_b36 hf) hle
  · have hf := if_f q hf
    exact eqz_rt (mX12_writtenAt_b36 hf) hle
set_option maxRecDepth 100000 in
theorem wX12_writtenAt {E : PE} {l : Launch} (hG : Gs E l) {v0 : Nat} {v1 : Int32} {h : PH} {r : (Int32 × PH)} (hf : fX12_writtenAt v0 v1 h = some r) : Ct E l 1 0 0 yX12_writtenAt cX12_writtenAt 2 (some .char) [.ref v0, .int v1] h (fun v u => v = some (.int r.1) ∧ u = r.2) := by
  refine ct_of hG (by decide) (Nat.le_of_ble_eq_true rfl) ?_
  intro p e s m args below meth c X hnm
  show PW E p l e _ s m args below meth c _ 0 0 _ h 0 [(0, some (.ref v0)), (1, some (.int v1))] []
  unfold fX12_writtenAt at hf
  refine p_aload_n X (dcg dc_X12_writtenAt 0 rfl) rfl rfl ?_
  refine p_iconst (v := 0) X (dcg dc_X12_writtenAt 1 rfl) (by decide) ?_
  obtain ⟨hk1, hf⟩ := gd_some hf
  refine p_putI X fl_X12_1 rfl (by decide) (fun q hq => by cases hq; rfl) rfl rfl (dcg dc_X12_writtenAt 2 rfl) hk1 ?_
  obtain ⟨h2, rfl, hf⟩ := lt_some hf
  refine p_aload_n X (dcg dc_X12_writtenAt 3 rfl) rfl rfl ?_
  refine p_iload_n X (dcg dc_X12_writtenAt 4 rfl) rfl rfl ?_
  refine p_iconst (v := 0) X (dcg dc_X12_writtenAt 5 rfl) (by decide) ?_
  refine p_aload_n X (dcg dc_X12_writtenAt 6 rfl) rfl rfl ?_
  refine p_getI X fl_X12_382 rfl (by decide) (dcg dc_X12_writtenAt 7 rfl) hk1 ?_
  refine p_iconst (v := 1) X (dcg dc_X12_writtenAt 8 rfl) (by decide) ?_
  refine p_isub X (dcg dc_X12_writtenAt 9 rfl) ?_
  obtain ⟨z3, hz3, hf⟩ := bd_some hf
  refine p_callS (As := [_, _, _]) X ml_X12_148 (dcg dc_X12_writtenAt 10 rfl) rfl rfl  (wX12_in hG hz3) (by decide) (room4 (Nat.le_of_ble_eq_true rfl)) (Nat.le_refl _) (Nat.le_refl _) ?_
  rintro _ u9 ⟨rfl, e9⟩; have e9 := e9.symm; subst e9
  refine p_iconst (v := 1) X (dcg dc_X12_writtenAt 11 rfl) (by decide) ?_
  obtain ⟨z4, hz4, hf⟩ := bd_some hf
  refine p_callV (As := [_, _]) X ml_X12_156 (dcg dc_X12_writtenAt 12 rfl) rfl rfl hk1 (wX12_fails hG hz4) (by decide) (room4 (Nat.le_of_ble_eq_true rfl)) (Nat.le_refl _) (Nat.le_refl _) ?_
  rintro _ u9 ⟨rfl, e9⟩; have e9 := e9.symm; subst e9
  refine p_if_eq (tgt := 29) X (dcg dc_X12_writtenAt 13 rfl) (by decide) (fun q => ?_) (fun q => ?_)
  · have hf := if_t q hf
    refine p_aload_n X (dcg dc_X12_writtenAt 16 rfl) rfl rfl ?_
    obtain ⟨hk5, hf⟩ := gd_some hf
    refine p_getR X fl_X12_132 rfl (by decide) (dcg dc_X12_writtenAt 17 rfl) hk5 ?_
    refine p_iload_n X (dcg dc_X12_writtenAt 18 rfl) rfl rfl ?_
    obtain ⟨a6, e7, hf⟩ := gs_some hf
    first | subst e7 | (try rw [e7])
    obtain ⟨⟨hk9, hb8⟩, hf⟩ := gd_some hf
    refine p_iald X (dcg dc_X12_writtenAt 19 rfl) hk9 (vp_of_inb hb8) ?_
    refine p_i2c X (dcg dc_X12_writtenAt 20 rfl) ?_
    refine p_pick [] ?_
    exact wX12_writtenAt_b36 X hG hnm hf 
  · have hf := if_f q hf
    refine p_bipush (v := 32) X (dcg dc_X12_writtenAt 14 rfl) (by decide) ?_
    refine p_goto (tgt := 36) X (dcg dc_X12_writtenAt 15 rfl) (by decide) ?_
    refine p_pick [] ?_
    exact wX12_writtenAt_b36 X hG hnm hf 
theorem dc_X12_events : decs cX12_events [(0, .aload_n 0, 1), (1, .iconst 0, 1), (2, .putfield 1, 3), (5, .aload_n 0, 1), (6, .getfield 196, 3), (9, .ireturn, 1)] = true := by decide +kernel
noncomputable def fX12_events (v0 : Nat) (h : PH) : Option (Int32 × PH) :=
  gd (hK h v0 = 12) (lt (sI h 12 v0 0 (0 : Int32)) (fun h2 =>
  some (((hI h2 12 v0 18), h2))))
set_option maxRecDepth 100000 in
theorem mX12_events {v0 : Nat} {h : PH} {r : (Int32 × PH)} (hf : fX12_events v0 h = some r) : eqz h (hX r.2) (hV r.2) := by
  unfold fX12_events at hf
  have hle := eqz_rf h
  obtain ⟨hk1, hf⟩ := gd_some hf
  obtain ⟨h2, rfl, hf⟩ := lt_some hf
  have ee := Option.some.inj hf; subst ee; exact hle
set_option maxRecDepth 100000 in
theorem wX12_events {E : PE} {l : Launch} (hG : Gs E l) {v0 : Nat} {h : PH} {r : (Int32 × PH)} (hf : fX12_events v0 h = some r) : Ct E l 0 0 0 yX12_events cX12_events 1 (some .int) [.ref v0] h (fun v u => v = some (.int r.1) ∧ u = r.2) := by
  refine ct_of hG (by decide) (Nat.le_of_ble_eq_true rfl) ?_
  intro p e s m args below meth c X hnm
  show PW E p l e _ s m args below meth c _ 0 0 _ h 0 [(0, some (.ref v0))] []
  unfold fX12_events at hf
  refine p_aload_n X (dcg dc_X12_events 0 rfl) rfl rfl ?_
  refine p_iconst (v := 0) X (dcg dc_X12_events 1 rfl) (by decide) ?_
  obtain ⟨hk1, hf⟩ := gd_some hf
  refine p_putI X fl_X12_1 rfl (by decide) (fun q hq => by cases hq; rfl) rfl rfl (dcg dc_X12_events 2 rfl) hk1 ?_
  obtain ⟨h2, rfl, hf⟩ := lt_some hf
  refine p_aload_n X (dcg dc_X12_events 3 rfl) rfl rfl ?_
  refine p_getI X fl_X12_196 rfl (by decide) (dcg dc_X12_events 4 rfl) hk1 ?_
  have er := Option.some.inj hf
  subst er
  exact p_iret X rfl (dcg dc_X12_events 5 rfl) ⟨rfl, rfl⟩ (Nat.le_refl _) (Nat.le_refl _)
theorem dc_X12_eventOf : decs cX12_eventOf [(0, .aload_n 0, 1), (1, .iconst 0, 1), (2, .putfield 1, 3), (5, .aload_n 0, 1), (6, .iload_n 1, 1), (7, .iconst 0, 1), (8, .aload_n 0, 1), (9, .getfield 196, 3), (12, .iconst 1, 1), (13, .isub, 1), (14, .invokestatic 148, 3), (17, .iconst 1, 1), (18, .invokevirtual 156, 3), (21, .ifCond .ne 17, 3), (24, .aload_n 0, 1), (25, .iload_n 2, 1), (26, .iconst 0, 1), (27, .iconst 2, 1), (28, .invokestatic 148, 3), (31, .iconst 2, 1), (32, .invokevirtual 156, 3), (35, .ifCond .eq 5, 3), (38, .iconst 0, 1), (39, .ireturn, 1), (40, .iload_n 2, 1), (41, .ifCond .ne 12, 3), (44, .aload_n 0, 1), (45, .getfield 48, 3), (48, .iload_n 1, 1), (49, .iaload, 1), (50, .goto 23, 3), (53, .iload_n 2, 1), (54, .iconst 1, 1), (55, .if_icmp .ne 12, 3), (58, .aload_n 0, 1), (59, .getfield 51, 3), (62, .iload_n 1, 1), (63, .iaload, 1), (64, .goto 9, 3), (67, .aload_n 0, 1), (68, .getfield 54, 3), (71, .iload_n 1, 1), (72, .iaload, 1), (73, .ireturn, 1)] = true := by decide +kernel
noncomputable def fX12_eventOf_b38  (h : PH) : Option (Int32 × PH) :=
  some (((0 : Int32), h))
set_option maxRecDepth 100000 in
theorem mX12_eventOf_b38  {h : PH} {r : (Int32 × PH)} (hf : fX12_eventOf_b38  h = some r) : eqz h (hX r.2) (hV r.2) := by
  unfold fX12_eventOf_b38 at hf
  have hle := eqz_rf h
  have ee := Option.some.inj hf; subst ee; exact hle
set_option maxRecDepth 100000 in
theorem wX12_eventOf_b38 {E : PE} {p : Program} {l : Launch} {e : Env} {s : State} {m : MethodId} {args : Array Value} {below : List Frame} {meth : Method} {c : Code} (X : Cx E p l e (rmv 1 0 0) s m args below meth c RX12 cX12_eventOf 3 (some .int)) (hG : Gs E l) (hnm : meth.name = yX12_eventOf.name)  {h : PH} {r : (Int32 × PH)} (hf : fX12_eventOf_b38  h = some r)  : PW E p l e (rmv 1 0 0) s m args below meth c 3 0 0 (MQ below (QG E (fun v u => v = some (.int r.1) ∧ u = r.2)) args s 0 0 (pA E)) h 38 [] [] := by
  unfold fX12_eventOf_b38 at hf
  refine p_iconst (v := 0) X (dcg dc_X12_eventOf 22 rfl) (by decide) ?_
  have er := Option.some.inj hf
  subst er
  exact p_iret X rfl (dcg dc_X12_eventOf 23 rfl) ⟨rfl, rfl⟩ (Nat.le_refl _) (Nat.le_refl _)
noncomputable def fX12_eventOf_b73 (t0 : Int32) (h : PH) : Option (Int32 × PH) :=
  some ((t0, h))
set_option maxRecDepth 100000 in
theorem mX12_eventOf_b73 {t0 : Int32} {h : PH} {r : (Int32 × PH)} (hf : fX12_eventOf_b73 t0 h = some r) : eqz h (hX r.2) (hV r.2) := by
  unfold fX12_eventOf_b73 at hf
  have hle := eqz_rf h
  have ee := Option.some.inj hf; subst ee; exact hle
set_option maxRecDepth 100000 in
theorem wX12_eventOf_b73 {E : PE} {p : Program} {l : Launch} {e : Env} {s : State} {m : MethodId} {args : Array Value} {below : List Frame} {meth : Method} {c : Code} (X : Cx E p l e (rmv 1 0 0) s m args below meth c RX12 cX12_eventOf 3 (some .int)) (hG : Gs E l) (hnm : meth.name = yX12_eventOf.name) {t0 : Int32} {h : PH} {r : (Int32 × PH)} (hf : fX12_eventOf_b73 t0 h = some r)  : PW E p l e (rmv 1 0 0) s m args below meth c 3 0 0 (MQ below (QG E (fun v u => v = some (.int r.1) ∧ u = r.2)) args s 0 0 (pA E)) h 73 [] [.int t0] := by
  unfold fX12_eventOf_b73 at hf
  have er := Option.some.inj hf
  subst er
  exact p_iret X rfl (dcg dc_X12_eventOf 43 rfl) ⟨rfl, rfl⟩ (Nat.le_refl _) (Nat.le_refl _)
noncomputable def fX12_eventOf (v0 : Nat) (v1 : Int32) (v2 : Int32) (h : PH) : Option (Int32 × PH) :=
  gd (hK h v0 = 12) (lt (sI h 12 v0 0 (0 : Int32)) (fun h2 =>
  bd (fX12_in v1 (0 : Int32) ((hI h2 12 v0 18) - (1 : Int32))) (fun z3 =>
  bd (fX12_fails v0 z3 (1 : Int32) h2) (fun z4 =>
  if (¬ z4.1 = 0) then (fX12_eventOf_b38  z4.2) else
  bd (fX12_in v2 (0 : Int32) (2 : Int32)) (fun z5 =>
  gd (hK z4.2 v0 = 12) (bd (fX12_fails v0 z5 (2 : Int32) z4.2) (fun z7 =>
  if (z7.1 = 0) then (if (¬ v2 = 0) then (if (¬ v2 = (1 : Int32)) then (gd (hK z7.2 v0 = 12) (gs (hR z7.2 12 v0 17) (fun a9 =>
  gd (hK z7.2 a9 = 20 ∧ inb v1 (hN z7.2 a9)) (fX12_eventOf_b73 (hI z7.2 20 a9 (Int32.toNatClampNeg v1)) z7.2)))) else
  gd (hK z7.2 v0 = 12) (gs (hR z7.2 12 v0 16) (fun a14 =>
  gd (hK z7.2 a14 = 20 ∧ inb v1 (hN z7.2 a14)) (fX12_eventOf_b73 (hI z7.2 20 a14 (Int32.toNatClampNeg v1)) z7.2)))) else
  gd (hK z7.2 v0 = 12) (gs (hR z7.2 12 v0 15) (fun a19 =>
  gd (hK z7.2 a19 = 20 ∧ inb v1 (hN z7.2 a19)) (fX12_eventOf_b73 (hI z7.2 20 a19 (Int32.toNatClampNeg v1)) z7.2)))) else
  fX12_eventOf_b38  z7.2)))))))
set_option maxRecDepth 100000 in
theorem mX12_eventOf {v0 : Nat} {v1 : Int32} {v2 : Int32} {h : PH} {r : (Int32 × PH)} (hf : fX12_eventOf v0 v1 v2 h = some r) : eqz h (hX r.2) (hV r.2) := by
  unfold fX12_eventOf at hf
  have hle := eqz_rf h
  obtain ⟨hk1, hf⟩ := gd_some hf
  obtain ⟨h2, rfl, hf⟩ := lt_some hf
  obtain ⟨z3, hz3, hf⟩ := bd_some hf
  obtain ⟨z4, hz4, hf⟩ := bd_some hf
  have hle := eqz_rt (mX12_fails hz4) hle
  rcases ite_or hf with ⟨q, hf⟩ | ⟨q, hf⟩
  · have hf := if_t q hf
    exact eqz_rt (mX12_eventOf_b38 hf) hle
  · have hf := if_f q hf
    obtain ⟨z5, hz5, hf⟩ := bd_some hf
    obtain ⟨hk6, hf⟩ := gd_some hf
    obtain ⟨z7, hz7, hf⟩ := bd_some hf
    have hle := eqz_rt (mX12_fails hz7) hle
    rcases ite_or hf with ⟨q, hf⟩ | ⟨q, hf⟩
    · have hf := if_t q hf
      rcases ite_or hf with ⟨q, hf⟩ | ⟨q, hf⟩
      · have hf := if_t q hf
        rcases ite_or hf with ⟨q, hf⟩ | ⟨q, hf⟩
        · have hf := if_t q hf
          obtain ⟨hk8, hf⟩ := gd_some hf
          obtain ⟨a9, e10, hf⟩ := gs_some hf
          obtain ⟨⟨hk12, hb11⟩, hf⟩ := gd_some hf
          exact eqz_rt (mX12_eventOf_b73 hf) hle
        · have hf := if_f q hf
          obtain ⟨hk13, hf⟩ := gd_some hf
          obtain ⟨a14, e15, hf⟩ := gs_some hf
          obtain ⟨⟨hk17, hb16⟩, hf⟩ := gd_some hf
          exact eqz_rt (mX12_eventOf_b73 hf) hle
      · have hf := if_f q hf
        obtain ⟨hk18, hf⟩ := gd_some hf
        obtain ⟨a19, e20, hf⟩ := gs_some hf
        obtain ⟨⟨hk22, hb21⟩, hf⟩ := gd_some hf
        exact eqz_rt (mX12_eventOf_b73 hf) hle
    · have hf := if_f q hf
      exact eqz_rt (mX12_eventOf_b38 hf) hle
set_option maxRecDepth 100000 in
theorem wX12_eventOf {E : PE} {l : Launch} (hG : Gs E l) {v0 : Nat} {v1 : Int32} {v2 : Int32} {h : PH} {r : (Int32 × PH)} (hf : fX12_eventOf v0 v1 v2 h = some r) : Ct E l 1 0 0 yX12_eventOf cX12_eventOf 3 (some .int) [.ref v0, .int v1, .int v2] h (fun v u => v = some (.int r.1) ∧ u = r.2) := by
  refine ct_of hG (by decide) (Nat.le_of_ble_eq_true rfl) ?_
  intro p e s m args below meth c X hnm
  show PW E p l e _ s m args below meth c _ 0 0 _ h 0 [(0, some (.ref v0)), (1, some (.int v1)), (2, some (.int v2))] []
  unfold fX12_eventOf at hf
  refine p_aload_n X (dcg dc_X12_eventOf 0 rfl) rfl rfl ?_
  refine p_iconst (v := 0) X (dcg dc_X12_eventOf 1 rfl) (by decide) ?_
  obtain ⟨hk1, hf⟩ := gd_some hf
  refine p_putI X fl_X12_1 rfl (by decide) (fun q hq => by cases hq; rfl) rfl rfl (dcg dc_X12_eventOf 2 rfl) hk1 ?_
  obtain ⟨h2, rfl, hf⟩ := lt_some hf
  refine p_aload_n X (dcg dc_X12_eventOf 3 rfl) rfl rfl ?_
  refine p_iload_n X (dcg dc_X12_eventOf 4 rfl) rfl rfl ?_
  refine p_iconst (v := 0) X (dcg dc_X12_eventOf 5 rfl) (by decide) ?_
  refine p_aload_n X (dcg dc_X12_eventOf 6 rfl) rfl rfl ?_
  refine p_getI X fl_X12_196 rfl (by decide) (dcg dc_X12_eventOf 7 rfl) hk1 ?_
  refine p_iconst (v := 1) X (dcg dc_X12_eventOf 8 rfl) (by decide) ?_
  refine p_isub X (dcg dc_X12_eventOf 9 rfl) ?_
  obtain ⟨z3, hz3, hf⟩ := bd_some hf
  refine p_callS (As := [_, _, _]) X ml_X12_148 (dcg dc_X12_eventOf 10 rfl) rfl rfl  (wX12_in hG hz3) (by decide) (room4 (Nat.le_of_ble_eq_true rfl)) (Nat.le_refl _) (Nat.le_refl _) ?_
  rintro _ u9 ⟨rfl, e9⟩; have e9 := e9.symm; subst e9
  refine p_iconst (v := 1) X (dcg dc_X12_eventOf 11 rfl) (by decide) ?_
  obtain ⟨z4, hz4, hf⟩ := bd_some hf
  refine p_callV (As := [_, _]) X ml_X12_156 (dcg dc_X12_eventOf 12 rfl) rfl rfl hk1 (wX12_fails hG hz4) (by decide) (room4 (Nat.le_of_ble_eq_true rfl)) (Nat.le_refl _) (Nat.le_refl _) ?_
  rintro _ u9 ⟨rfl, e9⟩; have e9 := e9.symm; subst e9
  refine p_if_ne (tgt := 38) X (dcg dc_X12_eventOf 13 rfl) (by decide) (fun q => ?_) (fun q => ?_)
  · have hf := if_t q hf
    refine p_pick [] ?_
    exact wX12_eventOf_b38 X hG hnm hf 
  · have hf := if_f q hf
    refine p_aload_n X (dcg dc_X12_eventOf 14 rfl) rfl rfl ?_
    refine p_iload_n X (dcg dc_X12_eventOf 15 rfl) rfl rfl ?_
    refine p_iconst (v := 0) X (dcg dc_X12_eventOf 16 rfl) (by decide) ?_
    refine p_iconst (v := 2) X (dcg dc_X12_eventOf 17 rfl) (by decide) ?_
    obtain ⟨z5, hz5, hf⟩ := bd_some hf
    refine p_callS (As := [_, _, _]) X ml_X12_148 (dcg dc_X12_eventOf 18 rfl) rfl rfl  (wX12_in hG hz5) (by decide) (room4 (Nat.le_of_ble_eq_true rfl)) (Nat.le_refl _) (Nat.le_refl _) ?_
    rintro _ u9 ⟨rfl, e9⟩; have e9 := e9.symm; subst e9
    refine p_iconst (v := 2) X (dcg dc_X12_eventOf 19 rfl) (by decide) ?_
    obtain ⟨hk6, hf⟩ := gd_some hf
    obtain ⟨z7, hz7, hf⟩ := bd_some hf
    refine p_callV (As := [_, _]) X ml_X12_156 (dcg dc_X12_eventOf 20 rfl) rfl rfl hk6 (wX12_fails hG hz7) (by decide) (room4 (Nat.le_of_ble_eq_true rfl)) (Nat.le_refl _) (Nat.le_refl _) ?_
    rintro _ u9 ⟨rfl, e9⟩; have e9 := e9.symm; subst e9
    refine p_if_eq (tgt := 40) X (dcg dc_X12_eventOf 21 rfl) (by decide) (fun q => ?_) (fun q => ?_)
    · have hf := if_t q hf
      refine p_iload_n X (dcg dc_X12_eventOf 24 rfl) rfl rfl ?_
      refine p_if_ne (tgt := 53) X (dcg dc_X12_eventOf 25 rfl) (by decide) (fun q => ?_) (fun q => ?_)
      · have hf := if_t q hf
        refine p_iload_n X (dcg dc_X12_eventOf 31 rfl) rfl rfl ?_
        refine p_iconst (v := 1) X (dcg dc_X12_eventOf 32 rfl) (by decide) ?_
        refine p_icmp_ne (tgt := 67) X (dcg dc_X12_eventOf 33 rfl) (by decide) (fun q => ?_) (fun q => ?_)
        · have hf := if_t q hf
          refine p_aload_n X (dcg dc_X12_eventOf 39 rfl) rfl rfl ?_
          obtain ⟨hk8, hf⟩ := gd_some hf
          refine p_getR X fl_X12_54 rfl (by decide) (dcg dc_X12_eventOf 40 rfl) hk8 ?_
          refine p_iload_n X (dcg dc_X12_eventOf 41 rfl) rfl rfl ?_
          obtain ⟨a9, e10, hf⟩ := gs_some hf
          first | subst e10 | (try rw [e10])
          obtain ⟨⟨hk12, hb11⟩, hf⟩ := gd_some hf
          refine p_iald X (dcg dc_X12_eventOf 42 rfl) hk12 (vp_of_inb hb11) ?_
          refine p_pick [] ?_
          exact wX12_eventOf_b73 X hG hnm hf 
        · have hf := if_f q hf
          refine p_aload_n X (dcg dc_X12_eventOf 34 rfl) rfl rfl ?_
          obtain ⟨hk13, hf⟩ := gd_some hf
          refine p_getR X fl_X12_51 rfl (by decide) (dcg dc_X12_eventOf 35 rfl) hk13 ?_
          refine p_iload_n X (dcg dc_X12_eventOf 36 rfl) rfl rfl ?_
          obtain ⟨a14, e15, hf⟩ := gs_some hf
          first | subst e15 | (try rw [e15])
          obtain ⟨⟨hk17, hb16⟩, hf⟩ := gd_some hf
          refine p_iald X (dcg dc_X12_eventOf 37 rfl) hk17 (vp_of_inb hb16) ?_
          refine p_goto (tgt := 73) X (dcg dc_X12_eventOf 38 rfl) (by decide) ?_
          refine p_pick [] ?_
          exact wX12_eventOf_b73 X hG hnm hf 
      · have hf := if_f q hf
        refine p_aload_n X (dcg dc_X12_eventOf 26 rfl) rfl rfl ?_
        obtain ⟨hk18, hf⟩ := gd_some hf
        refine p_getR X fl_X12_48 rfl (by decide) (dcg dc_X12_eventOf 27 rfl) hk18 ?_
        refine p_iload_n X (dcg dc_X12_eventOf 28 rfl) rfl rfl ?_
        obtain ⟨a19, e20, hf⟩ := gs_some hf
        first | subst e20 | (try rw [e20])
        obtain ⟨⟨hk22, hb21⟩, hf⟩ := gd_some hf
        refine p_iald X (dcg dc_X12_eventOf 29 rfl) hk22 (vp_of_inb hb21) ?_
        refine p_goto (tgt := 73) X (dcg dc_X12_eventOf 30 rfl) (by decide) ?_
        refine p_pick [] ?_
        exact wX12_eventOf_b73 X hG hnm hf 
    · have hf := if_f q hf
      refine p_pick [] ?_
      exact wX12_eventOf_b38 X hG hnm hf 
theorem dc_X12_isOfWords : decs cX12_isOfWords [(0, .iconst 0, 1), (1, .istore_n 2, 1), (2, .iload_n 2, 1), (3, .aload_n 0, 1), (4, .getfield 81, 3), (7, .iload_n 1, 1), (8, .iaload, 1), (9, .if_icmp .ge 42, 3), (12, .aload_n 0, 1), (13, .getfield 60, 3), (16, .sipush 400, 3), (19, .iload_n 1, 1), (20, .imul, 1), (21, .iload_n 2, 1), (22, .iadd, 1), (23, .iaload, 1), (24, .iconst 4, 1), (25, .if_icmp .ge 20, 3), (28, .aload_n 0, 1), (29, .getfield 60, 3), (32, .sipush 400, 3), (35, .iload_n 1, 1), (36, .imul, 1), (37, .iload_n 2, 1), (38, .iadd, 1), (39, .iaload, 1), (40, .ifCond .eq 5, 3), (43, .iconst 0, 1), (44, .ireturn, 1), (45, .iinc 2 1, 3), (48, .goto (-46), 3), (51, .iconst 1, 1), (52, .ireturn, 1)] = true := by decide +kernel
noncomputable def fX12_isOfWords_b45 (v0 : Nat) (v1 : Int32) (v2 : Int32) (h : PH) : Option ((Int32) ⊕ Int32) :=
  some (.inl ((v2 + 1)))
set_option maxRecDepth 100000 in
theorem wX12_isOfWords_b45 {E : PE} {p : Program} {l : Launch} {e : Env} {s : State} {m : MethodId} {args : Array Value} {below : List Frame} {meth : Method} {c : Code} (X : Cx E p l e (rmv 0 0 0) s m args below meth c RX12 cX12_isOfWords 3 (some .boolean)) (hG : Gs E l) (hnm : meth.name = yX12_isOfWords.name) {v0 : Nat} {v1 : Int32} {v2 : Int32} {h : PH} {r : Int32} {x : ((Int32) ⊕ Int32)} (hf : fX12_isOfWords_b45 v0 v1 v2 h = some x) (k0 : ∀ z : (Int32), x = .inl z → PW E p l e (rmv 0 0 0) s m args below meth c 3 0 0 (MQ below (QG E (fun v u => v = some (.int r) ∧ u = h)) args s 0 0 (pA E)) h 2 [(0, some (.ref v0)), (1, some (.int v1)), (2, some (.int (z)))] []) (kf : ∀ z : Int32, x = .inr z → z = r) : PW E p l e (rmv 0 0 0) s m args below meth c 3 0 0 (MQ below (QG E (fun v u => v = some (.int r) ∧ u = h)) args s 0 0 (pA E)) h 45 [(0, some (.ref v0)), (1, some (.int v1)), (2, some (.int v2))] [] := by
  unfold fX12_isOfWords_b45 at hf
  refine p_iinc (v := 1) X (dcg dc_X12_isOfWords 29 rfl) rfl (by decide) (by decide) rfl ?_
  refine p_goto (tgt := 2) X (dcg dc_X12_isOfWords 30 rfl) (by decide) ?_
  refine p_pick [0, 1, 2] ?_
  exact k0 _ (Option.some.inj hf).symm
noncomputable def fX12_isOfWords_c2 (v0 : Nat) (v1 : Int32) (v2 : Int32) (h : PH) : Option ((Int32) ⊕ Int32) :=
  gd (hK h v0 = 12) (gs (hR h 12 v0 32) (fun a2 =>
  gd (hK h a2 = 20 ∧ inb v1 (hN h a2)) (if ((hI h 20 a2 (Int32.toNatClampNeg v1)) ≤ v2) then (mr (some ((1 : Int32)))) else
  gs (hR h 12 v0 25) (fun a8 =>
  gd (hK h a8 = 20 ∧ inb (((400 : Int32) * v1) + v2) (hN h a8)) (if ((4 : Int32) ≤ (hI h 20 a8 (Int32.toNatClampNeg (((400 : Int32) * v1) + v2)))) then (fX12_isOfWords_b45 v0 v1 v2 h) else
  gs (hR h 12 v0 25) (fun a12 =>
  gd (hK h a12 = 20 ∧ inb (((400 : Int32) * v1) + v2) (hN h a12)) (if ((hI h 20 a12 (Int32.toNatClampNeg (((400 : Int32) * v1) + v2))) = 0) then (fX12_isOfWords_b45 v0 v1 v2 h) else
  mr (some ((0 : Int32))))))))))
set_option maxRecDepth 100000 in
theorem wX12_isOfWords_c2 {E : PE} {p : Program} {l : Launch} {e : Env} {s : State} {m : MethodId} {args : Array Value} {below : List Frame} {meth : Method} {c : Code} (X : Cx E p l e (rmv 0 0 0) s m args below meth c RX12 cX12_isOfWords 3 (some .boolean)) (hG : Gs E l) (hnm : meth.name = yX12_isOfWords.name) {v0 : Nat} {v1 : Int32} {v2 : Int32} {h : PH} {r : Int32} {x : ((Int32) ⊕ Int32)} (hf : fX12_isOfWords_c2 v0 v1 v2 h = some x) (k0 : ∀ z : (Int32), x = .inl z → PW E p l e (rmv 0 0 0) s m args below meth c 3 0 0 (MQ below (QG E (fun v u => v = some (.int r) ∧ u = h)) args s 0 0 (pA E)) h 2 [(0, some (.ref v0)), (1, some (.int v1)), (2, some (.int (z)))] []) (kf : ∀ z : Int32, x = .inr z → z = r) : PW E p l e (rmv 0 0 0) s m args below meth c 3 0 0 (MQ below (QG E (fun v u => v = some (.int r) ∧ u = h)) args s 0 0 (pA E)) h 2 [(0, some (.ref v0)), (1, some (.int v1)), (2, some (.int v2))] [] := by
  unfold fX12_isOfWords_c2 at hf
  refine p_iload_n X (dcg dc_X12_isOfWords 2 rfl) rfl rfl ?_
  refine p_aload_n X (dcg dc_X12_isOfWords 3 rfl) rfl rfl ?_
  obtain ⟨hk1, hf⟩ := gd_some hf
  refine p_getR X fl_X12_81 rfl (by decide) (dcg dc_X12_isOfWords 4 rfl) hk1 ?_
  refine p_iload_n X (dcg dc_X12_isOfWords 5 rfl) rfl rfl ?_
  obtain ⟨a2, e3, hf⟩ := gs_some hf
  first | subst e3 | (try rw [e3])
  obtain ⟨⟨hk5, hb4⟩, hf⟩ := gd_some hf
  refine p_iald X (dcg dc_X12_isOfWords 6 rfl) hk5 (vp_of_inb hb4) ?_
  refine p_icmp_ge (tgt := 51) X (dcg dc_X12_isOfWords 7 rfl) (by decide) (fun q => ?_) (fun q => ?_)
  · have hf := if_t q hf
    obtain ⟨y6, hf, hy7⟩ := mr_some hf
    have hy7f := kf y6 hy7
    subst hy7f
    refine p_iconst (v := 1) X (dcg dc_X12_isOfWords 31 rfl) (by decide) ?_
    have er := Option.some.inj hf
    subst er
    exact p_zret X rfl rfl (dcg dc_X12_isOfWords 32 rfl) ⟨rfl, rfl⟩ (Nat.le_refl _) (Nat.le_refl _)
  · have hf := if_f q hf
    refine p_aload_n X (dcg dc_X12_isOfWords 8 rfl) rfl rfl ?_
    refine p_getR X fl_X12_60 rfl (by decide) (dcg dc_X12_isOfWords 9 rfl) hk1 ?_
    refine p_sipush (v := 400) X (dcg dc_X12_isOfWords 10 rfl) (by decide) ?_
    refine p_iload_n X (dcg dc_X12_isOfWords 11 rfl) rfl rfl ?_
    refine p_imul X (dcg dc_X12_isOfWords 12 rfl) ?_
    refine p_iload_n X (dcg dc_X12_isOfWords 13 rfl) rfl rfl ?_
    refine p_iadd X (dcg dc_X12_isOfWords 14 rfl) ?_
    obtain ⟨a8, e9, hf⟩ := gs_some hf
    first | subst e9 | (try rw [e9])
    obtain ⟨⟨hk11, hb10⟩, hf⟩ := gd_some hf
    refine p_iald X (dcg dc_X12_isOfWords 15 rfl) hk11 (vp_of_inb hb10) ?_
    refine p_iconst (v := 4) X (dcg dc_X12_isOfWords 16 rfl) (by decide) ?_
    refine p_icmp_ge (tgt := 45) X (dcg dc_X12_isOfWords 17 rfl) (by decide) (fun q => ?_) (fun q => ?_)
    · have hf := if_t q hf
      refine p_pick [0, 1, 2] ?_
      exact wX12_isOfWords_b45 X hG hnm hf k0 kf
    · have hf := if_f q hf
      refine p_aload_n X (dcg dc_X12_isOfWords 18 rfl) rfl rfl ?_
      refine p_getR X fl_X12_60 rfl (by decide) (dcg dc_X12_isOfWords 19 rfl) hk1 ?_
      refine p_sipush (v := 400) X (dcg dc_X12_isOfWords 20 rfl) (by decide) ?_
      refine p_iload_n X (dcg dc_X12_isOfWords 21 rfl) rfl rfl ?_
      refine p_imul X (dcg dc_X12_isOfWords 22 rfl) ?_
      refine p_iload_n X (dcg dc_X12_isOfWords 23 rfl) rfl rfl ?_
      refine p_iadd X (dcg dc_X12_isOfWords 24 rfl) ?_
      obtain ⟨a12, e13, hf⟩ := gs_some hf
      first | subst e13 | (try rw [e13])
      obtain ⟨⟨hk15, hb14⟩, hf⟩ := gd_some hf
      refine p_iald X (dcg dc_X12_isOfWords 25 rfl) hk15 (vp_of_inb hb14) ?_
      refine p_if_eq (tgt := 45) X (dcg dc_X12_isOfWords 26 rfl) (by decide) (fun q => ?_) (fun q => ?_)
      · have hf := if_t q hf
        refine p_pick [0, 1, 2] ?_
        exact wX12_isOfWords_b45 X hG hnm hf k0 kf
      · have hf := if_f q hf
        obtain ⟨y16, hf, hy17⟩ := mr_some hf
        have hy17f := kf y16 hy17
        subst hy17f
        refine p_iconst (v := 0) X (dcg dc_X12_isOfWords 27 rfl) (by decide) ?_
        have er := Option.some.inj hf
        subst er
        exact p_zret X rfl rfl (dcg dc_X12_isOfWords 28 rfl) ⟨rfl, rfl⟩ (Nat.le_refl _) (Nat.le_refl _)
noncomputable def fX12_isOfWords_l2 (v0 : Nat) (v1 : Int32) (v2 : Int32) (h : PH) : Option Int32 := wh (fun z : (Int32) => fX12_isOfWords_c2 v0 v1 (z) h) (v2)
set_option maxRecDepth 100000 in
theorem wX12_isOfWords_l2 {E : PE} {p : Program} {l : Launch} {e : Env} {s : State} {m : MethodId} {args : Array Value} {below : List Frame} {meth : Method} {c : Code} (X : Cx E p l e (rmv 0 0 0) s m args below meth c RX12 cX12_isOfWords 3 (some .boolean)) (hG : Gs E l) (hnm : meth.name = yX12_isOfWords.name) {v0 : Nat} {v1 : Int32} {v2 : Int32} {h : PH} {r : Int32} (hf : fX12_isOfWords_l2 v0 v1 v2 h = some r)  : PW E p l e (rmv 0 0 0) s m args below meth c 3 0 0 (MQ below (QG E (fun v u => v = some (.int r) ∧ u = h)) args s 0 0 (pA E)) h 2 [(0, some (.ref v0)), (1, some (.int v1)), (2, some (.int v2))] [] := by
  unfold fX12_isOfWords_l2 at hf
  refine wh_ind (P := fun z => PW E p l e (rmv 0 0 0) s m args below meth c 3 0 0 (MQ below (QG E (fun v u => v = some (.int r) ∧ u = h)) args s 0 0 (pA E)) h 2 [(0, some (.ref v0)), (1, some (.int v1)), (2, some (.int (z)))] []) (fun z x0 hs i1 i2 => ?_) _ hf
  exact wX12_isOfWords_c2 (r := r) (v0 := v0) (v1 := v1) (v2 := z) (h := h) X hG hnm hs i1  i2
noncomputable def fX12_isOfWords (v0 : Nat) (v1 : Int32) (h : PH) : Option Int32 :=
  fX12_isOfWords_l2 v0 v1 (0 : Int32) h
set_option maxRecDepth 100000 in
theorem wX12_isOfWords {E : PE} {l : Launch} (hG : Gs E l) {v0 : Nat} {v1 : Int32} {h : PH} {r : Int32} (hf : fX12_isOfWords v0 v1 h = some r) : Ct E l 0 0 0 yX12_isOfWords cX12_isOfWords 3 (some .boolean) [.ref v0, .int v1] h (fun v u => v = some (.int r) ∧ u = h) := by
  refine ct_of hG (by decide) (Nat.le_of_ble_eq_true rfl) ?_
  intro p e s m args below meth c X hnm
  show PW E p l e _ s m args below meth c _ 0 0 _ h 0 [(0, some (.ref v0)), (1, some (.int v1))] []
  unfold fX12_isOfWords at hf
  refine p_iconst (v := 0) X (dcg dc_X12_isOfWords 0 rfl) (by decide) ?_
  refine p_istore_n X (dcg dc_X12_isOfWords 1 rfl) rfl (by decide) rfl ?_
  refine p_pick [0, 1, 2] ?_
  exact wX12_isOfWords_l2 X hG hnm hf 
theorem dc_X12_takesWords : decs cX12_takesWords [(0, .iconst 0, 1), (1, .istore_n 2, 1), (2, .iload_n 2, 1), (3, .aload_n 0, 1), (4, .getfield 81, 3), (7, .iload_n 1, 1), (8, .iaload, 1), (9, .if_icmp .ge 40, 3), (12, .aload_n 0, 1), (13, .getfield 60, 3), (16, .sipush 400, 3), (19, .iload_n 1, 1), (20, .imul, 1), (21, .iload_n 2, 1), (22, .iadd, 1), (23, .iaload, 1), (24, .ifCond .ne 19, 3), (27, .aload_n 0, 1), (28, .aload_n 0, 1), (29, .getfield 63, 3), (32, .sipush 400, 3), (35, .iload_n 1, 1), (36, .imul, 1), (37, .iload_n 2, 1), (38, .iadd, 1), (39, .iaload, 1), (40, .invokevirtual 231, 3), (43, .iinc 2 1, 3), (46, .goto (-44), 3), (49, .return_, 1)] = true := by decide +kernel
noncomputable def fX12_takesWords_b43 (v0 : Nat) (v1 : Int32) (v2 : Int32) (h : PH) : Option ((Int32 × PH) ⊕ PH) :=
  some (.inl ((v2 + 1), h))
set_option maxRecDepth 100000 in
theorem mX12_takesWords_b43 {v0 : Nat} {v1 : Int32} {v2 : Int32} {h : PH} {x : ((Int32 × PH) ⊕ PH)} (hf : fX12_takesWords_b43 v0 v1 v2 h = some x) : (∀ w9 : (Int32 × PH), x = .inl w9 → eqz h (hX (w9.2)) (hV (w9.2))) ∧ (∀ w9 : PH, x = .inr w9 → eqz h (hX w9) (hV w9)) := by
  unfold fX12_takesWords_b43 at hf
  have hle := eqz_rf h
  have ee := Option.some.inj hf; subst ee
  exact ⟨(fun z e => by have ee := Sum.inl.inj (e); subst ee; exact hle), (fun z e => nomatch e)⟩
set_option maxRecDepth 100000 in
theorem wX12_takesWords_b43 {E : PE} {p : Program} {l : Launch} {e : Env} {s : State} {m : MethodId} {args : Array Value} {below : List Frame} {meth : Method} {c : Code} (X : Cx E p l e (rmv 4 0 0) s m args below meth c RX12 cX12_takesWords 3 (none)) (hG : Gs E l) (hnm : meth.name = yX12_takesWords.name) {v0 : Nat} {v1 : Int32} {v2 : Int32} {h : PH} {r : PH} {x : ((Int32 × PH) ⊕ PH)} (hf : fX12_takesWords_b43 v0 v1 v2 h = some x) (k0 : ∀ z : (Int32 × PH), x = .inl z → PW E p l e (rmv 4 0 0) s m args below meth c 3 0 0 (MQ below (QG E (fun v u => v = none ∧ u = r)) args s 0 0 (pA E)) (z.2) 2 [(0, some (.ref v0)), (1, some (.int v1)), (2, some (.int (z.1)))] []) (kf : ∀ z : PH, x = .inr z → z = r) : PW E p l e (rmv 4 0 0) s m args below meth c 3 0 0 (MQ below (QG E (fun v u => v = none ∧ u = r)) args s 0 0 (pA E)) h 43 [(0, some (.ref v0)), (1, some (.int v1)), (2, some (.int v2))] [] := by
  unfold fX12_takesWords_b43 at hf
  refine p_iinc (v := 1) X (dcg dc_X12_takesWords 27 rfl) rfl (by decide) (by decide) rfl ?_
  refine p_goto (tgt := 2) X (dcg dc_X12_takesWords 28 rfl) (by decide) ?_
  refine p_pick [0, 1, 2] ?_
  exact k0 _ (Option.some.inj hf).symm
noncomputable def fX12_takesWords_c2 (v0 : Nat) (v1 : Int32) (v2 : Int32) (h : PH) : Option ((Int32 × PH) ⊕ PH) :=
  gd (hK h v0 = 12) (gs (hR h 12 v0 32) (fun a2 =>
  gd (hK h a2 = 20 ∧ inb v1 (hN h a2)) (if ((hI h 20 a2 (Int32.toNatClampNeg v1)) ≤ v2) then (mr (some (h))) else
  gs (hR h 12 v0 25) (fun a8 =>
  gd (hK h a8 = 20 ∧ inb (((400 : Int32) * v1) + v2) (hN h a8)) (if (¬ (hI h 20 a8 (Int32.toNatClampNeg (((400 : Int32) * v1) + v2))) = 0) then (fX12_takesWords_b43 v0 v1 v2 h) else
  gs (hR h 12 v0 26) (fun a12 =>
  gd (hK h a12 = 20 ∧ inb (((400 : Int32) * v1) + v2) (hN h a12)) (bd (fX12_takesKnown v0 (hI h 20 a12 (Int32.toNatClampNeg (((400 : Int32) * v1) + v2))) h) (fun z16 =>
  fX12_takesWords_b43 v0 v1 v2 z16))))))))
set_option maxRecDepth 100000 in
theorem mX12_takesWords_c2 {v0 : Nat} {v1 : Int32} {v2 : Int32} {h : PH} {x : ((Int32 × PH) ⊕ PH)} (hf : fX12_takesWords_c2 v0 v1 v2 h = some x) : (∀ w9 : (Int32 × PH), x = .inl w9 → eqz h (hX (w9.2)) (hV (w9.2))) ∧ (∀ w9 : PH, x = .inr w9 → eqz h (hX w9) (hV w9)) := by
  unfold fX12_takesWords_c2 at hf
  have hle := eqz_rf h
  obtain ⟨hk1, hf⟩ := gd_some hf
  obtain ⟨a2, e3, hf⟩ := gs_some hf
  obtain ⟨⟨hk5, hb4⟩, hf⟩ := gd_some hf
  rcases ite_or hf with ⟨q, hf⟩ | ⟨q, hf⟩
  · have hf := if_t q hf
    obtain ⟨y6, hfm, rfl⟩ := mr_some hf; have hf := hfm; clear hfm
    have ee := Option.some.inj hf; subst ee
    exact ⟨(fun z e => nomatch e), (fun z e => by have ee := Sum.inr.inj (e); subst ee; exact hle)⟩
  · have hf := if_f q hf
    obtain ⟨a8, e9, hf⟩ := gs_some hf
    obtain ⟨⟨hk11, hb10⟩, hf⟩ := gd_some hf
    rcases ite_or hf with ⟨q, hf⟩ | ⟨q, hf⟩
    · have hf := if_t q hf
      obtain ⟨c0, cf⟩ := mX12_takesWords_b43 hf
      exact ⟨fun z e => eqz_rt (c0 z (e)) hle, fun z e => eqz_rt (cf z (e)) hle⟩
    · have hf := if_f q hf
      obtain ⟨a12, e13, hf⟩ := gs_some hf
      obtain ⟨⟨hk15, hb14⟩, hf⟩ := gd_some hf
      obtain ⟨z16, hz16, hf⟩ := bd_some hf
      have hle := eqz_rt (mX12_takesKnown hz16) hle
      obtain ⟨c0, cf⟩ := mX12_takesWords_b43 hf
      exact ⟨fun z e => eqz_rt (c0 z (e)) hle, fun z e => eqz_rt (cf z (e)) hle⟩
set_option maxRecDepth 100000 in
theorem wX12_takesWords_c2 {E : PE} {p : Program} {l : Launch} {e : Env} {s : State} {m : MethodId} {args : Array Value} {below : List Frame} {meth : Method} {c : Code} (X : Cx E p l e (rmv 4 0 0) s m args below meth c RX12 cX12_takesWords 3 (none)) (hG : Gs E l) (hnm : meth.name = yX12_takesWords.name) {v0 : Nat} {v1 : Int32} {v2 : Int32} {h : PH} {r : PH} {x : ((Int32 × PH) ⊕ PH)} (hf : fX12_takesWords_c2 v0 v1 v2 h = some x) (k0 : ∀ z : (Int32 × PH), x = .inl z → PW E p l e (rmv 4 0 0) s m args below meth c 3 0 0 (MQ below (QG E (fun v u => v = none ∧ u = r)) args s 0 0 (pA E)) (z.2) 2 [(0, some (.ref v0)), (1, some (.int v1)), (2, some (.int (z.1)))] []) (kf : ∀ z : PH, x = .inr z → z = r) : PW E p l e (rmv 4 0 0) s m args below meth c 3 0 0 (MQ below (QG E (fun v u => v = none ∧ u = r)) args s 0 0 (pA E)) h 2 [(0, some (.ref v0)), (1, some (.int v1)), (2, some (.int v2))] [] := by
  unfold fX12_takesWords_c2 at hf
  refine p_iload_n X (dcg dc_X12_takesWords 2 rfl) rfl rfl ?_
  refine p_aload_n X (dcg dc_X12_takesWords 3 rfl) rfl rfl ?_
  obtain ⟨hk1, hf⟩ := gd_some hf
  refine p_getR X fl_X12_81 rfl (by decide) (dcg dc_X12_takesWords 4 rfl) hk1 ?_
  refine p_iload_n X (dcg dc_X12_takesWords 5 rfl) rfl rfl ?_
  obtain ⟨a2, e3, hf⟩ := gs_some hf
  first | subst e3 | (try rw [e3])
  obtain ⟨⟨hk5, hb4⟩, hf⟩ := gd_some hf
  refine p_iald X (dcg dc_X12_takesWords 6 rfl) hk5 (vp_of_inb hb4) ?_
  refine p_icmp_ge (tgt := 49) X (dcg dc_X12_takesWords 7 rfl) (by decide) (fun q => ?_) (fun q => ?_)
  · have hf := if_t q hf
    obtain ⟨y6, hf, hy7⟩ := mr_some hf
    have hy7f := kf y6 hy7
    subst hy7f
    have er := Option.some.inj hf
    subst er
    exact p_vret X rfl (dcg dc_X12_takesWords 29 rfl) ⟨rfl, rfl⟩ (Nat.le_refl _) (Nat.le_refl _)
  · have hf := if_f q hf
    refine p_aload_n X (dcg dc_X12_takesWords 8 rfl) rfl rfl ?_
    refine p_getR X fl_X12_60 rfl (by decide) (dcg dc_X12_takesWords 9 rfl) hk1 ?_
    refine p_sipush (v := 400) X (dcg dc_X12_takesWords 10 rfl) (by decide) ?_
    refine p_iload_n X (dcg dc_X12_takesWords 11 rfl) rfl rfl ?_
    refine p_imul X (dcg dc_X12_takesWords 12 rfl) ?_
    refine p_iload_n X (dcg dc_X12_takesWords 13 rfl) rfl rfl ?_
    refine p_iadd X (dcg dc_X12_takesWords 14 rfl) ?_
    obtain ⟨a8, e9, hf⟩ := gs_some hf
    first | subst e9 | (try rw [e9])
    obtain ⟨⟨hk11, hb10⟩, hf⟩ := gd_some hf
    refine p_iald X (dcg dc_X12_takesWords 15 rfl) hk11 (vp_of_inb hb10) ?_
    refine p_if_ne (tgt := 43) X (dcg dc_X12_takesWords 16 rfl) (by decide) (fun q => ?_) (fun q => ?_)
    · have hf := if_t q hf
      refine p_pick [0, 1, 2] ?_
      exact wX12_takesWords_b43 X hG hnm hf k0 kf
    · have hf := if_f q hf
      refine p_aload_n X (dcg dc_X12_takesWords 17 rfl) rfl rfl ?_
      refine p_aload_n X (dcg dc_X12_takesWords 18 rfl) rfl rfl ?_
      refine p_getR X fl_X12_63 rfl (by decide) (dcg dc_X12_takesWords 19 rfl) hk1 ?_
      refine p_sipush (v := 400) X (dcg dc_X12_takesWords 20 rfl) (by decide) ?_
      refine p_iload_n X (dcg dc_X12_takesWords 21 rfl) rfl rfl ?_
      refine p_imul X (dcg dc_X12_takesWords 22 rfl) ?_
      refine p_iload_n X (dcg dc_X12_takesWords 23 rfl) rfl rfl ?_
      refine p_iadd X (dcg dc_X12_takesWords 24 rfl) ?_
      obtain ⟨a12, e13, hf⟩ := gs_some hf
      first | subst e13 | (try rw [e13])
      obtain ⟨⟨hk15, hb14⟩, hf⟩ := gd_some hf
      refine p_iald X (dcg dc_X12_takesWords 25 rfl) hk15 (vp_of_inb hb14) ?_
      obtain ⟨z16, hz16, hf⟩ := bd_some hf
      refine p_callV (As := [_]) X ml_X12_231 (dcg dc_X12_takesWords 26 rfl) rfl rfl hk1 (wX12_takesKnown hG hz16) (by decide) (room4 (Nat.le_of_ble_eq_true rfl)) (Nat.le_refl _) (Nat.le_refl _) ?_
      rintro _ u9 ⟨rfl, e9⟩; have e9 := e9.symm; subst e9
      refine p_pick [0, 1, 2] ?_
      exact wX12_takesWords_b43 X hG hnm hf k0 kf
noncomputable def fX12_takesWords_l2 (v0 : Nat) (v1 : Int32) (v2 : Int32) (h : PH) : Option PH := wh (fun z : (Int32 × PH) => fX12_takesWords_c2 v0 v1 (z.1) (z.2)) (v2, h)
set_option maxRecDepth 100000 in
theorem mX12_takesWords_l2 {v0 : Nat} {v1 : Int32} {v2 : Int32} {h : PH} {r : PH} (hf : fX12_takesWords_l2 v0 v1 v2 h = some r) : eqz h (hX r) (hV r) := by
  unfold fX12_takesWords_l2 at hf
  refine wh_ind (P := fun z => eqz (z.2) (hX r) (hV r)) (fun z x0 hs i1 i2 => ?_) _ hf
  obtain ⟨c0, cf⟩ := mX12_takesWords_c2 (v0 := v0) (v1 := v1) (v2 := z.1) (h := z.2) hs
  rcases hxx : x0 with zz | zz
  · exact eqz_tr (c0 zz hxx) (i1 zz hxx)
  · have ee := i2 zz hxx; subst ee; exact cf zz hxx
set_option maxRecDepth 100000 in
theorem wX12_takesWords_l2 {E : PE} {p : Program} {l : Launch} {e : Env} {s : State} {m : MethodId} {args : Array Value} {below : List Frame} {meth : Method} {c : Code} (X : Cx E p l e (rmv 4 0 0) s m args below meth c RX12 cX12_takesWords 3 (none)) (hG : Gs E l) (hnm : meth.name = yX12_takesWords.name) {v0 : Nat} {v1 : Int32} {v2 : Int32} {h : PH} {r : PH} (hf : fX12_takesWords_l2 v0 v1 v2 h = some r)  : PW E p l e (rmv 4 0 0) s m args below meth c 3 0 0 (MQ below (QG E (fun v u => v = none ∧ u = r)) args s 0 0 (pA E)) h 2 [(0, some (.ref v0)), (1, some (.int v1)), (2, some (.int v2))] [] := by
  unfold fX12_takesWords_l2 at hf
  refine wh_ind (P := fun z => PW E p l e (rmv 4 0 0) s m args below meth c 3 0 0 (MQ below (QG E (fun v u => v = none ∧ u = r)) args s 0 0 (pA E)) (z.2) 2 [(0, some (.ref v0)), (1, some (.int v1)), (2, some (.int (z.1)))] []) (fun z x0 hs i1 i2 => ?_) _ hf
  exact wX12_takesWords_c2 (r := r) (v0 := v0) (v1 := v1) (v2 := z.1) (h := z.2) X hG hnm hs i1  i2
noncomputable def fX12_takesWords (v0 : Nat) (v1 : Int32) (h : PH) : Option PH :=
  fX12_takesWords_l2 v0 v1 (0 : Int32) h
set_option maxRecDepth 100000 in
theorem mX12_takesWords {v0 : Nat} {v1 : Int32} {h : PH} {r : PH} (hf : fX12_takesWords v0 v1 h = some r) : eqz h (hX r) (hV r) := by
  unfold fX12_takesWords at hf
  have hle := eqz_rf h
  exact eqz_rt (mX12_takesWords_l2 hf) hle
set_option maxRecDepth 100000 in
theorem wX12_takesWords {E : PE} {l : Launch} (hG : Gs E l) {v0 : Nat} {v1 : Int32} {h : PH} {r : PH} (hf : fX12_takesWords v0 v1 h = some r) : Ct E l 4 0 0 yX12_takesWords cX12_takesWords 3 (none) [.ref v0, .int v1] h (fun v u => v = none ∧ u = r) := by
  refine ct_of hG (by decide) (Nat.le_of_ble_eq_true rfl) ?_
  intro p e s m args below meth c X hnm
  show PW E p l e _ s m args below meth c _ 0 0 _ h 0 [(0, some (.ref v0)), (1, some (.int v1))] []
  unfold fX12_takesWords at hf
  refine p_iconst (v := 0) X (dcg dc_X12_takesWords 0 rfl) (by decide) ?_
  refine p_istore_n X (dcg dc_X12_takesWords 1 rfl) rfl (by decide) rfl ?_
  refine p_pick [0, 1, 2] ?_
  exact wX12_takesWords_l2 X hG hnm hf 
theorem dc_X12_placeOf : decs cX12_placeOf [(0, .iconst 0, 1), (1, .istore_n 2, 1), (2, .aload_n 0, 1), (3, .getfield 57, 3), (6, .iload_n 2, 1), (7, .iaload, 1), (8, .iload_n 1, 1), (9, .if_icmp .eq 9, 3), (12, .iinc 2 1, 3), (15, .goto (-13), 3), (18, .iload_n 2, 1), (19, .ireturn, 1)] = true := by decide +kernel
noncomputable def fX12_placeOf_c2 (v0 : Nat) (v1 : Int32) (v2 : Int32) (h : PH) : Option ((Int32) ⊕ Int32) :=
  gd (hK h v0 = 12) (gs (hR h 12 v0 19) (fun a2 =>
  gd (hK h a2 = 20 ∧ inb v2 (hN h a2)) (if ((hI h 20 a2 (Int32.toNatClampNeg v2)) = v1) then (mr (some (v2))) else
  some (.inl ((v2 + 1))))))
set_option maxRecDepth 100000 in
theorem wX12_placeOf_c2 {E : PE} {p : Program} {l : Launch} {e : Env} {s : State} {m : MethodId} {args : Array Value} {below : List Frame} {meth : Method} {c : Code} (X : Cx E p l e (rmv 0 0 0) s m args below meth c RX12 cX12_placeOf 3 (some .int)) (hG : Gs E l) (hnm : meth.name = yX12_placeOf.name) {v0 : Nat} {v1 : Int32} {v2 : Int32} {h : PH} {r : Int32} {x : ((Int32) ⊕ Int32)} (hf : fX12_placeOf_c2 v0 v1 v2 h = some x) (k0 : ∀ z : (Int32), x = .inl z → PW E p l e (rmv 0 0 0) s m args below meth c 3 0 0 (MQ below (QG E (fun v u => v = some (.int r) ∧ u = h)) args s 0 0 (pA E)) h 2 [(0, some (.ref v0)), (1, some (.int v1)), (2, some (.int (z)))] []) (kf : ∀ z : Int32, x = .inr z → z = r) : PW E p l e (rmv 0 0 0) s m args below meth c 3 0 0 (MQ below (QG E (fun v u => v = some (.int r) ∧ u = h)) args s 0 0 (pA E)) h 2 [(0, some (.ref v0)), (1, some (.int v1)), (2, some (.int v2))] [] := by
  unfold fX12_placeOf_c2 at hf
  refine p_aload_n X (dcg dc_X12_placeOf 2 rfl) rfl rfl ?_
  obtain ⟨hk1, hf⟩ := gd_some hf
  refine p_getR X fl_X12_57 rfl (by decide) (dcg dc_X12_placeOf 3 rfl) hk1 ?_
  refine p_iload_n X (dcg dc_X12_placeOf 4 rfl) rfl rfl ?_
  obtain ⟨a2, e3, hf⟩ := gs_some hf
  first | subst e3 | (try rw [e3])
  obtain ⟨⟨hk5, hb4⟩, hf⟩ := gd_some hf
  refine p_iald X (dcg dc_X12_placeOf 5 rfl) hk5 (vp_of_inb hb4) ?_
  refine p_iload_n X (dcg dc_X12_placeOf 6 rfl) rfl rfl ?_
  refine p_icmp_eq (tgt := 18) X (dcg dc_X12_placeOf 7 rfl) (by decide) (fun q => ?_) (fun q => ?_)
  · have hf := if_t q hf
    obtain ⟨y6, hf, hy7⟩ := mr_some hf
    have hy7f := kf y6 hy7
    subst hy7f
    refine p_iload_n X (dcg dc_X12_placeOf 10 rfl) rfl rfl ?_
    have er := Option.some.inj hf
    subst er
    exact p_iret X rfl (dcg dc_X12_placeOf 11 rfl) ⟨rfl, rfl⟩ (Nat.le_refl _) (Nat.le_refl _)
  · have hf := if_f q hf
    refine p_iinc (v := 1) X (dcg dc_X12_placeOf 8 rfl) rfl (by decide) (by decide) rfl ?_
    refine p_goto (tgt := 2) X (dcg dc_X12_placeOf 9 rfl) (by decide) ?_
    refine p_pick [0, 1, 2] ?_
    exact k0 _ (Option.some.inj hf).symm
noncomputable def fX12_placeOf_l2 (v0 : Nat) (v1 : Int32) (v2 : Int32) (h : PH) : Option Int32 := wh (fun z : (Int32) => fX12_placeOf_c2 v0 v1 (z) h) (v2)
set_option maxRecDepth 100000 in
theorem wX12_placeOf_l2 {E : PE} {p : Program} {l : Launch} {e : Env} {s : State} {m : MethodId} {args : Array Value} {below : List Frame} {meth : Method} {c : Code} (X : Cx E p l e (rmv 0 0 0) s m args below meth c RX12 cX12_placeOf 3 (some .int)) (hG : Gs E l) (hnm : meth.name = yX12_placeOf.name) {v0 : Nat} {v1 : Int32} {v2 : Int32} {h : PH} {r : Int32} (hf : fX12_placeOf_l2 v0 v1 v2 h = some r)  : PW E p l e (rmv 0 0 0) s m args below meth c 3 0 0 (MQ below (QG E (fun v u => v = some (.int r) ∧ u = h)) args s 0 0 (pA E)) h 2 [(0, some (.ref v0)), (1, some (.int v1)), (2, some (.int v2))] [] := by
  unfold fX12_placeOf_l2 at hf
  refine wh_ind (P := fun z => PW E p l e (rmv 0 0 0) s m args below meth c 3 0 0 (MQ below (QG E (fun v u => v = some (.int r) ∧ u = h)) args s 0 0 (pA E)) h 2 [(0, some (.ref v0)), (1, some (.int v1)), (2, some (.int (z)))] []) (fun z x0 hs i1 i2 => ?_) _ hf
  exact wX12_placeOf_c2 (r := r) (v0 := v0) (v1 := v1) (v2 := z) (h := h) X hG hnm hs i1  i2
noncomputable def fX12_placeOf (v0 : Nat) (v1 : Int32) (h : PH) : Option Int32 :=
  fX12_placeOf_l2 v0 v1 (0 : Int32) h
set_option maxRecDepth 100000 in
theorem wX12_placeOf {E : PE} {l : Launch} (hG : Gs E l) {v0 : Nat} {v1 : Int32} {h : PH} {r : Int32} (hf : fX12_placeOf v0 v1 h = some r) : Ct E l 0 0 0 yX12_placeOf cX12_placeOf 3 (some .int) [.ref v0, .int v1] h (fun v u => v = some (.int r) ∧ u = h) := by
  refine ct_of hG (by decide) (Nat.le_of_ble_eq_true rfl) ?_
  intro p e s m args below meth c X hnm
  show PW E p l e _ s m args below meth c _ 0 0 _ h 0 [(0, some (.ref v0)), (1, some (.int v1))] []
  unfold fX12_placeOf at hf
  refine p_iconst (v := 0) X (dcg dc_X12_placeOf 0 rfl) (by decide) ?_
  refine p_istore_n X (dcg dc_X12_placeOf 1 rfl) rfl (by decide) rfl ?_
  refine p_pick [0, 1, 2] ?_
  exact wX12_placeOf_l2 X hG hnm hf 
theorem dc_X12_holdsFor : decs cX12_holdsFor [(0, .iconst 0, 1), (1, .istore_n 3, 1), (2, .iload_n 3, 1), (3, .aload_n 0, 1), (4, .getfield 81, 3), (7, .iload_n 1, 1), (8, .iaload, 1), (9, .if_icmp .ge 59, 3), (12, .aload_n 0, 1), (13, .getfield 60, 3), (16, .sipush 400, 3), (19, .iload_n 1, 1), (20, .imul, 1), (21, .iload_n 3, 1), (22, .iadd, 1), (23, .iaload, 1), (24, .ifCond .ne 38, 3), (27, .aload_n 0, 1), (28, .getfield 111, 3), (31, .iload_n 3, 1), (32, .iload_n 2, 1), (33, .aload_n 0, 1), (34, .aload_n 0, 1), (35, .getfield 63, 3), (38, .sipush 400, 3), (41, .iload_n 1, 1), (42, .imul, 1), (43, .iload_n 3, 1), (44, .iadd, 1), (45, .iaload, 1), (46, .invokevirtual 403, 3), (49, .ishr, 1), (50, .iconst 1, 1), (51, .iand, 1), (52, .iconst 1, 1), (53, .if_icmp .ne 7, 3), (56, .iconst 1, 1), (57, .goto 4, 3), (60, .iconst 0, 1), (61, .bastore, 1), (62, .iinc 3 1, 3), (65, .goto (-63), 3), (68, .aload_n 0, 1), (69, .iload_n 1, 1), (70, .invokevirtual 343, 3), (73, .ireturn, 1)] = true := by decide +kernel
noncomputable def fX12_holdsFor_b62 (v0 : Nat) (v1 : Int32) (v2 : Int32) (v3 : Int32) (h : PH) : Option ((Int32 × PH) ⊕ (Int32 × PH)) :=
  some (.inl ((v3 + 1), h))
set_option maxRecDepth 100000 in
theorem mX12_holdsFor_b62 {v0 : Nat} {v1 : Int32} {v2 : Int32} {v3 : Int32} {h : PH} {x : ((Int32 × PH) ⊕ (Int32 × PH))} (hf : fX12_holdsFor_b62 v0 v1 v2 v3 h = some x) : (∀ w9 : (Int32 × PH), x = .inl w9 → eqz h (hX (w9.2)) (hV (w9.2))) ∧ (∀ w9 : (Int32 × PH), x = .inr w9 → eqz h (hX w9.2) (hV w9.2)) := by
  unfold fX12_holdsFor_b62 at hf
  have hle := eqz_rf h
  have ee := Option.some.inj hf; subst ee
  exact ⟨(fun z e => by have ee := Sum.inl.inj (e); subst ee; exact hle), (fun z e => nomatch e)⟩
set_option maxRecDepth 100000 in
theorem wX12_holdsFor_b62 {E : PE} {p : Program} {l : Launch} {e : Env} {s : State} {m : MethodId} {args : Array Value} {below : List Frame} {meth : Method} {c : Code} (X : Cx E p l e (rmv 1 0 0) s m args below meth c RX12 cX12_holdsFor 4 (some .boolean)) (hG : Gs E l) (hnm : meth.name = yX12_holdsFor.name) {v0 : Nat} {v1 : Int32} {v2 : Int32} {v3 : Int32} {h : PH} {r : (Int32 × PH)} {x : ((Int32 × PH) ⊕ (Int32 × PH))} (hf : fX12_holdsFor_b62 v0 v1 v2 v3 h = some x) (k0 : ∀ z : (Int32 × PH), x = .inl z → PW E p l e (rmv 1 0 0) s m args below meth c 4 0 0 (MQ below (QG E (fun v u => v = some (.int r.1) ∧ u = r.2)) args s 0 0 (pA E)) (z.2) 2 [(0, some (.ref v0)), (1, some (.int v1)), (2, some (.int v2)), (3, some (.int (z.1)))] []) (kf : ∀ z : (Int32 × PH), x = .inr z → z = r) : PW E p l e (rmv 1 0 0) s m args below meth c 4 0 0 (MQ below (QG E (fun v u => v = some (.int r.1) ∧ u = r.2)) args s 0 0 (pA E)) h 62 [(0, some (.ref v0)), (1, some (.int v1)), (2, some (.int v2)), (3, some (.int v3))] [] := by
  unfold fX12_holdsFor_b62 at hf
  refine p_iinc (v := 1) X (dcg dc_X12_holdsFor 40 rfl) rfl (by decide) (by decide) rfl ?_
  refine p_goto (tgt := 2) X (dcg dc_X12_holdsFor 41 rfl) (by decide) ?_
  refine p_pick [0, 1, 2, 3] ?_
  exact k0 _ (Option.some.inj hf).symm
noncomputable def fX12_holdsFor_b61 (v0 : Nat) (v1 : Int32) (v2 : Int32) (v3 : Int32) (t0 : Option Nat) (t1 : Int32) (t2 : Int32) (h : PH) : Option ((Int32 × PH) ⊕ (Int32 × PH)) :=
  gs t0 (fun a19 =>
  gd (hK h a19 = 21 ∧ inb t1 (hN h a19)) (lt (sI h 21 a19 (Int32.toNatClampNeg t1) (t2 &&& 1)) (fun h23 =>
  fX12_holdsFor_b62 v0 v1 v2 v3 h23)))
set_option maxRecDepth 100000 in
theorem mX12_holdsFor_b61 {v0 : Nat} {v1 : Int32} {v2 : Int32} {v3 : Int32} {t0 : Option Nat} {t1 : Int32} {t2 : Int32} {h : PH} {x : ((Int32 × PH) ⊕ (Int32 × PH))} (hf : fX12_holdsFor_b61 v0 v1 v2 v3 t0 t1 t2 h = some x) : (∀ w9 : (Int32 × PH), x = .inl w9 → eqz h (hX (w9.2)) (hV (w9.2))) ∧ (∀ w9 : (Int32 × PH), x = .inr w9 → eqz h (hX w9.2) (hV w9.2)) := by
  unfold fX12_holdsFor_b61 at hf
  have hle := eqz_rf h
  obtain ⟨a19, e20, hf⟩ := gs_some hf
  obtain ⟨⟨hk22, hb21⟩, hf⟩ := gd_some hf
  obtain ⟨h23, rfl, hf⟩ := lt_some hf
  obtain ⟨c0, cf⟩ := mX12_holdsFor_b62 hf
  exact ⟨fun z e => eqz_rt (c0 z (e)) hle, fun z e => eqz_rt (cf z (e)) hle⟩
set_option maxRecDepth 100000 in
theorem wX12_holdsFor_b61 {E : PE} {p : Program} {l : Launch} {e : Env} {s : State} {m : MethodId} {args : Array Value} {below : List Frame} {meth : Method} {c : Code} (X : Cx E p l e (rmv 1 0 0) s m args below meth c RX12 cX12_holdsFor 4 (some .boolean)) (hG : Gs E l) (hnm : meth.name = yX12_holdsFor.name) {v0 : Nat} {v1 : Int32} {v2 : Int32} {v3 : Int32} {t0 : Option Nat} {t1 : Int32} {t2 : Int32} {h : PH} {r : (Int32 × PH)} {x : ((Int32 × PH) ⊕ (Int32 × PH))} (hf : fX12_holdsFor_b61 v0 v1 v2 v3 t0 t1 t2 h = some x) (k0 : ∀ z : (Int32 × PH), x = .inl z → PW E p l e (rmv 1 0 0) s m args below meth c 4 0 0 (MQ below (QG E (fun v u => v = some (.int r.1) ∧ u = r.2)) args s 0 0 (pA E)) (z.2) 2 [(0, some (.ref v0)), (1, some (.int v1)), (2, some (.int v2)), (3, some (.int (z.1)))] []) (kf : ∀ z : (Int32 × PH), x = .inr z → z = r) : PW E p l e (rmv 1 0 0) s m args below meth c 4 0 0 (MQ below (QG E (fun v u => v = some (.int r.1) ∧ u = r.2)) args s 0 0 (pA E)) h 61 [(0, some (.ref v0)), (1, some (.int v1)), (2, some (.int v2)), (3, some (.int v3))] [.int t2, .int t1, va_rf t0] := by
  unfold fX12_holdsFor_b61 at hf
  obtain ⟨a19, e20, hf⟩ := gs_some hf
  first | subst e20 | (try rw [e20])
  obtain ⟨⟨hk22, hb21⟩, hf⟩ := gd_some hf
  refine p_zast X (dcg dc_X12_holdsFor 39 rfl) hk22 (vp_of_inb hb21) ?_
  obtain ⟨h23, rfl, hf⟩ := lt_some hf
  refine p_pick [0, 1, 2, 3] ?_
  exact wX12_holdsFor_b62 X hG hnm hf k0 kf
noncomputable def fX12_holdsFor_c2 (v0 : Nat) (v1 : Int32) (v2 : Int32) (v3 : Int32) (h : PH) : Option ((Int32 × PH) ⊕ (Int32 × PH)) :=
  gd (hK h v0 = 12) (gs (hR h 12 v0 32) (fun a2 =>
  gd (hK h a2 = 20 ∧ inb v1 (hN h a2)) (if ((hI h 20 a2 (Int32.toNatClampNeg v1)) ≤ v3) then (mr (bd (fX12_joined v0 v1 h) (fun z8 =>
  gd (z8.1 &&& 1 = z8.1) (some ((z8.1, z8.2)))))) else
  gs (hR h 12 v0 25) (fun a10 =>
  gd (hK h a10 = 20 ∧ inb (((400 : Int32) * v1) + v3) (hN h a10)) (if (¬ (hI h 20 a10 (Int32.toNatClampNeg (((400 : Int32) * v1) + v3))) = 0) then (fX12_holdsFor_b62 v0 v1 v2 v3 h) else
  gs (hR h 12 v0 26) (fun a14 =>
  gd (hK h a14 = 20 ∧ inb (((400 : Int32) * v1) + v3) (hN h a14)) (bd (fX12_placeOf v0 (hI h 20 a14 (Int32.toNatClampNeg (((400 : Int32) * v1) + v3))) h) (fun z18 =>
  if (¬ ((v2 >>> (z18 &&& 31)) &&& (1 : Int32)) = (1 : Int32)) then (fX12_holdsFor_b61 v0 v1 v2 v3 (hR h 12 v0 46) v3 (0 : Int32) h) else
  fX12_holdsFor_b61 v0 v1 v2 v3 (hR h 12 v0 46) v3 (1 : Int32) h))))))))
set_option maxRecDepth 100000 in
theorem mX12_holdsFor_c2 {v0 : Nat} {v1 : Int32} {v2 : Int32} {v3 : Int32} {h : PH} {x : ((Int32 × PH) ⊕ (Int32 × PH))} (hf : fX12_holdsFor_c2 v0 v1 v2 v3 h = some x) : (∀ w9 : (Int32 × PH), x = .inl w9 → eqz h (hX (w9.2)) (hV (w9.2))) ∧ (∀ w9 : (Int32 × PH), x = .inr w9 → eqz h (hX w9.2) (hV w9.2)) := by
  unfold fX12_holdsFor_c2 at hf
  have hle := eqz_rf h
  obtain ⟨hk1, hf⟩ := gd_some hf
  obtain ⟨a2, e3, hf⟩ := gs_some hf
  obtain ⟨⟨hk5, hb4⟩, hf⟩ := gd_some hf
  rcases ite_or hf with ⟨q, hf⟩ | ⟨q, hf⟩
  · have hf := if_t q hf
    obtain ⟨y6, hfm, rfl⟩ := mr_some hf; have hf := hfm; clear hfm
    obtain ⟨z8, hz8, hf⟩ := bd_some hf
    have hle := eqz_rt (mX12_joined hz8) hle
    obtain ⟨hg9, hf⟩ := gd_some hf
    have ee := Option.some.inj hf; subst ee
    exact ⟨(fun z e => nomatch e), (fun z e => by have ee := Sum.inr.inj (e); subst ee; exact hle)⟩
  · have hf := if_f q hf
    obtain ⟨a10, e11, hf⟩ := gs_some hf
    obtain ⟨⟨hk13, hb12⟩, hf⟩ := gd_some hf
    rcases ite_or hf with ⟨q, hf⟩ | ⟨q, hf⟩
    · have hf := if_t q hf
      obtain ⟨c0, cf⟩ := mX12_holdsFor_b62 hf
      exact ⟨fun z e => eqz_rt (c0 z (e)) hle, fun z e => eqz_rt (cf z (e)) hle⟩
    · have hf := if_f q hf
      obtain ⟨a14, e15, hf⟩ := gs_some hf
      obtain ⟨⟨hk17, hb16⟩, hf⟩ := gd_some hf
      obtain ⟨z18, hz18, hf⟩ := bd_some hf
      rcases ite_or hf with ⟨q, hf⟩ | ⟨q, hf⟩
      · have hf := if_t q hf
        obtain ⟨c0, cf⟩ := mX12_holdsFor_b61 hf
        exact ⟨fun z e => eqz_rt (c0 z (e)) hle, fun z e => eqz_rt (cf z (e)) hle⟩
      · have hf := if_f q hf
        obtain ⟨c0, cf⟩ := mX12_holdsFor_b61 hf
        exact ⟨fun z e => eqz_rt (c0 z (e)) hle, fun z e => eqz_rt (cf z (e)) hle⟩
set_option maxRecDepth 100000 in
theorem wX12_holdsFor_c2 {E : PE} {p : Program} {l : Launch} {e : Env} {s : State} {m : MethodId} {args : Array Value} {below : List Frame} {meth : Method} {c : Code} (X : Cx E p l e (rmv 1 0 0) s m args below meth c RX12 cX12_holdsFor 4 (some .boolean)) (hG : Gs E l) (hnm : meth.name = yX12_holdsFor.name) {v0 : Nat} {v1 : Int32} {v2 : Int32} {v3 : Int32} {h : PH} {r : (Int32 × PH)} {x : ((Int32 × PH) ⊕ (Int32 × PH))} (hf : fX12_holdsFor_c2 v0 v1 v2 v3 h = some x) (k0 : ∀ z : (Int32 × PH), x = .inl z → PW E p l e (rmv 1 0 0) s m args below meth c 4 0 0 (MQ below (QG E (fun v u => v = some (.int r.1) ∧ u = r.2)) args s 0 0 (pA E)) (z.2) 2 [(0, some (.ref v0)), (1, some (.int v1)), (2, some (.int v2)), (3, some (.int (z.1)))] []) (kf : ∀ z : (Int32 × PH), x = .inr z → z = r) : PW E p l e (rmv 1 0 0) s m args below meth c 4 0 0 (MQ below (QG E (fun v u => v = some (.int r.1) ∧ u = r.2)) args s 0 0 (pA E)) h 2 [(0, some (.ref v0)), (1, some (.int v1)), (2, some (.int v2)), (3, some (.int v3))] [] := by
  unfold fX12_holdsFor_c2 at hf
  refine p_iload_n X (dcg dc_X12_holdsFor 2 rfl) rfl rfl ?_
  refine p_aload_n X (dcg dc_X12_holdsFor 3 rfl) rfl rfl ?_
  obtain ⟨hk1, hf⟩ := gd_some hf
  refine p_getR X fl_X12_81 rfl (by decide) (dcg dc_X12_holdsFor 4 rfl) hk1 ?_
  refine p_iload_n X (dcg dc_X12_holdsFor 5 rfl) rfl rfl ?_
  obtain ⟨a2, e3, hf⟩ := gs_some hf
  first | subst e3 | (try rw [e3])
  obtain ⟨⟨hk5, hb4⟩, hf⟩ := gd_some hf
  refine p_iald X (dcg dc_X12_holdsFor 6 rfl) hk5 (vp_of_inb hb4) ?_
  refine p_icmp_ge (tgt := 68) X (dcg dc_X12_holdsFor 7 rfl) (by decide) (fun q => ?_) (fun q => ?_)
  · have hf := if_t q hf
    obtain ⟨y6, hf, hy7⟩ := mr_some hf
    have hy7f := kf y6 hy7
    subst hy7f
    refine p_aload_n X (dcg dc_X12_holdsFor 42 rfl) rfl rfl ?_
    refine p_iload_n X (dcg dc_X12_holdsFor 43 rfl) rfl rfl ?_
    obtain ⟨z8, hz8, hf⟩ := bd_some hf
    refine p_callV (As := [_]) X ml_X12_343 (dcg dc_X12_holdsFor 44 rfl) rfl rfl hk1 (wX12_joined hG hz8) (by decide) (room4 (Nat.le_of_ble_eq_true rfl)) (Nat.le_refl _) (Nat.le_refl _) ?_
    rintro _ u9 ⟨rfl, e9⟩; have e9 := e9.symm; subst e9
    obtain ⟨hg9, hf⟩ := gd_some hf
    have er := Option.some.inj hf
    subst er
    exact p_zret X rfl (congrArg Value.int hg9) (dcg dc_X12_holdsFor 45 rfl) ⟨rfl, rfl⟩ (Nat.le_refl _) (Nat.le_refl _)
  · have hf := if_f q hf
    refine p_aload_n X (dcg dc_X12_holdsFor 8 rfl) rfl rfl ?_
    refine p_getR X fl_X12_60 rfl (by decide) (dcg dc_X12_holdsFor 9 rfl) hk1 ?_
    refine p_sipush (v := 400) X (dcg dc_X12_holdsFor 10 rfl) (by decide) ?_
    refine p_iload_n X (dcg dc_X12_holdsFor 11 rfl) rfl rfl ?_
    refine p_imul X (dcg dc_X12_holdsFor 12 rfl) ?_
    refine p_iload_n X (dcg dc_X12_holdsFor 13 rfl) rfl rfl ?_
    refine p_iadd X (dcg dc_X12_holdsFor 14 rfl) ?_
    obtain ⟨a10, e11, hf⟩ := gs_some hf
    first | subst e11 | (try rw [e11])
    obtain ⟨⟨hk13, hb12⟩, hf⟩ := gd_some hf
    refine p_iald X (dcg dc_X12_holdsFor 15 rfl) hk13 (vp_of_inb hb12) ?_
    refine p_if_ne (tgt := 62) X (dcg dc_X12_holdsFor 16 rfl) (by decide) (fun q => ?_) (fun q => ?_)
    · have hf := if_t q hf
      refine p_pick [0, 1, 2, 3] ?_
      exact wX12_holdsFor_b62 X hG hnm hf k0 kf
    · have hf := if_f q hf
      refine p_aload_n X (dcg dc_X12_holdsFor 17 rfl) rfl rfl ?_
      refine p_getR X fl_X12_111 rfl (by decide) (dcg dc_X12_holdsFor 18 rfl) hk1 ?_
      refine p_iload_n X (dcg dc_X12_holdsFor 19 rfl) rfl rfl ?_
      refine p_iload_n X (dcg dc_X12_holdsFor 20 rfl) rfl rfl ?_
      refine p_aload_n X (dcg dc_X12_holdsFor 21 rfl) rfl rfl ?_
      refine p_aload_n X (dcg dc_X12_holdsFor 22 rfl) rfl rfl ?_
      refine p_getR X fl_X12_63 rfl (by decide) (dcg dc_X12_holdsFor 23 rfl) hk1 ?_
      refine p_sipush (v := 400) X (dcg dc_X12_holdsFor 24 rfl) (by decide) ?_
      refine p_iload_n X (dcg dc_X12_holdsFor 25 rfl) rfl rfl ?_
      refine p_imul X (dcg dc_X12_holdsFor 26 rfl) ?_
      refine p_iload_n X (dcg dc_X12_holdsFor 27 rfl) rfl rfl ?_
      refine p_iadd X (dcg dc_X12_holdsFor 28 rfl) ?_
      obtain ⟨a14, e15, hf⟩ := gs_some hf
      first | subst e15 | (try rw [e15])
      obtain ⟨⟨hk17, hb16⟩, hf⟩ := gd_some hf
      refine p_iald X (dcg dc_X12_holdsFor 29 rfl) hk17 (vp_of_inb hb16) ?_
      obtain ⟨z18, hz18, hf⟩ := bd_some hf
      refine p_callV (As := [_]) X ml_X12_403 (dcg dc_X12_holdsFor 30 rfl) rfl rfl hk1 (wX12_placeOf hG hz18) (by decide) (room4 (Nat.le_of_ble_eq_true rfl)) (Nat.le_refl _) (Nat.le_refl _) ?_
      rintro _ u9 ⟨rfl, e9⟩; have e9 := e9.symm; subst e9
      refine p_ishr X (dcg dc_X12_holdsFor 31 rfl) ?_
      refine p_iconst (v := 1) X (dcg dc_X12_holdsFor 32 rfl) (by decide) ?_
      refine p_iand X (dcg dc_X12_holdsFor 33 rfl) ?_
      refine p_iconst (v := 1) X (dcg dc_X12_holdsFor 34 rfl) (by decide) ?_
      refine p_icmp_ne (tgt := 60) X (dcg dc_X12_holdsFor 35 rfl) (by decide) (fun q => ?_) (fun q => ?_)
      · have hf := if_t q hf
        refine p_iconst (v := 0) X (dcg dc_X12_holdsFor 38 rfl) (by decide) ?_
        refine p_pick [0, 1, 2, 3] ?_
        exact wX12_holdsFor_b61 X hG hnm hf k0 kf
      · have hf := if_f q hf
        refine p_iconst (v := 1) X (dcg dc_X12_holdsFor 36 rfl) (by decide) ?_
        refine p_goto (tgt := 61) X (dcg dc_X12_holdsFor 37 rfl) (by decide) ?_
        refine p_pick [0, 1, 2, 3] ?_
        exact wX12_holdsFor_b61 X hG hnm hf k0 kf
noncomputable def fX12_holdsFor_l2 (v0 : Nat) (v1 : Int32) (v2 : Int32) (v3 : Int32) (h : PH) : Option (Int32 × PH) := wh (fun z : (Int32 × PH) => fX12_holdsFor_c2 v0 v1 v2 (z.1) (z.2)) (v3, h)
set_option maxRecDepth 100000 in
theorem mX12_holdsFor_l2 {v0 : Nat} {v1 : Int32} {v2 : Int32} {v3 : Int32} {h : PH} {r : (Int32 × PH)} (hf : fX12_holdsFor_l2 v0 v1 v2 v3 h = some r) : eqz h (hX r.2) (hV r.2) := by
  unfold fX12_holdsFor_l2 at hf
  refine wh_ind (P := fun z => eqz (z.2) (hX r.2) (hV r.2)) (fun z x0 hs i1 i2 => ?_) _ hf
  obtain ⟨c0, cf⟩ := mX12_holdsFor_c2 (v0 := v0) (v1 := v1) (v2 := v2) (v3 := z.1) (h := z.2) hs
  rcases hxx : x0 with zz | zz
  · exact eqz_tr (c0 zz hxx) (i1 zz hxx)
  · have ee := i2 zz hxx; subst ee; exact cf zz hxx
set_option maxRecDepth 100000 in
theorem wX12_holdsFor_l2 {E : PE} {p : Program} {l : Launch} {e : Env} {s : State} {m : MethodId} {args : Array Value} {below : List Frame} {meth : Method} {c : Code} (X : Cx E p l e (rmv 1 0 0) s m args below meth c RX12 cX12_holdsFor 4 (some .boolean)) (hG : Gs E l) (hnm : meth.name = yX12_holdsFor.name) {v0 : Nat} {v1 : Int32} {v2 : Int32} {v3 : Int32} {h : PH} {r : (Int32 × PH)} (hf : fX12_holdsFor_l2 v0 v1 v2 v3 h = some r)  : PW E p l e (rmv 1 0 0) s m args below meth c 4 0 0 (MQ below (QG E (fun v u => v = some (.int r.1) ∧ u = r.2)) args s 0 0 (pA E)) h 2 [(0, some (.ref v0)), (1, some (.int v1)), (2, some (.int v2)), (3, some (.int v3))] [] := by
  unfold fX12_holdsFor_l2 at hf
  refine wh_ind (P := fun z => PW E p l e (rmv 1 0 0) s m args below meth c 4 0 0 (MQ below (QG E (fun v u => v = some (.int r.1) ∧ u = r.2)) args s 0 0 (pA E)) (z.2) 2 [(0, some (.ref v0)), (1, some (.int v1)), (2, some (.int v2)), (3, some (.int (z.1)))] []) (fun z x0 hs i1 i2 => ?_) _ hf
  exact wX12_holdsFor_c2 (r := r) (v0 := v0) (v1 := v1) (v2 := v2) (v3 := z.1) (h := z.2) X hG hnm hs i1  i2
noncomputable def fX12_holdsFor (v0 : Nat) (v1 : Int32) (v2 : Int32) (h : PH) : Option (Int32 × PH) :=
  fX12_holdsFor_l2 v0 v1 v2 (0 : Int32) h
set_option maxRecDepth 100000 in
theorem mX12_holdsFor {v0 : Nat} {v1 : Int32} {v2 : Int32} {h : PH} {r : (Int32 × PH)} (hf : fX12_holdsFor v0 v1 v2 h = some r) : eqz h (hX r.2) (hV r.2) := by
  unfold fX12_holdsFor at hf
  have hle := eqz_rf h
  exact eqz_rt (mX12_holdsFor_l2 hf) hle
set_option maxRecDepth 100000 in
theorem wX12_holdsFor {E : PE} {l : Launch} (hG : Gs E l) {v0 : Nat} {v1 : Int32} {v2 : Int32} {h : PH} {r : (Int32 × PH)} (hf : fX12_holdsFor v0 v1 v2 h = some r) : Ct E l 1 0 0 yX12_holdsFor cX12_holdsFor 4 (some .boolean) [.ref v0, .int v1, .int v2] h (fun v u => v = some (.int r.1) ∧ u = r.2) := by
  refine ct_of hG (by decide) (Nat.le_of_ble_eq_true rfl) ?_
  intro p e s m args below meth c X hnm
  show PW E p l e _ s m args below meth c _ 0 0 _ h 0 [(0, some (.ref v0)), (1, some (.int v1)), (2, some (.int v2))] []
  unfold fX12_holdsFor at hf
  refine p_iconst (v := 0) X (dcg dc_X12_holdsFor 0 rfl) (by decide) ?_
  refine p_istore_n X (dcg dc_X12_holdsFor 1 rfl) rfl (by decide) rfl ?_
  refine p_pick [0, 1, 2, 3] ?_
  exact wX12_holdsFor_l2 X hG hnm hf 
theorem dc_X12_bits : decs cX12_bits [(0, .iconst 0, 1), (1, .istore_n 1, 1), (2, .iload_n 0, 1), (3, .istore_n 2, 1), (4, .iload_n 2, 1), (5, .ifCond .le 16, 3), (8, .iload_n 1, 1), (9, .iload_n 2, 1), (10, .iconst 1, 1), (11, .iand, 1), (12, .iadd, 1), (13, .istore_n 1, 1), (14, .iload_n 2, 1), (15, .iconst 1, 1), (16, .ishr, 1), (17, .istore_n 2, 1), (18, .goto (-14), 3), (21, .iload_n 1, 1), (22, .ireturn, 1)] = true := by decide +kernel
noncomputable def fX12_bits_c4 (v1 : Int32) (v2 : Int32) : Option ((Int32 × Int32) ⊕ Int32) :=
  if (v2 ≤ 0) then (mr (some (v1))) else
  some (.inl ((v1 + (v2 &&& (1 : Int32))), (v2 >>> ((1 : Int32) &&& 31))))
set_option maxRecDepth 100000 in
theorem wX12_bits_c4 {E : PE} {p : Program} {l : Launch} {e : Env} {s : State} {m : MethodId} {args : Array Value} {below : List Frame} {meth : Method} {c : Code} (X : Cx E p l e (rmv 0 0 0) s m args below meth c RX12 cX12_bits 3 (some .int)) (hG : Gs E l) (hnm : meth.name = yX12_bits.name) {v1 : Int32} {v2 : Int32} {h : PH} {r : Int32} {x : ((Int32 × Int32) ⊕ Int32)} (hf : fX12_bits_c4 v1 v2 = some x) (k0 : ∀ z : (Int32 × Int32), x = .inl z → PW E p l e (rmv 0 0 0) s m args below meth c 3 0 0 (MQ below (QG E (fun v u => v = some (.int r) ∧ u = h)) args s 0 0 (pA E)) h 4 [(1, some (.int (z.1))), (2, some (.int (z.2)))] []) (kf : ∀ z : Int32, x = .inr z → z = r) : PW E p l e (rmv 0 0 0) s m args below meth c 3 0 0 (MQ below (QG E (fun v u => v = some (.int r) ∧ u = h)) args s 0 0 (pA E)) h 4 [(1, some (.int v1)), (2, some (.int v2))] [] := by
  unfold fX12_bits_c4 at hf
  refine p_iload_n X (dcg dc_X12_bits 4 rfl) rfl rfl ?_
  refine p_if_le (tgt := 21) X (dcg dc_X12_bits 5 rfl) (by decide) (fun q => ?_) (fun q => ?_)
  · have hf := if_t q hf
    obtain ⟨y1, hf, hy2⟩ := mr_some hf
    have hy2f := kf y1 hy2
    subst hy2f
    refine p_iload_n X (dcg dc_X12_bits 17 rfl) rfl rfl ?_
    have er := Option.some.inj hf
    subst er
    exact p_iret X rfl (dcg dc_X12_bits 18 rfl) ⟨rfl, rfl⟩ (Nat.le_refl _) (Nat.le_refl _)
  · have hf := if_f q hf
    refine p_iload_n X (dcg dc_X12_bits 6 rfl) rfl rfl ?_
    refine p_iload_n X (dcg dc_X12_bits 7 rfl) rfl rfl ?_
    refine p_iconst (v := 1) X (dcg dc_X12_bits 8 rfl) (by decide) ?_
    refine p_iand X (dcg dc_X12_bits 9 rfl) ?_
    refine p_iadd X (dcg dc_X12_bits 10 rfl) ?_
    refine p_istore_n X (dcg dc_X12_bits 11 rfl) rfl (by decide) rfl ?_
    refine p_iload_n X (dcg dc_X12_bits 12 rfl) rfl rfl ?_
    refine p_iconst (v := 1) X (dcg dc_X12_bits 13 rfl) (by decide) ?_
    refine p_ishr X (dcg dc_X12_bits 14 rfl) ?_
    refine p_istore_n X (dcg dc_X12_bits 15 rfl) rfl (by decide) rfl ?_
    refine p_goto (tgt := 4) X (dcg dc_X12_bits 16 rfl) (by decide) ?_
    refine p_pick [1, 2] ?_
    exact k0 _ (Option.some.inj hf).symm
noncomputable def fX12_bits_l4 (v1 : Int32) (v2 : Int32) : Option Int32 := wh (fun z : (Int32 × Int32) => fX12_bits_c4 (z.1) (z.2)) (v1, v2)
set_option maxRecDepth 100000 in
theorem wX12_bits_l4 {E : PE} {p : Program} {l : Launch} {e : Env} {s : State} {m : MethodId} {args : Array Value} {below : List Frame} {meth : Method} {c : Code} (X : Cx E p l e (rmv 0 0 0) s m args below meth c RX12 cX12_bits 3 (some .int)) (hG : Gs E l) (hnm : meth.name = yX12_bits.name) {v1 : Int32} {v2 : Int32} {h : PH} {r : Int32} (hf : fX12_bits_l4 v1 v2 = some r)  : PW E p l e (rmv 0 0 0) s m args below meth c 3 0 0 (MQ below (QG E (fun v u => v = some (.int r) ∧ u = h)) args s 0 0 (pA E)) h 4 [(1, some (.int v1)), (2, some (.int v2))] [] := by
  unfold fX12_bits_l4 at hf
  refine wh_ind (P := fun z => PW E p l e (rmv 0 0 0) s m args below meth c 3 0 0 (MQ below (QG E (fun v u => v = some (.int r) ∧ u = h)) args s 0 0 (pA E)) h 4 [(1, some (.int (z.1))), (2, some (.int (z.2)))] []) (fun z x0 hs i1 i2 => ?_) _ hf
  exact wX12_bits_c4 (r := r) (v1 := z.1) (v2 := z.2) (h := h) X hG hnm hs i1  i2
noncomputable def fX12_bits (v0 : Int32) : Option Int32 :=
  fX12_bits_l4 (0 : Int32) v0
set_option maxRecDepth 100000 in
theorem wX12_bits {E : PE} {l : Launch} (hG : Gs E l) {v0 : Int32} {h : PH} {r : Int32} (hf : fX12_bits v0 = some r) : Ct E l 0 0 0 yX12_bits cX12_bits 3 (some .int) [.int v0] h (fun v u => v = some (.int r) ∧ u = h) := by
  refine ct_of hG (by decide) (Nat.le_of_ble_eq_true rfl) ?_
  intro p e s m args below meth c X hnm
  show PW E p l e _ s m args below meth c _ 0 0 _ h 0 [(0, some (.int v0))] []
  unfold fX12_bits at hf
  refine p_iconst (v := 0) X (dcg dc_X12_bits 0 rfl) (by decide) ?_
  refine p_istore_n X (dcg dc_X12_bits 1 rfl) rfl (by decide) rfl ?_
  refine p_iload_n X (dcg dc_X12_bits 2 rfl) rfl rfl ?_
  refine p_istore_n X (dcg dc_X12_bits 3 rfl) rfl (by decide) rfl ?_
  refine p_pick [1, 2] ?_
  exact wX12_bits_l4 X hG hnm hf 
theorem dc_X12_compare : decs cX12_compare [(0, .aload_n 0, 1), (1, .iconst 0, 1), (2, .putfield 1, 3), (5, .aload_n 0, 1), (6, .iload_n 1, 1), (7, .invokevirtual 358, 3), (10, .ifCond .ne 56, 3), (13, .aload_n 0, 1), (14, .iload_n 2, 1), (15, .invokevirtual 358, 3), (18, .ifCond .ne 48, 3), (21, .aload_n 0, 1), (22, .iload_n 1, 1), (23, .invokevirtual 361, 3), (26, .ifCond .ne 40, 3), (29, .aload_n 0, 1), (30, .iload_n 2, 1), (31, .invokevirtual 361, 3), (34, .ifCond .ne 32, 3), (37, .aload_n 0, 1), (38, .aload_n 0, 1), (39, .iload_n 1, 1), (40, .invokevirtual 406, 3), (43, .ifCond .eq 15, 3), (46, .aload_n 0, 1), (47, .iload_n 2, 1), (48, .invokevirtual 406, 3), (51, .ifCond .eq 7, 3), (54, .iconst 1, 1), (55, .goto 4, 3), (58, .iconst 0, 1), (59, .iconst 3, 1), (60, .invokevirtual 156, 3), (63, .ifCond .eq 5, 3), (66, .iconst 0, 1), (67, .ireturn, 1), (68, .aload_n 0, 1), (69, .iconst 0, 1), (70, .putfield 225, 3), (73, .aload_n 0, 1), (74, .iload_n 1, 1), (75, .invokevirtual 409, 3), (78, .aload_n 0, 1), (79, .iload_n 2, 1), (80, .invokevirtual 409, 3), (83, .aload_n 0, 1), (84, .aload_n 0, 1), (85, .getfield 225, 3), (88, .bipush 10, 2), (90, .if_icmp .gt 7, 3), (93, .iconst 1, 1), (94, .goto 4, 3), (97, .iconst 0, 1), (98, .iconst 3, 1), (99, .invokevirtual 156, 3), (102, .ifCond .eq 5, 3), (105, .iconst 0, 1), (106, .ireturn, 1), (107, .iconst (-1), 1), (108, .istore_n 3, 1), (109, .iconst 0, 1), (110, .istore 4, 2), (112, .iload 4, 2), (114, .iconst 1, 1), (115, .aload_n 0, 1), (116, .getfield 225, 3), (119, .ishl, 1), (120, .if_icmp .ge 101, 3), (123, .aload_n 0, 1), (124, .iload_n 1, 1), (125, .iload 4, 2), (127, .invokevirtual 412, 3), (130, .aload_n 0, 1), (131, .iload_n 2, 1), (132, .iload 4, 2), (134, .invokevirtual 412, 3), (137, .if_icmp .ne 6, 3), (140, .goto 75, 3), (143, .iload_n 3, 1), (144, .iconst (-1), 1), (145, .if_icmp .ne 7, 3), (148, .iconst 0, 1), (149, .goto 7, 3), (152, .iload 4, 2), (154, .iload_n 3, 1), (155, .ixor, 1), (156, .istore 5, 2), (158, .iload_n 3, 1), (159, .iconst (-1), 1), (160, .if_icmp .eq 40, 3), (163, .iload 4, 2), (165, .invokestatic 415, 3), (168, .iload_n 3, 1), (169, .invokestatic 415, 3), (172, .if_icmp .lt 28, 3), (175, .iload 4, 2), (177, .invokestatic 415, 3), (180, .iload_n 3, 1), (181, .invokestatic 415, 3), (184, .if_icmp .ne 20, 3), (187, .iload 4, 2), (189, .iload 5, 2), (191, .iand, 1), (192, .iconst 0, 1), (193, .iload 5, 2), (195, .isub, 1), (196, .iand, 1), (197, .ifCond .eq 7, 3), (200, .iconst 1, 1), (201, .goto 4, 3), (204, .iconst 0, 1), (205, .istore 6, 2), (207, .iload 6, 2), (209, .ifCond .eq 6, 3), (212, .iload 4, 2), (214, .istore_n 3, 1), (215, .iinc 4 1, 3), (218, .goto (-106), 3), (221, .aload_n 0, 1), (222, .iload_n 3, 1), (223, .iconst (-1), 1), (224, .if_icmp .ne 7, 3), (227, .iconst (-1), 1), (228, .goto 4, 3), (231, .iconst 0, 1), (232, .putfield 141, 3), (235, .iconst 0, 1), (236, .istore 4, 2), (238, .iload 4, 2), (240, .aload_n 0, 1), (241, .getfield 225, 3), (244, .if_icmp .ge 52, 3), (247, .iload_n 3, 1), (248, .iconst (-1), 1), (249, .if_icmp .eq 47, 3), (252, .iload_n 3, 1), (253, .iload 4, 2), (255, .ishr, 1), (256, .iconst 1, 1), (257, .iand, 1), (258, .ifCond .ne 6, 3), (261, .goto 29, 3), (264, .aload_n 0, 1), (265, .getfield 138, 3), (268, .aload_n 0, 1), (269, .getfield 141, 3), (272, .aload_n 0, 1), (273, .getfield 57, 3), (276, .iload 4, 2), (278, .iaload, 1), (279, .iastore, 1), (280, .aload_n 0, 1), (281, .dup, 1), (282, .getfield 141, 3), (285, .iconst 1, 1), (286, .iadd, 1), (287, .putfield 141, 3), (290, .iinc 4 1, 3), (293, .goto (-55), 3), (296, .aload_n 0, 1), (297, .getfield 141, 3), (300, .ireturn, 1)] = true := by decide +kernel
noncomputable def fX12_compare_b66  (h : PH) : Option (Int32 × PH) :=
  some (((0 : Int32), h))
set_option maxRecDepth 100000 in
theorem mX12_compare_b66  {h : PH} {r : (Int32 × PH)} (hf : fX12_compare_b66  h = some r) : eqz h (hX r.2) (hV r.2) := by
  unfold fX12_compare_b66 at hf
  have hle := eqz_rf h
  have ee := Option.some.inj hf; subst ee; exact hle
set_option maxRecDepth 100000 in
theorem wX12_compare_b66 {E : PE} {p : Program} {l : Launch} {e : Env} {s : State} {m : MethodId} {args : Array Value} {below : List Frame} {meth : Method} {c : Code} (X : Cx E p l e (rmv 5 0 0) s m args below meth c RX12 cX12_compare 7 (some .int)) (hG : Gs E l) (hnm : meth.name = yX12_compare.name)  {h : PH} {r : (Int32 × PH)} (hf : fX12_compare_b66  h = some r)  : PW E p l e (rmv 5 0 0) s m args below meth c 7 0 0 (MQ below (QG E (fun v u => v = some (.int r.1) ∧ u = r.2)) args s 0 0 (pA E)) h 66 [] [] := by
  unfold fX12_compare_b66 at hf
  refine p_iconst (v := 0) X (dcg dc_X12_compare 34 rfl) (by decide) ?_
  have er := Option.some.inj hf
  subst er
  exact p_iret X rfl (dcg dc_X12_compare 35 rfl) ⟨rfl, rfl⟩ (Nat.le_refl _) (Nat.le_refl _)
noncomputable def fX12_compare_b296 (v0 : Nat) (h : PH) : Option (Int32 × PH) :=
  gd (hK h v0 = 12) (some (((hI h 12 v0 59), h)))
set_option maxRecDepth 100000 in
theorem mX12_compare_b296 {v0 : Nat} {h : PH} {r : (Int32 × PH)} (hf : fX12_compare_b296 v0 h = some r) : eqz h (hX r.2) (hV r.2) := by
  unfold fX12_compare_b296 at hf
  have hle := eqz_rf h
  obtain ⟨hk34, hf⟩ := gd_some hf
  have ee := Option.some.inj hf; subst ee; exact hle
set_option maxRecDepth 100000 in
theorem wX12_compare_b296 {E : PE} {p : Program} {l : Launch} {e : Env} {s : State} {m : MethodId} {args : Array Value} {below : List Frame} {meth : Method} {c : Code} (X : Cx E p l e (rmv 5 0 0) s m args below meth c RX12 cX12_compare 7 (some .int)) (hG : Gs E l) (hnm : meth.name = yX12_compare.name) {v0 : Nat} {h : PH} {r : (Int32 × PH)} (hf : fX12_compare_b296 v0 h = some r)  : PW E p l e (rmv 5 0 0) s m args below meth c 7 0 0 (MQ below (QG E (fun v u => v = some (.int r.1) ∧ u = r.2)) args s 0 0 (pA E)) h 296 [(0, some (.ref v0))] [] := by
  unfold fX12_compare_b296 at hf
  refine p_aload_n X (dcg dc_X12_compare 159 rfl) rfl rfl ?_
  obtain ⟨hk34, hf⟩ := gd_some hf
  refine p_getI X fl_X12_141 rfl (by decide) (dcg dc_X12_compare 160 rfl) hk34 ?_
  have er := Option.some.inj hf
  subst er
  exact p_iret X rfl (dcg dc_X12_compare 161 rfl) ⟨rfl, rfl⟩ (Nat.le_refl _) (Nat.le_refl _)
noncomputable def fX12_compare_b290 (v0 : Nat) (v3 : Int32) (v4 : Int32) (h : PH) : Option ((Int32 × PH) ⊕ (Int32 × PH)) :=
  some (.inl ((v4 + 1), h))
set_option maxRecDepth 100000 in
theorem mX12_compare_b290 {v0 : Nat} {v3 : Int32} {v4 : Int32} {h : PH} {x : ((Int32 × PH) ⊕ (Int32 × PH))} (hf : fX12_compare_b290 v0 v3 v4 h = some x) : (∀ w9 : (Int32 × PH), x = .inl w9 → eqz h (hX (w9.2)) (hV (w9.2))) ∧ (∀ w9 : (Int32 × PH), x = .inr w9 → eqz h (hX w9.2) (hV w9.2)) := by
  unfold fX12_compare_b290 at hf
  have hle := eqz_rf h
  have ee := Option.some.inj hf; subst ee
  exact ⟨(fun z e => by have ee := Sum.inl.inj (e); subst ee; exact hle), (fun z e => nomatch e)⟩
set_option maxRecDepth 100000 in
theorem wX12_compare_b290 {E : PE} {p : Program} {l : Launch} {e : Env} {s : State} {m : MethodId} {args : Array Value} {below : List Frame} {meth : Method} {c : Code} (X : Cx E p l e (rmv 5 0 0) s m args below meth c RX12 cX12_compare 7 (some .int)) (hG : Gs E l) (hnm : meth.name = yX12_compare.name) {v0 : Nat} {v3 : Int32} {v4 : Int32} {h : PH} {r : (Int32 × PH)} {x : ((Int32 × PH) ⊕ (Int32 × PH))} (hf : fX12_compare_b290 v0 v3 v4 h = some x) (k0 : ∀ z : (Int32 × PH), x = .inl z → PW E p l e (rmv 5 0 0) s m args below meth c 7 0 0 (MQ below (QG E (fun v u => v = some (.int r.1) ∧ u = r.2)) args s 0 0 (pA E)) (z.2) 238 [(0, some (.ref v0)), (3, some (.int v3)), (4, some (.int (z.1)))] []) (kf : ∀ z : (Int32 × PH), x = .inr z → z = r) : PW E p l e (rmv 5 0 0) s m args below meth c 7 0 0 (MQ below (QG E (fun v u => v = some (.int r.1) ∧ u = r.2)) args s 0 0 (pA E)) h 290 [(0, some (.ref v0)), (3, some (.int v3)), (4, some (.int v4))] [] := by
  unfold fX12_compare_b290 at hf
  refine p_iinc (v := 1) X (dcg dc_X12_compare 157 rfl) rfl (by decide) (by decide) rfl ?_
  refine p_goto (tgt := 238) X (dcg dc_X12_compare 158 rfl) (by decide) ?_
  refine p_pick [0, 3, 4] ?_
  exact k0 _ (Option.some.inj hf).symm
noncomputable def fX12_compare_c238 (v0 : Nat) (v3 : Int32) (v4 : Int32) (h : PH) : Option ((Int32 × PH) ⊕ (Int32 × PH)) :=
  gd (hK h v0 = 12) (if ((hI h 12 v0 20) ≤ v4) then (mr (fX12_compare_b296 v0 h)) else
  if (v3 = (-1 : Int32)) then (mr (fX12_compare_b296 v0 h)) else
  if (¬ ((v3 >>> (v4 &&& 31)) &&& (1 : Int32)) = 0) then (gs (hR h 12 v0 19) (fun a39 =>
  gd (hK h a39 = 20 ∧ inb v4 (hN h a39)) (gs (hR h 12 v0 58) (fun a43 =>
  gd (hK h a43 = 20 ∧ inb (hI h 12 v0 59) (hN h a43)) (lt (sI h 20 a43 (Int32.toNatClampNeg (hI h 12 v0 59)) (hI h 20 a39 (Int32.toNatClampNeg v4))) (fun h47 =>
  lt (sI h47 12 v0 59 ((hI h47 12 v0 59) + (1 : Int32))) (fun h48 =>
  fX12_compare_b290 v0 v3 v4 h48))))))) else
  fX12_compare_b290 v0 v3 v4 h)
set_option maxRecDepth 100000 in
theorem mX12_compare_c238 {v0 : Nat} {v3 : Int32} {v4 : Int32} {h : PH} {x : ((Int32 × PH) ⊕ (Int32 × PH))} (hf : fX12_compare_c238 v0 v3 v4 h = some x) : (∀ w9 : (Int32 × PH), x = .inl w9 → eqz h (hX (w9.2)) (hV (w9.2))) ∧ (∀ w9 : (Int32 × PH), x = .inr w9 → eqz h (hX w9.2) (hV w9.2)) := by
  unfold fX12_compare_c238 at hf
  have hle := eqz_rf h
  obtain ⟨hk33, hf⟩ := gd_some hf
  rcases ite_or hf with ⟨q, hf⟩ | ⟨q, hf⟩
  · have hf := if_t q hf
    obtain ⟨y35, hfm, rfl⟩ := mr_some hf; have hf := hfm; clear hfm
    have cf := mX12_compare_b296 hf
    exact ⟨(fun z e => nomatch e), (fun z e => by cases e <;> exact eqz_rt cf hle)⟩
  · have hf := if_f q hf
    rcases ite_or hf with ⟨q, hf⟩ | ⟨q, hf⟩
    · have hf := if_t q hf
      obtain ⟨y37, hfm, rfl⟩ := mr_some hf; have hf := hfm; clear hfm
      have cf := mX12_compare_b296 hf
      exact ⟨(fun z e => nomatch e), (fun z e => by cases e <;> exact eqz_rt cf hle)⟩
    · have hf := if_f q hf
      rcases ite_or hf with ⟨q, hf⟩ | ⟨q, hf⟩
      · have hf := if_t q hf
        obtain ⟨a39, e40, hf⟩ := gs_some hf
        obtain ⟨⟨hk42, hb41⟩, hf⟩ := gd_some hf
        obtain ⟨a43, e44, hf⟩ := gs_some hf
        obtain ⟨⟨hk46, hb45⟩, hf⟩ := gd_some hf
        obtain ⟨h47, rfl, hf⟩ := lt_some hf
        obtain ⟨h48, rfl, hf⟩ := lt_some hf
        obtain ⟨c0, cf⟩ := mX12_compare_b290 hf
        exact ⟨fun z e => eqz_rt (c0 z (e)) hle, fun z e => eqz_rt (cf z (e)) hle⟩
      · have hf := if_f q hf
        obtain ⟨c0, cf⟩ := mX12_compare_b290 hf
        exact ⟨fun z e => eqz_rt (c0 z (e)) hle, fun z e => eqz_rt (cf z (e)) hle⟩
set_option maxRecDepth 100000 in
theorem wX12_compare_c238 {E : PE} {p : Program} {l : Launch} {e : Env} {s : State} {m : MethodId} {args : Array Value} {below : List Frame} {meth : Method} {c : Code} (X : Cx E p l e (rmv 5 0 0) s m args below meth c RX12 cX12_compare 7 (some .int)) (hG : Gs E l) (hnm : meth.name = yX12_compare.name) {v0 : Nat} {v3 : Int32} {v4 : Int32} {h : PH} {r : (Int32 × PH)} {x : ((Int32 × PH) ⊕ (Int32 × PH))} (hf : fX12_compare_c238 v0 v3 v4 h = some x) (k0 : ∀ z : (Int32 × PH), x = .inl z → PW E p l e (rmv 5 0 0) s m args below meth c 7 0 0 (MQ below (QG E (fun v u => v = some (.int r.1) ∧ u = r.2)) args s 0 0 (pA E)) (z.2) 238 [(0, some (.ref v0)), (3, some (.int v3)), (4, some (.int (z.1)))] []) (kf : ∀ z : (Int32 × PH), x = .inr z → z = r) : PW E p l e (rmv 5 0 0) s m args below meth c 7 0 0 (MQ below (QG E (fun v u => v = some (.int r.1) ∧ u = r.2)) args s 0 0 (pA E)) h 238 [(0, some (.ref v0)), (3, some (.int v3)), (4, some (.int v4))] [] := by
  unfold fX12_compare_c238 at hf
  refine p_iload X (dcg dc_X12_compare 128 rfl) rfl ?_
  refine p_aload_n X (dcg dc_X12_compare 129 rfl) rfl rfl ?_
  obtain ⟨hk33, hf⟩ := gd_some hf
  refine p_getI X fl_X12_225 rfl (by decide) (dcg dc_X12_compare 130 rfl) hk33 ?_
  refine p_icmp_ge (tgt := 296) X (dcg dc_X12_compare 131 rfl) (by decide) (fun q => ?_) (fun q => ?_)
  · have hf := if_t q hf
    obtain ⟨y35, hf, hy36⟩ := mr_some hf
    have hy36f := kf y35 hy36
    subst hy36f
    refine p_pick [0] ?_
    exact wX12_compare_b296 X hG hnm hf 
  · have hf := if_f q hf
    refine p_iload_n X (dcg dc_X12_compare 132 rfl) rfl rfl ?_
    refine p_iconst (v := -1) X (dcg dc_X12_compare 133 rfl) (by decide) ?_
    refine p_icmp_eq (tgt := 296) X (dcg dc_X12_compare 134 rfl) (by decide) (fun q => ?_) (fun q => ?_)
    · have hf := if_t q hf
      obtain ⟨y37, hf, hy38⟩ := mr_some hf
      have hy38f := kf y37 hy38
      subst hy38f
      refine p_pick [0] ?_
      exact wX12_compare_b296 X hG hnm hf 
    · have hf := if_f q hf
      refine p_iload_n X (dcg dc_X12_compare 135 rfl) rfl rfl ?_
      refine p_iload X (dcg dc_X12_compare 136 rfl) rfl ?_
      refine p_ishr X (dcg dc_X12_compare 137 rfl) ?_
      refine p_iconst (v := 1) X (dcg dc_X12_compare 138 rfl) (by decide) ?_
      refine p_iand X (dcg dc_X12_compare 139 rfl) ?_
      refine p_if_ne (tgt := 264) X (dcg dc_X12_compare 140 rfl) (by decide) (fun q => ?_) (fun q => ?_)
      · have hf := if_t q hf
        refine p_aload_n X (dcg dc_X12_compare 142 rfl) rfl rfl ?_
        refine p_getR X fl_X12_138 rfl (by decide) (dcg dc_X12_compare 143 rfl) hk33 ?_
        refine p_aload_n X (dcg dc_X12_compare 144 rfl) rfl rfl ?_
        refine p_getI X fl_X12_141 rfl (by decide) (dcg dc_X12_compare 145 rfl) hk33 ?_
        refine p_aload_n X (dcg dc_X12_compare 146 rfl) rfl rfl ?_
        refine p_getR X fl_X12_57 rfl (by decide) (dcg dc_X12_compare 147 rfl) hk33 ?_
        refine p_iload X (dcg dc_X12_compare 148 rfl) rfl ?_
        obtain ⟨a39, e40, hf⟩ := gs_some hf
        first | subst e40 | (try rw [e40])
        obtain ⟨⟨hk42, hb41⟩, hf⟩ := gd_some hf
        refine p_iald X (dcg dc_X12_compare 149 rfl) hk42 (vp_of_inb hb41) ?_
        obtain ⟨a43, e44, hf⟩ := gs_some hf
        first | subst e44 | (try rw [e44])
        obtain ⟨⟨hk46, hb45⟩, hf⟩ := gd_some hf
        refine p_iast X (dcg dc_X12_compare 150 rfl) hk46 (vp_of_inb hb45) ?_
        obtain ⟨h47, rfl, hf⟩ := lt_some hf
        refine p_aload_n X (dcg dc_X12_compare 151 rfl) rfl rfl ?_
        refine p_dup X (dcg dc_X12_compare 152 rfl) rfl ?_
        refine p_getI X fl_X12_141 rfl (by decide) (dcg dc_X12_compare 153 rfl) hk33 ?_
        refine p_iconst (v := 1) X (dcg dc_X12_compare 154 rfl) (by decide) ?_
        refine p_iadd X (dcg dc_X12_compare 155 rfl) ?_
        refine p_putI X fl_X12_141 rfl (by decide) (fun q hq => by cases hq; rfl) rfl rfl (dcg dc_X12_compare 156 rfl) hk33 ?_
        obtain ⟨h48, rfl, hf⟩ := lt_some hf
        refine p_pick [0, 3, 4] ?_
        exact wX12_compare_b290 X hG hnm hf k0 kf
      · have hf := if_f q hf
        refine p_goto (tgt := 290) X (dcg dc_X12_compare 141 rfl) (by decide) ?_
        refine p_pick [0, 3, 4] ?_
        exact wX12_compare_b290 X hG hnm hf k0 kf
noncomputable def fX12_compare_l238 (v0 : Nat) (v3 : Int32) (v4 : Int32) (h : PH) : Option (Int32 × PH) := wh (fun z : (Int32 × PH) => fX12_compare_c238 v0 v3 (z.1) (z.2)) (v4, h)
set_option maxRecDepth 100000 in
theorem mX12_compare_l238 {v0 : Nat} {v3 : Int32} {v4 : Int32} {h : PH} {r : (Int32 × PH)} (hf : fX12_compare_l238 v0 v3 v4 h = some r) : eqz h (hX r.2) (hV r.2) := by
  unfold fX12_compare_l238 at hf
  refine wh_ind (P := fun z => eqz (z.2) (hX r.2) (hV r.2)) (fun z x0 hs i1 i2 => ?_) _ hf
  obtain ⟨c0, cf⟩ := mX12_compare_c238 (v0 := v0) (v3 := v3) (v4 := z.1) (h := z.2) hs
  rcases hxx : x0 with zz | zz
  · exact eqz_tr (c0 zz hxx) (i1 zz hxx)
  · have ee := i2 zz hxx; subst ee; exact cf zz hxx
set_option maxRecDepth 100000 in
theorem wX12_compare_l238 {E : PE} {p : Program} {l : Launch} {e : Env} {s : State} {m : MethodId} {args : Array Value} {below : List Frame} {meth : Method} {c : Code} (X : Cx E p l e (rmv 5 0 0) s m args below meth c RX12 cX12_compare 7 (some .int)) (hG : Gs E l) (hnm : meth.name = yX12_compare.name) {v0 : Nat} {v3 : Int32} {v4 : Int32} {h : PH} {r : (Int32 × PH)} (hf : fX12_compare_l238 v0 v3 v4 h = some r)  : PW E p l e (rmv 5 0 0) s m args below meth c 7 0 0 (MQ below (QG E (fun v u => v = some (.int r.1) ∧ u = r.2)) args s 0 0 (pA E)) h 238 [(0, some (.ref v0)), (3, some (.int v3)), (4, some (.int v4))] [] := by
  unfold fX12_compare_l238 at hf
  refine wh_ind (P := fun z => PW E p l e (rmv 5 0 0) s m args below meth c 7 0 0 (MQ below (QG E (fun v u => v = some (.int r.1) ∧ u = r.2)) args s 0 0 (pA E)) (z.2) 238 [(0, some (.ref v0)), (3, some (.int v3)), (4, some (.int (z.1)))] []) (fun z x0 hs i1 i2 => ?_) _ hf
  exact wX12_compare_c238 (r := r) (v0 := v0) (v3 := v3) (v4 := z.1) (h := z.2) X hG hnm hs i1  i2
noncomputable def fX12_compare_b232 (v0 : Nat) (v3 : Int32) (t0 : Option Nat) (t1 : Int32) (h : PH) : Option (Int32 × PH) :=
  gs t0 (fun a29 =>
  gd (hK h a29 = 12) (lt (sI h 12 a29 59 t1) (fun h32 =>
  fX12_compare_l238 v0 v3 (0 : Int32) h32)))
set_option maxRecDepth 100000 in
theorem mX12_compare_b232 {v0 : Nat} {v3 : Int32} {t0 : Option Nat} {t1 : Int32} {h : PH} {r : (Int32 × PH)} (hf : fX12_compare_b232 v0 v3 t0 t1 h = some r) : eqz h (hX r.2) (hV r.2) := by
  unfold fX12_compare_b232 at hf
  have hle := eqz_rf h
  obtain ⟨a29, e30, hf⟩ := gs_some hf
  obtain ⟨hk31, hf⟩ := gd_some hf
  obtain ⟨h32, rfl, hf⟩ := lt_some hf
  exact eqz_rt (mX12_compare_l238 hf) hle
set_option maxRecDepth 100000 in
theorem wX12_compare_b232 {E : PE} {p : Program} {l : Launch} {e : Env} {s : State} {m : MethodId} {args : Array Value} {below : List Frame} {meth : Method} {c : Code} (X : Cx E p l e (rmv 5 0 0) s m args below meth c RX12 cX12_compare 7 (some .int)) (hG : Gs E l) (hnm : meth.name = yX12_compare.name) {v0 : Nat} {v3 : Int32} {t0 : Option Nat} {t1 : Int32} {h : PH} {r : (Int32 × PH)} (hf : fX12_compare_b232 v0 v3 t0 t1 h = some r)  : PW E p l e (rmv 5 0 0) s m args below meth c 7 0 0 (MQ below (QG E (fun v u => v = some (.int r.1) ∧ u = r.2)) args s 0 0 (pA E)) h 232 [(0, some (.ref v0)), (3, some (.int v3))] [.int t1, va_rf t0] := by
  unfold fX12_compare_b232 at hf
  obtain ⟨a29, e30, hf⟩ := gs_some hf
  first | subst e30 | (try rw [e30])
  obtain ⟨hk31, hf⟩ := gd_some hf
  refine p_putI X fl_X12_141 rfl (by decide) (fun q hq => by cases hq; rfl) rfl rfl (dcg dc_X12_compare 125 rfl) hk31 ?_
  obtain ⟨h32, rfl, hf⟩ := lt_some hf
  refine p_iconst (v := 0) X (dcg dc_X12_compare 126 rfl) (by decide) ?_
  refine p_istore X (dcg dc_X12_compare 127 rfl) (by decide) rfl ?_
  refine p_pick [0, 3, 4] ?_
  exact wX12_compare_l238 X hG hnm hf 
noncomputable def fX12_compare_b215 (v0 : Nat) (v1 : Int32) (v2 : Int32) (v3 : Int32) (v4 : Int32) (h : PH) : Option ((Int32 × Int32 × PH) ⊕ (Int32 × PH)) :=
  some (.inl (v3, (v4 + 1), h))
set_option maxRecDepth 100000 in
theorem mX12_compare_b215 {v0 : Nat} {v1 : Int32} {v2 : Int32} {v3 : Int32} {v4 : Int32} {h : PH} {x : ((Int32 × Int32 × PH) ⊕ (Int32 × PH))} (hf : fX12_compare_b215 v0 v1 v2 v3 v4 h = some x) : (∀ w9 : (Int32 × Int32 × PH), x = .inl w9 → eqz h (hX (w9.2.2)) (hV (w9.2.2))) ∧ (∀ w9 : (Int32 × PH), x = .inr w9 → eqz h (hX w9.2) (hV w9.2)) := by
  unfold fX12_compare_b215 at hf
  have hle := eqz_rf h
  have ee := Option.some.inj hf; subst ee
  exact ⟨(fun z e => by have ee := Sum.inl.inj (e); subst ee; exact hle), (fun z e => nomatch e)⟩
set_option maxRecDepth 100000 in
theorem wX12_compare_b215 {E : PE} {p : Program} {l : Launch} {e : Env} {s : State} {m : MethodId} {args : Array Value} {below : List Frame} {meth : Method} {c : Code} (X : Cx E p l e (rmv 5 0 0) s m args below meth c RX12 cX12_compare 7 (some .int)) (hG : Gs E l) (hnm : meth.name = yX12_compare.name) {v0 : Nat} {v1 : Int32} {v2 : Int32} {v3 : Int32} {v4 : Int32} {h : PH} {r : (Int32 × PH)} {x : ((Int32 × Int32 × PH) ⊕ (Int32 × PH))} (hf : fX12_compare_b215 v0 v1 v2 v3 v4 h = some x) (k0 : ∀ z : (Int32 × Int32 × PH), x = .inl z → PW E p l e (rmv 5 0 0) s m args below meth c 7 0 0 (MQ below (QG E (fun v u => v = some (.int r.1) ∧ u = r.2)) args s 0 0 (pA E)) (z.2.2) 112 [(0, some (.ref v0)), (1, some (.int v1)), (2, some (.int v2)), (3, some (.int (z.1))), (4, some (.int (z.2.1)))] []) (kf : ∀ z : (Int32 × PH), x = .inr z → z = r) : PW E p l e (rmv 5 0 0) s m args below meth c 7 0 0 (MQ below (QG E (fun v u => v = some (.int r.1) ∧ u = r.2)) args s 0 0 (pA E)) h 215 [(0, some (.ref v0)), (1, some (.int v1)), (2, some (.int v2)), (3, some (.int v3)), (4, some (.int v4))] [] := by
  unfold fX12_compare_b215 at hf
  refine p_iinc (v := 1) X (dcg dc_X12_compare 116 rfl) rfl (by decide) (by decide) rfl ?_
  refine p_goto (tgt := 112) X (dcg dc_X12_compare 117 rfl) (by decide) ?_
  refine p_pick [0, 1, 2, 3, 4] ?_
  exact k0 _ (Option.some.inj hf).symm
noncomputable def fX12_compare_b205 (v0 : Nat) (v1 : Int32) (v2 : Int32) (v3 : Int32) (v4 : Int32) (t0 : Int32) (h : PH) : Option ((Int32 × Int32 × PH) ⊕ (Int32 × PH)) :=
  if (t0 = 0) then (fX12_compare_b215 v0 v1 v2 v3 v4 h) else
  fX12_compare_b215 v0 v1 v2 v4 v4 h
set_option maxRecDepth 100000 in
theorem mX12_compare_b205 {v0 : Nat} {v1 : Int32} {v2 : Int32} {v3 : Int32} {v4 : Int32} {t0 : Int32} {h : PH} {x : ((Int32 × Int32 × PH) ⊕ (Int32 × PH))} (hf : fX12_compare_b205 v0 v1 v2 v3 v4 t0 h = some x) : (∀ w9 : (Int32 × Int32 × PH), x = .inl w9 → eqz h (hX (w9.2.2)) (hV (w9.2.2))) ∧ (∀ w9 : (Int32 × PH), x = .inr w9 → eqz h (hX w9.2) (hV w9.2)) := by
  unfold fX12_compare_b205 at hf
  have hle := eqz_rf h
  rcases ite_or hf with ⟨q, hf⟩ | ⟨q, hf⟩
  · have hf := if_t q hf
    obtain ⟨c0, cf⟩ := mX12_compare_b215 hf
    exact ⟨fun z e => eqz_rt (c0 z (e)) hle, fun z e => eqz_rt (cf z (e)) hle⟩
  · have hf := if_f q hf
    obtain ⟨c0, cf⟩ := mX12_compare_b215 hf
    exact ⟨fun z e => eqz_rt (c0 z (e)) hle, fun z e => eqz_rt (cf z (e)) hle⟩
set_option maxRecDepth 100000 in
theorem wX12_compare_b205 {E : PE} {p : Program} {l : Launch} {e : Env} {s : State} {m : MethodId} {args : Array Value} {below : List Frame} {meth : Method} {c : Code} (X : Cx E p l e (rmv 5 0 0) s m args below meth c RX12 cX12_compare 7 (some .int)) (hG : Gs E l) (hnm : meth.name = yX12_compare.name) {v0 : Nat} {v1 : Int32} {v2 : Int32} {v3 : Int32} {v4 : Int32} {t0 : Int32} {h : PH} {r : (Int32 × PH)} {x : ((Int32 × Int32 × PH) ⊕ (Int32 × PH))} (hf : fX12_compare_b205 v0 v1 v2 v3 v4 t0 h = some x) (k0 : ∀ z : (Int32 × Int32 × PH), x = .inl z → PW E p l e (rmv 5 0 0) s m args below meth c 7 0 0 (MQ below (QG E (fun v u => v = some (.int r.1) ∧ u = r.2)) args s 0 0 (pA E)) (z.2.2) 112 [(0, some (.ref v0)), (1, some (.int v1)), (2, some (.int v2)), (3, some (.int (z.1))), (4, some (.int (z.2.1)))] []) (kf : ∀ z : (Int32 × PH), x = .inr z → z = r) : PW E p l e (rmv 5 0 0) s m args below meth c 7 0 0 (MQ below (QG E (fun v u => v = some (.int r.1) ∧ u = r.2)) args s 0 0 (pA E)) h 205 [(0, some (.ref v0)), (1, some (.int v1)), (2, some (.int v2)), (3, some (.int v3)), (4, some (.int v4))] [.int t0] := by
  unfold fX12_compare_b205 at hf
  refine p_istore X (dcg dc_X12_compare 111 rfl) (by decide) rfl ?_
  refine p_iload X (dcg dc_X12_compare 112 rfl) rfl ?_
  refine p_if_eq (tgt := 215) X (dcg dc_X12_compare 113 rfl) (by decide) (fun q => ?_) (fun q => ?_)
  · have hf := if_t q hf
    refine p_pick [0, 1, 2, 3, 4] ?_
    exact wX12_compare_b215 X hG hnm hf k0 kf
  · have hf := if_f q hf
    refine p_iload X (dcg dc_X12_compare 114 rfl) rfl ?_
    refine p_istore_n X (dcg dc_X12_compare 115 rfl) rfl (by decide) rfl ?_
    refine p_pick [0, 1, 2, 3, 4] ?_
    exact wX12_compare_b215 X hG hnm hf k0 kf
noncomputable def fX12_compare_b200 (v0 : Nat) (v1 : Int32) (v2 : Int32) (v3 : Int32) (v4 : Int32) (h : PH) : Option ((Int32 × Int32 × PH) ⊕ (Int32 × PH)) :=
  fX12_compare_b205 v0 v1 v2 v3 v4 (1 : Int32) h
set_option maxRecDepth 100000 in
theorem mX12_compare_b200 {v0 : Nat} {v1 : Int32} {v2 : Int32} {v3 : Int32} {v4 : Int32} {h : PH} {x : ((Int32 × Int32 × PH) ⊕ (Int32 × PH))} (hf : fX12_compare_b200 v0 v1 v2 v3 v4 h = some x) : (∀ w9 : (Int32 × Int32 × PH), x = .inl w9 → eqz h (hX (w9.2.2)) (hV (w9.2.2))) ∧ (∀ w9 : (Int32 × PH), x = .inr w9 → eqz h (hX w9.2) (hV w9.2)) := by
  unfold fX12_compare_b200 at hf
  have hle := eqz_rf h
  obtain ⟨c0, cf⟩ := mX12_compare_b205 hf
  exact ⟨fun z e => eqz_rt (c0 z (e)) hle, fun z e => eqz_rt (cf z (e)) hle⟩
set_option maxRecDepth 100000 in
theorem wX12_compare_b200 {E : PE} {p : Program} {l : Launch} {e : Env} {s : State} {m : MethodId} {args : Array Value} {below : List Frame} {meth : Method} {c : Code} (X : Cx E p l e (rmv 5 0 0) s m args below meth c RX12 cX12_compare 7 (some .int)) (hG : Gs E l) (hnm : meth.name = yX12_compare.name) {v0 : Nat} {v1 : Int32} {v2 : Int32} {v3 : Int32} {v4 : Int32} {h : PH} {r : (Int32 × PH)} {x : ((Int32 × Int32 × PH) ⊕ (Int32 × PH))} (hf : fX12_compare_b200 v0 v1 v2 v3 v4 h = some x) (k0 : ∀ z : (Int32 × Int32 × PH), x = .inl z → PW E p l e (rmv 5 0 0) s m args below meth c 7 0 0 (MQ below (QG E (fun v u => v = some (.int r.1) ∧ u = r.2)) args s 0 0 (pA E)) (z.2.2) 112 [(0, some (.ref v0)), (1, some (.int v1)), (2, some (.int v2)), (3, some (.int (z.1))), (4, some (.int (z.2.1)))] []) (kf : ∀ z : (Int32 × PH), x = .inr z → z = r) : PW E p l e (rmv 5 0 0) s m args below meth c 7 0 0 (MQ below (QG E (fun v u => v = some (.int r.1) ∧ u = r.2)) args s 0 0 (pA E)) h 200 [(0, some (.ref v0)), (1, some (.int v1)), (2, some (.int v2)), (3, some (.int v3)), (4, some (.int v4))] [] := by
  unfold fX12_compare_b200 at hf
  refine p_iconst (v := 1) X (dcg dc_X12_compare 108 rfl) (by decide) ?_
  refine p_goto (tgt := 205) X (dcg dc_X12_compare 109 rfl) (by decide) ?_
  refine p_pick [0, 1, 2, 3, 4] ?_
  exact wX12_compare_b205 X hG hnm hf k0 kf
noncomputable def fX12_compare_b204 (v0 : Nat) (v1 : Int32) (v2 : Int32) (v3 : Int32) (v4 : Int32) (h : PH) : Option ((Int32 × Int32 × PH) ⊕ (Int32 × PH)) :=
  fX12_compare_b205 v0 v1 v2 v3 v4 (0 : Int32) h
set_option maxRecDepth 100000 in
theorem mX12_compare_b204 {v0 : Nat} {v1 : Int32} {v2 : Int32} {v3 : Int32} {v4 : Int32} {h : PH} {x : ((Int32 × Int32 × PH) ⊕ (Int32 × PH))} (hf : fX12_compare_b204 v0 v1 v2 v3 v4 h = some x) : (∀ w9 : (Int32 × Int32 × PH), x = .inl w9 → eqz h (hX (w9.2.2)) (hV (w9.2.2))) ∧ (∀ w9 : (Int32 × PH), x = .inr w9 → eqz h (hX w9.2) (hV w9.2)) := by
  unfold fX12_compare_b204 at hf
  have hle := eqz_rf h
  obtain ⟨c0, cf⟩ := mX12_compare_b205 hf
  exact ⟨fun z e => eqz_rt (c0 z (e)) hle, fun z e => eqz_rt (cf z (e)) hle⟩
set_option maxRecDepth 100000 in
theorem wX12_compare_b204 {E : PE} {p : Program} {l : Launch} {e : Env} {s : State} {m : MethodId} {args : Array Value} {below : List Frame} {meth : Method} {c : Code} (X : Cx E p l e (rmv 5 0 0) s m args below meth c RX12 cX12_compare 7 (some .int)) (hG : Gs E l) (hnm : meth.name = yX12_compare.name) {v0 : Nat} {v1 : Int32} {v2 : Int32} {v3 : Int32} {v4 : Int32} {h : PH} {r : (Int32 × PH)} {x : ((Int32 × Int32 × PH) ⊕ (Int32 × PH))} (hf : fX12_compare_b204 v0 v1 v2 v3 v4 h = some x) (k0 : ∀ z : (Int32 × Int32 × PH), x = .inl z → PW E p l e (rmv 5 0 0) s m args below meth c 7 0 0 (MQ below (QG E (fun v u => v = some (.int r.1) ∧ u = r.2)) args s 0 0 (pA E)) (z.2.2) 112 [(0, some (.ref v0)), (1, some (.int v1)), (2, some (.int v2)), (3, some (.int (z.1))), (4, some (.int (z.2.1)))] []) (kf : ∀ z : (Int32 × PH), x = .inr z → z = r) : PW E p l e (rmv 5 0 0) s m args below meth c 7 0 0 (MQ below (QG E (fun v u => v = some (.int r.1) ∧ u = r.2)) args s 0 0 (pA E)) h 204 [(0, some (.ref v0)), (1, some (.int v1)), (2, some (.int v2)), (3, some (.int v3)), (4, some (.int v4))] [] := by
  unfold fX12_compare_b204 at hf
  refine p_iconst (v := 0) X (dcg dc_X12_compare 110 rfl) (by decide) ?_
  refine p_pick [0, 1, 2, 3, 4] ?_
  exact wX12_compare_b205 X hG hnm hf k0 kf
noncomputable def fX12_compare_b156 (v0 : Nat) (v1 : Int32) (v2 : Int32) (v3 : Int32) (v4 : Int32) (t0 : Int32) (h : PH) : Option ((Int32 × Int32 × PH) ⊕ (Int32 × PH)) :=
  if (v3 = (-1 : Int32)) then (fX12_compare_b200 v0 v1 v2 v3 v4 h) else
  bd (fX12_bits v4) (fun z52 =>
  bd (fX12_bits v3) (fun z53 =>
  if (z52 < z53) then (fX12_compare_b200 v0 v1 v2 v3 v4 h) else
  bd (fX12_bits v4) (fun z54 =>
  bd (fX12_bits v3) (fun z55 =>
  if (¬ z54 = z55) then (fX12_compare_b204 v0 v1 v2 v3 v4 h) else
  if (((v4 &&& t0) &&& ((0 : Int32) - t0)) = 0) then (fX12_compare_b204 v0 v1 v2 v3 v4 h) else
  fX12_compare_b200 v0 v1 v2 v3 v4 h))))
set_option maxRecDepth 100000 in
theorem mX12_compare_b156 {v0 : Nat} {v1 : Int32} {v2 : Int32} {v3 : Int32} {v4 : Int32} {t0 : Int32} {h : PH} {x : ((Int32 × Int32 × PH) ⊕ (Int32 × PH))} (hf : fX12_compare_b156 v0 v1 v2 v3 v4 t0 h = some x) : (∀ w9 : (Int32 × Int32 × PH), x = .inl w9 → eqz h (hX (w9.2.2)) (hV (w9.2.2))) ∧ (∀ w9 : (Int32 × PH), x = .inr w9 → eqz h (hX w9.2) (hV w9.2)) := by
  unfold fX12_compare_b156 at hf
  have hle := eqz_rf h
  rcases ite_or hf with ⟨q, hf⟩ | ⟨q, hf⟩
  · have hf := if_t q hf
    obtain ⟨c0, cf⟩ := mX12_compare_b200 hf
    exact ⟨fun z e => eqz_rt (c0 z (e)) hle, fun z e => eqz_rt (cf z (e)) hle⟩
  · have hf := if_f q hf
    obtain ⟨z52, hz52, hf⟩ := bd_some hf
    obtain ⟨z53, hz53, hf⟩ := bd_some hf
    rcases ite_or hf with ⟨q, hf⟩ | ⟨q, hf⟩
    · have hf := if_t q hf
      obtain ⟨c0, cf⟩ := mX12_compare_b200 hf
      exact ⟨fun z e => eqz_rt (c0 z (e)) hle, fun z e => eqz_rt (cf z (e)) hle⟩
    · have hf := if_f q hf
      obtain ⟨z54, hz54, hf⟩ := bd_some hf
      obtain ⟨z55, hz55, hf⟩ := bd_some hf
      rcases ite_or hf with ⟨q, hf⟩ | ⟨q, hf⟩
      · have hf := if_t q hf
        obtain ⟨c0, cf⟩ := mX12_compare_b204 hf
        exact ⟨fun z e => eqz_rt (c0 z (e)) hle, fun z e => eqz_rt (cf z (e)) hle⟩
      · have hf := if_f q hf
        rcases ite_or hf with ⟨q, hf⟩ | ⟨q, hf⟩
        · have hf := if_t q hf
          obtain ⟨c0, cf⟩ := mX12_compare_b204 hf
          exact ⟨fun z e => eqz_rt (c0 z (e)) hle, fun z e => eqz_rt (cf z (e)) hle⟩
        · have hf := if_f q hf
          obtain ⟨c0, cf⟩ := mX12_compare_b200 hf
          exact ⟨fun z e => eqz_rt (c0 z (e)) hle, fun z e => eqz_rt (cf z (e)) hle⟩
set_option maxRecDepth 100000 in
theorem wX12_compare_b156 {E : PE} {p : Program} {l : Launch} {e : Env} {s : State} {m : MethodId} {args : Array Value} {below : List Frame} {meth : Method} {c : Code} (X : Cx E p l e (rmv 5 0 0) s m args below meth c RX12 cX12_compare 7 (some .int)) (hG : Gs E l) (hnm : meth.name = yX12_compare.name) {v0 : Nat} {v1 : Int32} {v2 : Int32} {v3 : Int32} {v4 : Int32} {t0 : Int32} {h : PH} {r : (Int32 × PH)} {x : ((Int32 × Int32 × PH) ⊕ (Int32 × PH))} (hf : fX12_compare_b156 v0 v1 v2 v3 v4 t0 h = some x) (k0 : ∀ z : (Int32 × Int32 × PH), x = .inl z → PW E p l e (rmv 5 0 0) s m args below meth c 7 0 0 (MQ below (QG E (fun v u => v = some (.int r.1) ∧ u = r.2)) args s 0 0 (pA E)) (z.2.2) 112 [(0, some (.ref v0)), (1, some (.int v1)), (2, some (.int v2)), (3, some (.int (z.1))), (4, some (.int (z.2.1)))] []) (kf : ∀ z : (Int32 × PH), x = .inr z → z = r) : PW E p l e (rmv 5 0 0) s m args below meth c 7 0 0 (MQ below (QG E (fun v u => v = some (.int r.1) ∧ u = r.2)) args s 0 0 (pA E)) h 156 [(0, some (.ref v0)), (1, some (.int v1)), (2, some (.int v2)), (3, some (.int v3)), (4, some (.int v4))] [.int t0] := by
  unfold fX12_compare_b156 at hf
  refine p_istore X (dcg dc_X12_compare 86 rfl) (by decide) rfl ?_
  refine p_iload_n X (dcg dc_X12_compare 87 rfl) rfl rfl ?_
  refine p_iconst (v := -1) X (dcg dc_X12_compare 88 rfl) (by decide) ?_
  refine p_icmp_eq (tgt := 200) X (dcg dc_X12_compare 89 rfl) (by decide) (fun q => ?_) (fun q => ?_)
  · have hf := if_t q hf
    refine p_pick [0, 1, 2, 3, 4] ?_
    exact wX12_compare_b200 X hG hnm hf k0 kf
  · have hf := if_f q hf
    refine p_iload X (dcg dc_X12_compare 90 rfl) rfl ?_
    obtain ⟨z52, hz52, hf⟩ := bd_some hf
    refine p_callS (As := [_]) X ml_X12_415 (dcg dc_X12_compare 91 rfl) rfl rfl  (wX12_bits hG hz52) (by decide) (room4 (Nat.le_of_ble_eq_true rfl)) (Nat.le_refl _) (Nat.le_refl _) ?_
    rintro _ u9 ⟨rfl, e9⟩; have e9 := e9.symm; subst e9
    refine p_iload_n X (dcg dc_X12_compare 92 rfl) rfl rfl ?_
    obtain ⟨z53, hz53, hf⟩ := bd_some hf
    refine p_callS (As := [_]) X ml_X12_415 (dcg dc_X12_compare 93 rfl) rfl rfl  (wX12_bits hG hz53) (by decide) (room4 (Nat.le_of_ble_eq_true rfl)) (Nat.le_refl _) (Nat.le_refl _) ?_
    rintro _ u9 ⟨rfl, e9⟩; have e9 := e9.symm; subst e9
    refine p_icmp_lt (tgt := 200) X (dcg dc_X12_compare 94 rfl) (by decide) (fun q => ?_) (fun q => ?_)
    · have hf := if_t q hf
      refine p_pick [0, 1, 2, 3, 4] ?_
      exact wX12_compare_b200 X hG hnm hf k0 kf
    · have hf := if_f q hf
      refine p_iload X (dcg dc_X12_compare 95 rfl) rfl ?_
      obtain ⟨z54, hz54, hf⟩ := bd_some hf
      refine p_callS (As := [_]) X ml_X12_415 (dcg dc_X12_compare 96 rfl) rfl rfl  (wX12_bits hG hz54) (by decide) (room4 (Nat.le_of_ble_eq_true rfl)) (Nat.le_refl _) (Nat.le_refl _) ?_
      rintro _ u9 ⟨rfl, e9⟩; have e9 := e9.symm; subst e9
      refine p_iload_n X (dcg dc_X12_compare 97 rfl) rfl rfl ?_
      obtain ⟨z55, hz55, hf⟩ := bd_some hf
      refine p_callS (As := [_]) X ml_X12_415 (dcg dc_X12_compare 98 rfl) rfl rfl  (wX12_bits hG hz55) (by decide) (room4 (Nat.le_of_ble_eq_true rfl)) (Nat.le_refl _) (Nat.le_refl _) ?_
      rintro _ u9 ⟨rfl, e9⟩; have e9 := e9.symm; subst e9
      refine p_icmp_ne (tgt := 204) X (dcg dc_X12_compare 99 rfl) (by decide) (fun q => ?_) (fun q => ?_)
      · have hf := if_t q hf
        refine p_pick [0, 1, 2, 3, 4] ?_
        exact wX12_compare_b204 X hG hnm hf k0 kf
      · have hf := if_f q hf
        refine p_iload X (dcg dc_X12_compare 100 rfl) rfl ?_
        refine p_iload X (dcg dc_X12_compare 101 rfl) rfl ?_
        refine p_iand X (dcg dc_X12_compare 102 rfl) ?_
        refine p_iconst (v := 0) X (dcg dc_X12_compare 103 rfl) (by decide) ?_
        refine p_iload X (dcg dc_X12_compare 104 rfl) rfl ?_
        refine p_isub X (dcg dc_X12_compare 105 rfl) ?_
        refine p_iand X (dcg dc_X12_compare 106 rfl) ?_
        refine p_if_eq (tgt := 204) X (dcg dc_X12_compare 107 rfl) (by decide) (fun q => ?_) (fun q => ?_)
        · have hf := if_t q hf
          refine p_pick [0, 1, 2, 3, 4] ?_
          exact wX12_compare_b204 X hG hnm hf k0 kf
        · have hf := if_f q hf
          refine p_pick [0, 1, 2, 3, 4] ?_
          exact wX12_compare_b200 X hG hnm hf k0 kf
noncomputable def fX12_compare_c112 (v0 : Nat) (v1 : Int32) (v2 : Int32) (v3 : Int32) (v4 : Int32) (h : PH) : Option ((Int32 × Int32 × PH) ⊕ (Int32 × PH)) :=
  gd (hK h v0 = 12) (if (((1 : Int32) <<< ((hI h 12 v0 20) &&& 31)) ≤ v4) then (mr (if (¬ v3 = (-1 : Int32)) then (fX12_compare_b232 v0 v3 (some v0) (0 : Int32) h) else
  fX12_compare_b232 v0 v3 (some v0) (-1 : Int32) h)) else
  bd (fX12_holdsFor v0 v1 v4 h) (fun z49 =>
  gd (hK z49.2 v0 = 12) (bd (fX12_holdsFor v0 v2 v4 z49.2) (fun z51 =>
  if (¬ z49.1 = z51.1) then (if (¬ v3 = (-1 : Int32)) then (fX12_compare_b156 v0 v1 v2 v3 v4 (v4 ^^^ v3) z51.2) else
  fX12_compare_b156 v0 v1 v2 v3 v4 (0 : Int32) z51.2) else
  fX12_compare_b215 v0 v1 v2 v3 v4 z51.2))))
set_option maxRecDepth 100000 in
theorem mX12_compare_c112 {v0 : Nat} {v1 : Int32} {v2 : Int32} {v3 : Int32} {v4 : Int32} {h : PH} {x : ((Int32 × Int32 × PH) ⊕ (Int32 × PH))} (hf : fX12_compare_c112 v0 v1 v2 v3 v4 h = some x) : (∀ w9 : (Int32 × Int32 × PH), x = .inl w9 → eqz h (hX (w9.2.2)) (hV (w9.2.2))) ∧ (∀ w9 : (Int32 × PH), x = .inr w9 → eqz h (hX w9.2) (hV w9.2)) := by
  unfold fX12_compare_c112 at hf
  have hle := eqz_rf h
  obtain ⟨hk26, hf⟩ := gd_some hf
  rcases ite_or hf with ⟨q, hf⟩ | ⟨q, hf⟩
  · have hf := if_t q hf
    obtain ⟨y27, hfm, rfl⟩ := mr_some hf; have hf := hfm; clear hfm
    rcases ite_or hf with ⟨q, hf⟩ | ⟨q, hf⟩
    · have hf := if_t q hf
      have cf := mX12_compare_b232 hf
      exact ⟨(fun z e => nomatch e), (fun z e => by cases e <;> exact eqz_rt cf hle)⟩
    · have hf := if_f q hf
      have cf := mX12_compare_b232 hf
      exact ⟨(fun z e => nomatch e), (fun z e => by cases e <;> exact eqz_rt cf hle)⟩
  · have hf := if_f q hf
    obtain ⟨z49, hz49, hf⟩ := bd_some hf
    have hle := eqz_rt (mX12_holdsFor hz49) hle
    obtain ⟨hk50, hf⟩ := gd_some hf
    obtain ⟨z51, hz51, hf⟩ := bd_some hf
    have hle := eqz_rt (mX12_holdsFor hz51) hle
    rcases ite_or hf with ⟨q, hf⟩ | ⟨q, hf⟩
    · have hf := if_t q hf
      rcases ite_or hf with ⟨q, hf⟩ | ⟨q, hf⟩
      · have hf := if_t q hf
        obtain ⟨c0, cf⟩ := mX12_compare_b156 hf
        exact ⟨fun z e => eqz_rt (c0 z (e)) hle, fun z e => eqz_rt (cf z (e)) hle⟩
      · have hf := if_f q hf
        obtain ⟨c0, cf⟩ := mX12_compare_b156 hf
        exact ⟨fun z e => eqz_rt (c0 z (e)) hle, fun z e => eqz_rt (cf z (e)) hle⟩
    · have hf := if_f q hf
      obtain ⟨c0, cf⟩ := mX12_compare_b215 hf
      exact ⟨fun z e => eqz_rt (c0 z (e)) hle, fun z e => eqz_rt (cf z (e)) hle⟩
set_option maxRecDepth 100000 in
theorem wX12_compare_c112 {E : PE} {p : Program} {l : Launch} {e : Env} {s : State} {m : MethodId} {args : Array Value} {below : List Frame} {meth : Method} {c : Code} (X : Cx E p l e (rmv 5 0 0) s m args below meth c RX12 cX12_compare 7 (some .int)) (hG : Gs E l) (hnm : meth.name = yX12_compare.name) {v0 : Nat} {v1 : Int32} {v2 : Int32} {v3 : Int32} {v4 : Int32} {h : PH} {r : (Int32 × PH)} {x : ((Int32 × Int32 × PH) ⊕ (Int32 × PH))} (hf : fX12_compare_c112 v0 v1 v2 v3 v4 h = some x) (k0 : ∀ z : (Int32 × Int32 × PH), x = .inl z → PW E p l e (rmv 5 0 0) s m args below meth c 7 0 0 (MQ below (QG E (fun v u => v = some (.int r.1) ∧ u = r.2)) args s 0 0 (pA E)) (z.2.2) 112 [(0, some (.ref v0)), (1, some (.int v1)), (2, some (.int v2)), (3, some (.int (z.1))), (4, some (.int (z.2.1)))] []) (kf : ∀ z : (Int32 × PH), x = .inr z → z = r) : PW E p l e (rmv 5 0 0) s m args below meth c 7 0 0 (MQ below (QG E (fun v u => v = some (.int r.1) ∧ u = r.2)) args s 0 0 (pA E)) h 112 [(0, some (.ref v0)), (1, some (.int v1)), (2, some (.int v2)), (3, some (.int v3)), (4, some (.int v4))] [] := by
  unfold fX12_compare_c112 at hf
  refine p_iload X (dcg dc_X12_compare 62 rfl) rfl ?_
  refine p_iconst (v := 1) X (dcg dc_X12_compare 63 rfl) (by decide) ?_
  refine p_aload_n X (dcg dc_X12_compare 64 rfl) rfl rfl ?_
  obtain ⟨hk26, hf⟩ := gd_some hf
  refine p_getI X fl_X12_225 rfl (by decide) (dcg dc_X12_compare 65 rfl) hk26 ?_
  refine p_ishl X (dcg dc_X12_compare 66 rfl) ?_
  refine p_icmp_ge (tgt := 221) X (dcg dc_X12_compare 67 rfl) (by decide) (fun q => ?_) (fun q => ?_)
  · have hf := if_t q hf
    obtain ⟨y27, hf, hy28⟩ := mr_some hf
    have hy28f := kf y27 hy28
    subst hy28f
    refine p_aload_n X (dcg dc_X12_compare 118 rfl) rfl rfl ?_
    refine p_iload_n X (dcg dc_X12_compare 119 rfl) rfl rfl ?_
    refine p_iconst (v := -1) X (dcg dc_X12_compare 120 rfl) (by decide) ?_
    refine p_icmp_ne (tgt := 231) X (dcg dc_X12_compare 121 rfl) (by decide) (fun q => ?_) (fun q => ?_)
    · have hf := if_t q hf
      refine p_iconst (v := 0) X (dcg dc_X12_compare 124 rfl) (by decide) ?_
      refine p_pick [0, 3] ?_
      exact wX12_compare_b232 X hG hnm hf 
    · have hf := if_f q hf
      refine p_iconst (v := -1) X (dcg dc_X12_compare 122 rfl) (by decide) ?_
      refine p_goto (tgt := 232) X (dcg dc_X12_compare 123 rfl) (by decide) ?_
      refine p_pick [0, 3] ?_
      exact wX12_compare_b232 X hG hnm hf 
  · have hf := if_f q hf
    refine p_aload_n X (dcg dc_X12_compare 68 rfl) rfl rfl ?_
    refine p_iload_n X (dcg dc_X12_compare 69 rfl) rfl rfl ?_
    refine p_iload X (dcg dc_X12_compare 70 rfl) rfl ?_
    obtain ⟨z49, hz49, hf⟩ := bd_some hf
    refine p_callV (As := [_, _]) X ml_X12_412 (dcg dc_X12_compare 71 rfl) rfl rfl hk26 (wX12_holdsFor hG hz49) (by decide) (room4 (Nat.le_of_ble_eq_true rfl)) (Nat.le_refl _) (Nat.le_refl _) ?_
    rintro _ u9 ⟨rfl, e9⟩; have e9 := e9.symm; subst e9
    refine p_aload_n X (dcg dc_X12_compare 72 rfl) rfl rfl ?_
    refine p_iload_n X (dcg dc_X12_compare 73 rfl) rfl rfl ?_
    refine p_iload X (dcg dc_X12_compare 74 rfl) rfl ?_
    obtain ⟨hk50, hf⟩ := gd_some hf
    obtain ⟨z51, hz51, hf⟩ := bd_some hf
    refine p_callV (As := [_, _]) X ml_X12_412 (dcg dc_X12_compare 75 rfl) rfl rfl hk50 (wX12_holdsFor hG hz51) (by decide) (room4 (Nat.le_of_ble_eq_true rfl)) (Nat.le_refl _) (Nat.le_refl _) ?_
    rintro _ u9 ⟨rfl, e9⟩; have e9 := e9.symm; subst e9
    refine p_icmp_ne (tgt := 143) X (dcg dc_X12_compare 76 rfl) (by decide) (fun q => ?_) (fun q => ?_)
    · have hf := if_t q hf
      refine p_iload_n X (dcg dc_X12_compare 78 rfl) rfl rfl ?_
      refine p_iconst (v := -1) X (dcg dc_X12_compare 79 rfl) (by decide) ?_
      refine p_icmp_ne (tgt := 152) X (dcg dc_X12_compare 80 rfl) (by decide) (fun q => ?_) (fun q => ?_)
      · have hf := if_t q hf
        refine p_iload X (dcg dc_X12_compare 83 rfl) rfl ?_
        refine p_iload_n X (dcg dc_X12_compare 84 rfl) rfl rfl ?_
        refine p_ixor X (dcg dc_X12_compare 85 rfl) ?_
        refine p_pick [0, 1, 2, 3, 4] ?_
        exact wX12_compare_b156 X hG hnm hf k0 kf
      · have hf := if_f q hf
        refine p_iconst (v := 0) X (dcg dc_X12_compare 81 rfl) (by decide) ?_
        refine p_goto (tgt := 156) X (dcg dc_X12_compare 82 rfl) (by decide) ?_
        refine p_pick [0, 1, 2, 3, 4] ?_
        exact wX12_compare_b156 X hG hnm hf k0 kf
    · have hf := if_f q hf
      refine p_goto (tgt := 215) X (dcg dc_X12_compare 77 rfl) (by decide) ?_
      refine p_pick [0, 1, 2, 3, 4] ?_
      exact wX12_compare_b215 X hG hnm hf k0 kf
noncomputable def fX12_compare_l112 (v0 : Nat) (v1 : Int32) (v2 : Int32) (v3 : Int32) (v4 : Int32) (h : PH) : Option (Int32 × PH) := wh (fun z : (Int32 × Int32 × PH) => fX12_compare_c112 v0 v1 v2 (z.1) (z.2.1) (z.2.2)) (v3, v4, h)
set_option maxRecDepth 100000 in
theorem mX12_compare_l112 {v0 : Nat} {v1 : Int32} {v2 : Int32} {v3 : Int32} {v4 : Int32} {h : PH} {r : (Int32 × PH)} (hf : fX12_compare_l112 v0 v1 v2 v3 v4 h = some r) : eqz h (hX r.2) (hV r.2) := by
  unfold fX12_compare_l112 at hf
  refine wh_ind (P := fun z => eqz (z.2.2) (hX r.2) (hV r.2)) (fun z x0 hs i1 i2 => ?_) _ hf
  obtain ⟨c0, cf⟩ := mX12_compare_c112 (v0 := v0) (v1 := v1) (v2 := v2) (v3 := z.1) (v4 := z.2.1) (h := z.2.2) hs
  rcases hxx : x0 with zz | zz
  · exact eqz_tr (c0 zz hxx) (i1 zz hxx)
  · have ee := i2 zz hxx; subst ee; exact cf zz hxx
set_option maxRecDepth 100000 in
theorem wX12_compare_l112 {E : PE} {p : Program} {l : Launch} {e : Env} {s : State} {m : MethodId} {args : Array Value} {below : List Frame} {meth : Method} {c : Code} (X : Cx E p l e (rmv 5 0 0) s m args below meth c RX12 cX12_compare 7 (some .int)) (hG : Gs E l) (hnm : meth.name = yX12_compare.name) {v0 : Nat} {v1 : Int32} {v2 : Int32} {v3 : Int32} {v4 : Int32} {h : PH} {r : (Int32 × PH)} (hf : fX12_compare_l112 v0 v1 v2 v3 v4 h = some r)  : PW E p l e (rmv 5 0 0) s m args below meth c 7 0 0 (MQ below (QG E (fun v u => v = some (.int r.1) ∧ u = r.2)) args s 0 0 (pA E)) h 112 [(0, some (.ref v0)), (1, some (.int v1)), (2, some (.int v2)), (3, some (.int v3)), (4, some (.int v4))] [] := by
  unfold fX12_compare_l112 at hf
  refine wh_ind (P := fun z => PW E p l e (rmv 5 0 0) s m args below meth c 7 0 0 (MQ below (QG E (fun v u => v = some (.int r.1) ∧ u = r.2)) args s 0 0 (pA E)) (z.2.2) 112 [(0, some (.ref v0)), (1, some (.int v1)), (2, some (.int v2)), (3, some (.int (z.1))), (4, some (.int (z.2.1)))] []) (fun z x0 hs i1 i2 => ?_) _ hf
  exact wX12_compare_c112 (r := r) (v0 := v0) (v1 := v1) (v2 := v2) (v3 := z.1) (v4 := z.2.1) (h := z.2.2) X hG hnm hs i1  i2
noncomputable def fX12_compare_b98 (v0 : Nat) (v1 : Int32) (v2 : Int32) (t0 : Option Nat) (t1 : Int32) (h : PH) : Option (Int32 × PH) :=
  gs t0 (fun a22 =>
  gd (hK h a22 = 12) (bd (fX12_fails a22 t1 (3 : Int32) h) (fun z25 =>
  if (z25.1 = 0) then (fX12_compare_l112 v0 v1 v2 (-1 : Int32) (0 : Int32) z25.2) else
  some (((0 : Int32), z25.2)))))
set_option maxRecDepth 100000 in
theorem mX12_compare_b98 {v0 : Nat} {v1 : Int32} {v2 : Int32} {t0 : Option Nat} {t1 : Int32} {h : PH} {r : (Int32 × PH)} (hf : fX12_compare_b98 v0 v1 v2 t0 t1 h = some r) : eqz h (hX r.2) (hV r.2) := by
  unfold fX12_compare_b98 at hf
  have hle := eqz_rf h
  obtain ⟨a22, e23, hf⟩ := gs_some hf
  obtain ⟨hk24, hf⟩ := gd_some hf
  obtain ⟨z25, hz25, hf⟩ := bd_some hf
  have hle := eqz_rt (mX12_fails hz25) hle
  rcases ite_or hf with ⟨q, hf⟩ | ⟨q, hf⟩
  · have hf := if_t q hf
    exact eqz_rt (mX12_compare_l112 hf) hle
  · have hf := if_f q hf
    have ee := Option.some.inj hf; subst ee; exact hle
set_option maxRecDepth 100000 in
theorem wX12_compare_b98 {E : PE} {p : Program} {l : Launch} {e : Env} {s : State} {m : MethodId} {args : Array Value} {below : List Frame} {meth : Method} {c : Code} (X : Cx E p l e (rmv 5 0 0) s m args below meth c RX12 cX12_compare 7 (some .int)) (hG : Gs E l) (hnm : meth.name = yX12_compare.name) {v0 : Nat} {v1 : Int32} {v2 : Int32} {t0 : Option Nat} {t1 : Int32} {h : PH} {r : (Int32 × PH)} (hf : fX12_compare_b98 v0 v1 v2 t0 t1 h = some r)  : PW E p l e (rmv 5 0 0) s m args below meth c 7 0 0 (MQ below (QG E (fun v u => v = some (.int r.1) ∧ u = r.2)) args s 0 0 (pA E)) h 98 [(0, some (.ref v0)), (1, some (.int v1)), (2, some (.int v2))] [.int t1, va_rf t0] := by
  unfold fX12_compare_b98 at hf
  refine p_iconst (v := 3) X (dcg dc_X12_compare 53 rfl) (by decide) ?_
  obtain ⟨a22, e23, hf⟩ := gs_some hf
  first | subst e23 | (try rw [e23])
  obtain ⟨hk24, hf⟩ := gd_some hf
  obtain ⟨z25, hz25, hf⟩ := bd_some hf
  refine p_callV (As := [_, _]) X ml_X12_156 (dcg dc_X12_compare 54 rfl) rfl rfl hk24 (wX12_fails hG hz25) (by decide) (room4 (Nat.le_of_ble_eq_true rfl)) (Nat.le_refl _) (Nat.le_refl _) ?_
  rintro _ u9 ⟨rfl, e9⟩; have e9 := e9.symm; subst e9
  refine p_if_eq (tgt := 107) X (dcg dc_X12_compare 55 rfl) (by decide) (fun q => ?_) (fun q => ?_)
  · have hf := if_t q hf
    refine p_iconst (v := -1) X (dcg dc_X12_compare 58 rfl) (by decide) ?_
    refine p_istore_n X (dcg dc_X12_compare 59 rfl) rfl (by decide) rfl ?_
    refine p_iconst (v := 0) X (dcg dc_X12_compare 60 rfl) (by decide) ?_
    refine p_istore X (dcg dc_X12_compare 61 rfl) (by decide) rfl ?_
    refine p_pick [0, 1, 2, 3, 4] ?_
    exact wX12_compare_l112 X hG hnm hf 
  · have hf := if_f q hf
    refine p_iconst (v := 0) X (dcg dc_X12_compare 56 rfl) (by decide) ?_
    have er := Option.some.inj hf
    subst er
    exact p_iret X rfl (dcg dc_X12_compare 57 rfl) ⟨rfl, rfl⟩ (Nat.le_refl _) (Nat.le_refl _)
noncomputable def fX12_compare_b59 (v0 : Nat) (v1 : Int32) (v2 : Int32) (t0 : Option Nat) (t1 : Int32) (h : PH) : Option (Int32 × PH) :=
  gs t0 (fun a12 =>
  gd (hK h a12 = 12) (bd (fX12_fails a12 t1 (3 : Int32) h) (fun z15 =>
  if (z15.1 = 0) then (gd (hK z15.2 v0 = 12) (lt (sI z15.2 12 v0 20 (0 : Int32)) (fun h17 =>
  bd (fX12_takesWords v0 v1 h17) (fun z18 =>
  gd (hK z18 v0 = 12) (bd (fX12_takesWords v0 v2 z18) (fun z20 =>
  gd (hK z20 v0 = 12) (if ((10 : Int32) < (hI z20 12 v0 20)) then (fX12_compare_b98 v0 v1 v2 (some v0) (0 : Int32) z20) else
  fX12_compare_b98 v0 v1 v2 (some v0) (1 : Int32) z20))))))) else
  fX12_compare_b66  z15.2)))
set_option maxRecDepth 100000 in
theorem mX12_compare_b59 {v0 : Nat} {v1 : Int32} {v2 : Int32} {t0 : Option Nat} {t1 : Int32} {h : PH} {r : (Int32 × PH)} (hf : fX12_compare_b59 v0 v1 v2 t0 t1 h = some r) : eqz h (hX r.2) (hV r.2) := by
  unfold fX12_compare_b59 at hf
  have hle := eqz_rf h
  obtain ⟨a12, e13, hf⟩ := gs_some hf
  obtain ⟨hk14, hf⟩ := gd_some hf
  obtain ⟨z15, hz15, hf⟩ := bd_some hf
  have hle := eqz_rt (mX12_fails hz15) hle
  rcases ite_or hf with ⟨q, hf⟩ | ⟨q, hf⟩
  · have hf := if_t q hf
    obtain ⟨hk16, hf⟩ := gd_some hf
    obtain ⟨h17, rfl, hf⟩ := lt_some hf
    obtain ⟨z18, hz18, hf⟩ := bd_some hf
    have hle := eqz_rt (mX12_takesWords hz18) hle
    obtain ⟨hk19, hf⟩ := gd_some hf
    obtain ⟨z20, hz20, hf⟩ := bd_some hf
    have hle := eqz_rt (mX12_takesWords hz20) hle
    obtain ⟨hk21, hf⟩ := gd_some hf
    rcases ite_or hf with ⟨q, hf⟩ | ⟨q, hf⟩
    · have hf := if_t q hf
      exact eqz_rt (mX12_compare_b98 hf) hle
    · have hf := if_f q hf
      exact eqz_rt (mX12_compare_b98 hf) hle
  · have hf := if_f q hf
    exact eqz_rt (mX12_compare_b66 hf) hle
set_option maxRecDepth 100000 in
theorem wX12_compare_b59 {E : PE} {p : Program} {l : Launch} {e : Env} {s : State} {m : MethodId} {args : Array Value} {below : List Frame} {meth : Method} {c : Code} (X : Cx E p l e (rmv 5 0 0) s m args below meth c RX12 cX12_compare 7 (some .int)) (hG : Gs E l) (hnm : meth.name = yX12_compare.name) {v0 : Nat} {v1 : Int32} {v2 : Int32} {t0 : Option Nat} {t1 : Int32} {h : PH} {r : (Int32 × PH)} (hf : fX12_compare_b59 v0 v1 v2 t0 t1 h = some r)  : PW E p l e (rmv 5 0 0) s m args below meth c 7 0 0 (MQ below (QG E (fun v u => v = some (.int r.1) ∧ u = r.2)) args s 0 0 (pA E)) h 59 [(0, some (.ref v0)), (1, some (.int v1)), (2, some (.int v2))] [.int t1, va_rf t0] := by
  unfold fX12_compare_b59 at hf
  refine p_iconst (v := 3) X (dcg dc_X12_compare 31 rfl) (by decide) ?_
  obtain ⟨a12, e13, hf⟩ := gs_some hf
  first | subst e13 | (try rw [e13])
  obtain ⟨hk14, hf⟩ := gd_some hf
  obtain ⟨z15, hz15, hf⟩ := bd_some hf
  refine p_callV (As := [_, _]) X ml_X12_156 (dcg dc_X12_compare 32 rfl) rfl rfl hk14 (wX12_fails hG hz15) (by decide) (room4 (Nat.le_of_ble_eq_true rfl)) (Nat.le_refl _) (Nat.le_refl _) ?_
  rintro _ u9 ⟨rfl, e9⟩; have e9 := e9.symm; subst e9
  refine p_if_eq (tgt := 68) X (dcg dc_X12_compare 33 rfl) (by decide) (fun q => ?_) (fun q => ?_)
  · have hf := if_t q hf
    refine p_aload_n X (dcg dc_X12_compare 36 rfl) rfl rfl ?_
    refine p_iconst (v := 0) X (dcg dc_X12_compare 37 rfl) (by decide) ?_
    obtain ⟨hk16, hf⟩ := gd_some hf
    refine p_putI X fl_X12_225 rfl (by decide) (fun q hq => by cases hq; rfl) rfl rfl (dcg dc_X12_compare 38 rfl) hk16 ?_
    obtain ⟨h17, rfl, hf⟩ := lt_some hf
    refine p_aload_n X (dcg dc_X12_compare 39 rfl) rfl rfl ?_
    refine p_iload_n X (dcg dc_X12_compare 40 rfl) rfl rfl ?_
    obtain ⟨z18, hz18, hf⟩ := bd_some hf
    refine p_callV (As := [_]) X ml_X12_409 (dcg dc_X12_compare 41 rfl) rfl rfl hk16 (wX12_takesWords hG hz18) (by decide) (room4 (Nat.le_of_ble_eq_true rfl)) (Nat.le_refl _) (Nat.le_refl _) ?_
    rintro _ u9 ⟨rfl, e9⟩; have e9 := e9.symm; subst e9
    refine p_aload_n X (dcg dc_X12_compare 42 rfl) rfl rfl ?_
    refine p_iload_n X (dcg dc_X12_compare 43 rfl) rfl rfl ?_
    obtain ⟨hk19, hf⟩ := gd_some hf
    obtain ⟨z20, hz20, hf⟩ := bd_some hf
    refine p_callV (As := [_]) X ml_X12_409 (dcg dc_X12_compare 44 rfl) rfl rfl hk19 (wX12_takesWords hG hz20) (by decide) (room4 (Nat.le_of_ble_eq_true rfl)) (Nat.le_refl _) (Nat.le_refl _) ?_
    rintro _ u9 ⟨rfl, e9⟩; have e9 := e9.symm; subst e9
    refine p_aload_n X (dcg dc_X12_compare 45 rfl) rfl rfl ?_
    refine p_aload_n X (dcg dc_X12_compare 46 rfl) rfl rfl ?_
    obtain ⟨hk21, hf⟩ := gd_some hf
    refine p_getI X fl_X12_225 rfl (by decide) (dcg dc_X12_compare 47 rfl) hk21 ?_
    refine p_bipush (v := 10) X (dcg dc_X12_compare 48 rfl) (by decide) ?_
    refine p_icmp_gt (tgt := 97) X (dcg dc_X12_compare 49 rfl) (by decide) (fun q => ?_) (fun q => ?_)
    · have hf := if_t q hf
      refine p_iconst (v := 0) X (dcg dc_X12_compare 52 rfl) (by decide) ?_
      refine p_pick [0, 1, 2] ?_
      exact wX12_compare_b98 X hG hnm hf 
    · have hf := if_f q hf
      refine p_iconst (v := 1) X (dcg dc_X12_compare 50 rfl) (by decide) ?_
      refine p_goto (tgt := 98) X (dcg dc_X12_compare 51 rfl) (by decide) ?_
      refine p_pick [0, 1, 2] ?_
      exact wX12_compare_b98 X hG hnm hf 
  · have hf := if_f q hf
    refine p_pick [] ?_
    exact wX12_compare_b66 X hG hnm hf 
noncomputable def fX12_compare_b58 (v0 : Nat) (v1 : Int32) (v2 : Int32) (t0 : Option Nat) (h : PH) : Option (Int32 × PH) :=
  fX12_compare_b59 v0 v1 v2 t0 (0 : Int32) h
set_option maxRecDepth 100000 in
theorem mX12_compare_b58 {v0 : Nat} {v1 : Int32} {v2 : Int32} {t0 : Option Nat} {h : PH} {r : (Int32 × PH)} (hf : fX12_compare_b58 v0 v1 v2 t0 h = some r) : eqz h (hX r.2) (hV r.2) := by
  unfold fX12_compare_b58 at hf
  have hle := eqz_rf h
  exact eqz_rt (mX12_compare_b59 hf) hle
set_option maxRecDepth 100000 in
theorem wX12_compare_b58 {E : PE} {p : Program} {l : Launch} {e : Env} {s : State} {m : MethodId} {args : Array Value} {below : List Frame} {meth : Method} {c : Code} (X : Cx E p l e (rmv 5 0 0) s m args below meth c RX12 cX12_compare 7 (some .int)) (hG : Gs E l) (hnm : meth.name = yX12_compare.name) {v0 : Nat} {v1 : Int32} {v2 : Int32} {t0 : Option Nat} {h : PH} {r : (Int32 × PH)} (hf : fX12_compare_b58 v0 v1 v2 t0 h = some r)  : PW E p l e (rmv 5 0 0) s m args below meth c 7 0 0 (MQ below (QG E (fun v u => v = some (.int r.1) ∧ u = r.2)) args s 0 0 (pA E)) h 58 [(0, some (.ref v0)), (1, some (.int v1)), (2, some (.int v2))] [va_rf t0] := by
  unfold fX12_compare_b58 at hf
  refine p_iconst (v := 0) X (dcg dc_X12_compare 30 rfl) (by decide) ?_
  refine p_pick [0, 1, 2] ?_
  exact wX12_compare_b59 X hG hnm hf 
noncomputable def fX12_compare (v0 : Nat) (v1 : Int32) (v2 : Int32) (h : PH) : Option (Int32 × PH) :=
  gd (hK h v0 = 12) (lt (sI h 12 v0 0 (0 : Int32)) (fun h2 =>
  bd (fX12_noQuery v0 v1 h2) (fun z3 =>
  if (¬ z3.1 = 0) then (fX12_compare_b66  z3.2) else
  gd (hK z3.2 v0 = 12) (bd (fX12_noQuery v0 v2 z3.2) (fun z5 =>
  if (¬ z5.1 = 0) then (fX12_compare_b66  z5.2) else
  gd (hK z5.2 v0 = 12) (bd (fX12_noKept v0 v1 z5.2) (fun z7 =>
  if (¬ z7.1 = 0) then (fX12_compare_b66  z7.2) else
  gd (hK z7.2 v0 = 12) (bd (fX12_noKept v0 v2 z7.2) (fun z9 =>
  if (¬ z9.1 = 0) then (fX12_compare_b66  z9.2) else
  gd (hK z9.2 v0 = 12) (bd (fX12_isOfWords v0 v1 z9.2) (fun z11 =>
  if (z11 = 0) then (fX12_compare_b58 v0 v1 v2 (some v0) z9.2) else
  bd (fX12_isOfWords v0 v2 z9.2) (fun z56 =>
  if (z56 = 0) then (fX12_compare_b58 v0 v1 v2 (some v0) z9.2) else
  fX12_compare_b59 v0 v1 v2 (some v0) (1 : Int32) z9.2))))))))))))
set_option maxRecDepth 100000 in
theorem mX12_compare {v0 : Nat} {v1 : Int32} {v2 : Int32} {h : PH} {r : (Int32 × PH)} (hf : fX12_compare v0 v1 v2 h = some r) : eqz h (hX r.2) (hV r.2) := by
  unfold fX12_compare at hf
  have hle := eqz_rf h
  obtain ⟨hk1, hf⟩ := gd_some hf
  obtain ⟨h2, rfl, hf⟩ := lt_some hf
  obtain ⟨z3, hz3, hf⟩ := bd_some hf
  have hle := eqz_rt (mX12_noQuery hz3) hle
  rcases ite_or hf with ⟨q, hf⟩ | ⟨q, hf⟩
  · have hf := if_t q hf
    exact eqz_rt (mX12_compare_b66 hf) hle
  · have hf := if_f q hf
    obtain ⟨hk4, hf⟩ := gd_some hf
    obtain ⟨z5, hz5, hf⟩ := bd_some hf
    have hle := eqz_rt (mX12_noQuery hz5) hle
    rcases ite_or hf with ⟨q, hf⟩ | ⟨q, hf⟩
    · have hf := if_t q hf
      exact eqz_rt (mX12_compare_b66 hf) hle
    · have hf := if_f q hf
      obtain ⟨hk6, hf⟩ := gd_some hf
      obtain ⟨z7, hz7, hf⟩ := bd_some hf
      have hle := eqz_rt (mX12_noKept hz7) hle
      rcases ite_or hf with ⟨q, hf⟩ | ⟨q, hf⟩
      · have hf := if_t q hf
        exact eqz_rt (mX12_compare_b66 hf) hle
      · have hf := if_f q hf
        obtain ⟨hk8, hf⟩ := gd_some hf
        obtain ⟨z9, hz9, hf⟩ := bd_some hf
        have hle := eqz_rt (mX12_noKept hz9) hle
        rcases ite_or hf with ⟨q, hf⟩ | ⟨q, hf⟩
        · have hf := if_t q hf
          exact eqz_rt (mX12_compare_b66 hf) hle
        · have hf := if_f q hf
          obtain ⟨hk10, hf⟩ := gd_some hf
          obtain ⟨z11, hz11, hf⟩ := bd_some hf
          rcases ite_or hf with ⟨q, hf⟩ | ⟨q, hf⟩
          · have hf := if_t q hf
            exact eqz_rt (mX12_compare_b58 hf) hle
          · have hf := if_f q hf
            obtain ⟨z56, hz56, hf⟩ := bd_some hf
            rcases ite_or hf with ⟨q, hf⟩ | ⟨q, hf⟩
            · have hf := if_t q hf
              exact eqz_rt (mX12_compare_b58 hf) hle
            · have hf := if_f q hf
              exact eqz_rt (mX12_compare_b59 hf) hle
set_option maxRecDepth 100000 in
theorem wX12_compare {E : PE} {l : Launch} (hG : Gs E l) {v0 : Nat} {v1 : Int32} {v2 : Int32} {h : PH} {r : (Int32 × PH)} (hf : fX12_compare v0 v1 v2 h = some r) : Ct E l 5 0 0 yX12_compare cX12_compare 7 (some .int) [.ref v0, .int v1, .int v2] h (fun v u => v = some (.int r.1) ∧ u = r.2) := by
  refine ct_of hG (by decide) (Nat.le_of_ble_eq_true rfl) ?_
  intro p e s m args below meth c X hnm
  show PW E p l e _ s m args below meth c _ 0 0 _ h 0 [(0, some (.ref v0)), (1, some (.int v1)), (2, some (.int v2))] []
  unfold fX12_compare at hf
  refine p_aload_n X (dcg dc_X12_compare 0 rfl) rfl rfl ?_
  refine p_iconst (v := 0) X (dcg dc_X12_compare 1 rfl) (by decide) ?_
  obtain ⟨hk1, hf⟩ := gd_some hf
  refine p_putI X fl_X12_1 rfl (by decide) (fun q hq => by cases hq; rfl) rfl rfl (dcg dc_X12_compare 2 rfl) hk1 ?_
  obtain ⟨h2, rfl, hf⟩ := lt_some hf
  refine p_aload_n X (dcg dc_X12_compare 3 rfl) rfl rfl ?_
  refine p_iload_n X (dcg dc_X12_compare 4 rfl) rfl rfl ?_
  obtain ⟨z3, hz3, hf⟩ := bd_some hf
  refine p_callV (As := [_]) X ml_X12_358 (dcg dc_X12_compare 5 rfl) rfl rfl hk1 (wX12_noQuery hG hz3) (by decide) (room4 (Nat.le_of_ble_eq_true rfl)) (Nat.le_refl _) (Nat.le_refl _) ?_
  rintro _ u9 ⟨rfl, e9⟩; have e9 := e9.symm; subst e9
  refine p_if_ne (tgt := 66) X (dcg dc_X12_compare 6 rfl) (by decide) (fun q => ?_) (fun q => ?_)
  · have hf := if_t q hf
    refine p_pick [] ?_
    exact wX12_compare_b66 X hG hnm hf 
  · have hf := if_f q hf
    refine p_aload_n X (dcg dc_X12_compare 7 rfl) rfl rfl ?_
    refine p_iload_n X (dcg dc_X12_compare 8 rfl) rfl rfl ?_
    obtain ⟨hk4, hf⟩ := gd_some hf
    obtain ⟨z5, hz5, hf⟩ := bd_some hf
    refine p_callV (As := [_]) X ml_X12_358 (dcg dc_X12_compare 9 rfl) rfl rfl hk4 (wX12_noQuery hG hz5) (by decide) (room4 (Nat.le_of_ble_eq_true rfl)) (Nat.le_refl _) (Nat.le_refl _) ?_
    rintro _ u9 ⟨rfl, e9⟩; have e9 := e9.symm; subst e9
    refine p_if_ne (tgt := 66) X (dcg dc_X12_compare 10 rfl) (by decide) (fun q => ?_) (fun q => ?_)
    · have hf := if_t q hf
      refine p_pick [] ?_
      exact wX12_compare_b66 X hG hnm hf 
    · have hf := if_f q hf
      refine p_aload_n X (dcg dc_X12_compare 11 rfl) rfl rfl ?_
      refine p_iload_n X (dcg dc_X12_compare 12 rfl) rfl rfl ?_
      obtain ⟨hk6, hf⟩ := gd_some hf
      obtain ⟨z7, hz7, hf⟩ := bd_some hf
      refine p_callV (As := [_]) X ml_X12_361 (dcg dc_X12_compare 13 rfl) rfl rfl hk6 (wX12_noKept hG hz7) (by decide) (room4 (Nat.le_of_ble_eq_true rfl)) (Nat.le_refl _) (Nat.le_refl _) ?_
      rintro _ u9 ⟨rfl, e9⟩; have e9 := e9.symm; subst e9
      refine p_if_ne (tgt := 66) X (dcg dc_X12_compare 14 rfl) (by decide) (fun q => ?_) (fun q => ?_)
      · have hf := if_t q hf
        refine p_pick [] ?_
        exact wX12_compare_b66 X hG hnm hf 
      · have hf := if_f q hf
        refine p_aload_n X (dcg dc_X12_compare 15 rfl) rfl rfl ?_
        refine p_iload_n X (dcg dc_X12_compare 16 rfl) rfl rfl ?_
        obtain ⟨hk8, hf⟩ := gd_some hf
        obtain ⟨z9, hz9, hf⟩ := bd_some hf
        refine p_callV (As := [_]) X ml_X12_361 (dcg dc_X12_compare 17 rfl) rfl rfl hk8 (wX12_noKept hG hz9) (by decide) (room4 (Nat.le_of_ble_eq_true rfl)) (Nat.le_refl _) (Nat.le_refl _) ?_
        rintro _ u9 ⟨rfl, e9⟩; have e9 := e9.symm; subst e9
        refine p_if_ne (tgt := 66) X (dcg dc_X12_compare 18 rfl) (by decide) (fun q => ?_) (fun q => ?_)
        · have hf := if_t q hf
          refine p_pick [] ?_
          exact wX12_compare_b66 X hG hnm hf 
        · have hf := if_f q hf
          refine p_aload_n X (dcg dc_X12_compare 19 rfl) rfl rfl ?_
          refine p_aload_n X (dcg dc_X12_compare 20 rfl) rfl rfl ?_
          refine p_iload_n X (dcg dc_X12_compare 21 rfl) rfl rfl ?_
          obtain ⟨hk10, hf⟩ := gd_some hf
          obtain ⟨z11, hz11, hf⟩ := bd_some hf
          refine p_callV (As := [_]) X ml_X12_406 (dcg dc_X12_compare 22 rfl) rfl rfl hk10 (wX12_isOfWords hG hz11) (by decide) (room4 (Nat.le_of_ble_eq_true rfl)) (Nat.le_refl _) (Nat.le_refl _) ?_
          rintro _ u9 ⟨rfl, e9⟩; have e9 := e9.symm; subst e9
          refine p_if_eq (tgt := 58) X (dcg dc_X12_compare 23 rfl) (by decide) (fun q => ?_) (fun q => ?_)
          · have hf := if_t q hf
            refine p_pick [0, 1, 2] ?_
            exact wX12_compare_b58 X hG hnm hf 
          · have hf := if_f q hf
            refine p_aload_n X (dcg dc_X12_compare 24 rfl) rfl rfl ?_
            refine p_iload_n X (dcg dc_X12_compare 25 rfl) rfl rfl ?_
            obtain ⟨z56, hz56, hf⟩ := bd_some hf
            refine p_callV (As := [_]) X ml_X12_406 (dcg dc_X12_compare 26 rfl) rfl rfl hk10 (wX12_isOfWords hG hz56) (by decide) (room4 (Nat.le_of_ble_eq_true rfl)) (Nat.le_refl _) (Nat.le_refl _) ?_
            rintro _ u9 ⟨rfl, e9⟩; have e9 := e9.symm; subst e9
            refine p_if_eq (tgt := 58) X (dcg dc_X12_compare 27 rfl) (by decide) (fun q => ?_) (fun q => ?_)
            · have hf := if_t q hf
              refine p_pick [0, 1, 2] ?_
              exact wX12_compare_b58 X hG hnm hf 
            · have hf := if_f q hf
              refine p_iconst (v := 1) X (dcg dc_X12_compare 28 rfl) (by decide) ?_
              refine p_goto (tgt := 59) X (dcg dc_X12_compare 29 rfl) (by decide) ?_
              refine p_pick [0, 1, 2] ?_
              exact wX12_compare_b59 X hG hnm hf 
theorem dc_X12_differAt : decs cX12_differAt [(0, .aload_n 0, 1), (1, .iconst 0, 1), (2, .putfield 1, 3), (5, .iload_n 1, 1), (6, .iconst 0, 1), (7, .aload_n 0, 1), (8, .getfield 141, 3), (11, .iconst 1, 1), (12, .isub, 1), (13, .invokestatic 148, 3), (16, .ifCond .eq 12, 3), (19, .aload_n 0, 1), (20, .getfield 138, 3), (23, .iload_n 1, 1), (24, .iaload, 1), (25, .goto 4, 3), (28, .iconst (-1), 1), (29, .ireturn, 1)] = true := by decide +kernel
noncomputable def fX12_differAt_b29 (t0 : Int32) (h : PH) : Option (Int32 × PH) :=
  some ((t0, h))
set_option maxRecDepth 100000 in
theorem mX12_differAt_b29 {t0 : Int32} {h : PH} {r : (Int32 × PH)} (hf : fX12_differAt_b29 t0 h = some r) : eqz h (hX r.2) (hV r.2) := by
  unfold fX12_differAt_b29 at hf
  have hle := eqz_rf h
  have ee := Option.some.inj hf; subst ee; exact hle
set_option maxRecDepth 100000 in
theorem wX12_differAt_b29 {E : PE} {p : Program} {l : Launch} {e : Env} {s : State} {m : MethodId} {args : Array Value} {below : List Frame} {meth : Method} {c : Code} (X : Cx E p l e (rmv 1 0 0) s m args below meth c RX12 cX12_differAt 2 (some .int)) (hG : Gs E l) (hnm : meth.name = yX12_differAt.name) {t0 : Int32} {h : PH} {r : (Int32 × PH)} (hf : fX12_differAt_b29 t0 h = some r)  : PW E p l e (rmv 1 0 0) s m args below meth c 2 0 0 (MQ below (QG E (fun v u => v = some (.int r.1) ∧ u = r.2)) args s 0 0 (pA E)) h 29 [] [.int t0] := by
  unfold fX12_differAt_b29 at hf
  have er := Option.some.inj hf
  subst er
  exact p_iret X rfl (dcg dc_X12_differAt 17 rfl) ⟨rfl, rfl⟩ (Nat.le_refl _) (Nat.le_refl _)
noncomputable def fX12_differAt (v0 : Nat) (v1 : Int32) (h : PH) : Option (Int32 × PH) :=
  gd (hK h v0 = 12) (lt (sI h 12 v0 0 (0 : Int32)) (fun h2 =>
  bd (fX12_in v1 (0 : Int32) ((hI h2 12 v0 59) - (1 : Int32))) (fun z3 =>
  if (z3 = 0) then (fX12_differAt_b29 (-1 : Int32) h2) else
  gs (hR h2 12 v0 58) (fun a4 =>
  gd (hK h2 a4 = 20 ∧ inb v1 (hN h2 a4)) (fX12_differAt_b29 (hI h2 20 a4 (Int32.toNatClampNeg v1)) h2)))))
set_option maxRecDepth 100000 in
theorem mX12_differAt {v0 : Nat} {v1 : Int32} {h : PH} {r : (Int32 × PH)} (hf : fX12_differAt v0 v1 h = some r) : eqz h (hX r.2) (hV r.2) := by
  unfold fX12_differAt at hf
  have hle := eqz_rf h
  obtain ⟨hk1, hf⟩ := gd_some hf
  obtain ⟨h2, rfl, hf⟩ := lt_some hf
  obtain ⟨z3, hz3, hf⟩ := bd_some hf
  rcases ite_or hf with ⟨q, hf⟩ | ⟨q, hf⟩
  · have hf := if_t q hf
    exact eqz_rt (mX12_differAt_b29 hf) hle
  · have hf := if_f q hf
    obtain ⟨a4, e5, hf⟩ := gs_some hf
    obtain ⟨⟨hk7, hb6⟩, hf⟩ := gd_some hf
    exact eqz_rt (mX12_differAt_b29 hf) hle
set_option maxRecDepth 100000 in
theorem wX12_differAt {E : PE} {l : Launch} (hG : Gs E l) {v0 : Nat} {v1 : Int32} {h : PH} {r : (Int32 × PH)} (hf : fX12_differAt v0 v1 h = some r) : Ct E l 1 0 0 yX12_differAt cX12_differAt 2 (some .int) [.ref v0, .int v1] h (fun v u => v = some (.int r.1) ∧ u = r.2) := by
  refine ct_of hG (by decide) (Nat.le_of_ble_eq_true rfl) ?_
  intro p e s m args below meth c X hnm
  show PW E p l e _ s m args below meth c _ 0 0 _ h 0 [(0, some (.ref v0)), (1, some (.int v1))] []
  unfold fX12_differAt at hf
  refine p_aload_n X (dcg dc_X12_differAt 0 rfl) rfl rfl ?_
  refine p_iconst (v := 0) X (dcg dc_X12_differAt 1 rfl) (by decide) ?_
  obtain ⟨hk1, hf⟩ := gd_some hf
  refine p_putI X fl_X12_1 rfl (by decide) (fun q hq => by cases hq; rfl) rfl rfl (dcg dc_X12_differAt 2 rfl) hk1 ?_
  obtain ⟨h2, rfl, hf⟩ := lt_some hf
  refine p_iload_n X (dcg dc_X12_differAt 3 rfl) rfl rfl ?_
  refine p_iconst (v := 0) X (dcg dc_X12_differAt 4 rfl) (by decide) ?_
  refine p_aload_n X (dcg dc_X12_differAt 5 rfl) rfl rfl ?_
  refine p_getI X fl_X12_141 rfl (by decide) (dcg dc_X12_differAt 6 rfl) hk1 ?_
  refine p_iconst (v := 1) X (dcg dc_X12_differAt 7 rfl) (by decide) ?_
  refine p_isub X (dcg dc_X12_differAt 8 rfl) ?_
  obtain ⟨z3, hz3, hf⟩ := bd_some hf
  refine p_callS (As := [_, _, _]) X ml_X12_148 (dcg dc_X12_differAt 9 rfl) rfl rfl  (wX12_in hG hz3) (by decide) (room4 (Nat.le_of_ble_eq_true rfl)) (Nat.le_refl _) (Nat.le_refl _) ?_
  rintro _ u9 ⟨rfl, e9⟩; have e9 := e9.symm; subst e9
  refine p_if_eq (tgt := 28) X (dcg dc_X12_differAt 10 rfl) (by decide) (fun q => ?_) (fun q => ?_)
  · have hf := if_t q hf
    refine p_iconst (v := -1) X (dcg dc_X12_differAt 16 rfl) (by decide) ?_
    refine p_pick [] ?_
    exact wX12_differAt_b29 X hG hnm hf 
  · have hf := if_f q hf
    refine p_aload_n X (dcg dc_X12_differAt 11 rfl) rfl rfl ?_
    refine p_getR X fl_X12_138 rfl (by decide) (dcg dc_X12_differAt 12 rfl) hk1 ?_
    refine p_iload_n X (dcg dc_X12_differAt 13 rfl) rfl rfl ?_
    obtain ⟨a4, e5, hf⟩ := gs_some hf
    first | subst e5 | (try rw [e5])
    obtain ⟨⟨hk7, hb6⟩, hf⟩ := gd_some hf
    refine p_iald X (dcg dc_X12_differAt 14 rfl) hk7 (vp_of_inb hb6) ?_
    refine p_goto (tgt := 29) X (dcg dc_X12_differAt 15 rfl) (by decide) ?_
    refine p_pick [] ?_
    exact wX12_differAt_b29 X hG hnm hf 
theorem dc_X12_shared : decs cX12_shared [(0, .iconst 0, 1), (1, .istore_n 3, 1), (2, .iconst 0, 1), (3, .istore 4, 2), (5, .iload 4, 2), (7, .aload_n 0, 1), (8, .getfield 27, 3), (11, .iload_n 1, 1), (12, .iaload, 1), (13, .if_icmp .ge 83, 3), (16, .iconst 1, 1), (17, .istore 5, 2), (19, .iconst 0, 1), (20, .istore 6, 2), (22, .iload 6, 2), (24, .iload 4, 2), (26, .if_icmp .ge 36, 3), (29, .iload 5, 2), (31, .aload_n 0, 1), (32, .iload_n 1, 1), (33, .iload 6, 2), (35, .invokevirtual 186, 3), (38, .aload_n 0, 1), (39, .iload_n 1, 1), (40, .iload 4, 2), (42, .invokevirtual 186, 3), (45, .if_icmp .eq 7, 3), (48, .iconst 1, 1), (49, .goto 4, 3), (52, .iconst 0, 1), (53, .iand, 1), (54, .istore 5, 2), (56, .iinc 6 1, 3), (59, .goto (-37), 3), (62, .iload_n 3, 1), (63, .iload 5, 2), (65, .ifCond .eq 22, 3), (68, .aload_n 0, 1), (69, .iload_n 2, 1), (70, .aload_n 0, 1), (71, .iload_n 1, 1), (72, .iload 4, 2), (74, .invokevirtual 186, 3), (77, .invokevirtual 234, 3), (80, .ifCond .eq 7, 3), (83, .iconst 1, 1), (84, .goto 4, 3), (87, .iconst 0, 1), (88, .iadd, 1), (89, .istore_n 3, 1), (90, .iinc 4 1, 3), (93, .goto (-88), 3), (96, .iload_n 3, 1), (97, .ireturn, 1)] = true := by decide +kernel
noncomputable def fX12_shared_b88 (v0 : Nat) (v1 : Int32) (v2 : Int32) (v4 : Int32) (t0 : Int32) (t1 : Int32) (h : PH) : Option ((Int32 × Int32) ⊕ Int32) :=
  some (.inl ((t0 + t1), (v4 + 1)))
set_option maxRecDepth 100000 in
theorem wX12_shared_b88 {E : PE} {p : Program} {l : Launch} {e : Env} {s : State} {m : MethodId} {args : Array Value} {below : List Frame} {meth : Method} {c : Code} (X : Cx E p l e (rmv 2 0 0) s m args below meth c RX12 cX12_shared 7 (some .int)) (hG : Gs E l) (hnm : meth.name = yX12_shared.name) {v0 : Nat} {v1 : Int32} {v2 : Int32} {v4 : Int32} {t0 : Int32} {t1 : Int32} {h : PH} {r : Int32} {x : ((Int32 × Int32) ⊕ Int32)} (hf : fX12_shared_b88 v0 v1 v2 v4 t0 t1 h = some x) (k0 : ∀ z : (Int32 × Int32), x = .inl z → PW E p l e (rmv 2 0 0) s m args below meth c 7 0 0 (MQ below (QG E (fun v u => v = some (.int r) ∧ u = h)) args s 0 0 (pA E)) h 5 [(0, some (.ref v0)), (1, some (.int v1)), (2, some (.int v2)), (3, some (.int (z.1))), (4, some (.int (z.2)))] []) (kf : ∀ z : Int32, x = .inr z → z = r) : PW E p l e (rmv 2 0 0) s m args below meth c 7 0 0 (MQ below (QG E (fun v u => v = some (.int r) ∧ u = h)) args s 0 0 (pA E)) h 88 [(0, some (.ref v0)), (1, some (.int v1)), (2, some (.int v2)), (4, some (.int v4))] [.int t1, .int t0] := by
  unfold fX12_shared_b88 at hf
  refine p_iadd X (dcg dc_X12_shared 48 rfl) ?_
  refine p_istore_n X (dcg dc_X12_shared 49 rfl) rfl (by decide) rfl ?_
  refine p_iinc (v := 1) X (dcg dc_X12_shared 50 rfl) rfl (by decide) (by decide) rfl ?_
  refine p_goto (tgt := 5) X (dcg dc_X12_shared 51 rfl) (by decide) ?_
  refine p_pick [0, 1, 2, 3, 4] ?_
  exact k0 _ (Option.some.inj hf).symm
noncomputable def fX12_shared_b87 (v0 : Nat) (v1 : Int32) (v2 : Int32) (v4 : Int32) (t0 : Int32) (h : PH) : Option ((Int32 × Int32) ⊕ Int32) :=
  fX12_shared_b88 v0 v1 v2 v4 t0 (0 : Int32) h
set_option maxRecDepth 100000 in
theorem wX12_shared_b87 {E : PE} {p : Program} {l : Launch} {e : Env} {s : State} {m : MethodId} {args : Array Value} {below : List Frame} {meth : Method} {c : Code} (X : Cx E p l e (rmv 2 0 0) s m args below meth c RX12 cX12_shared 7 (some .int)) (hG : Gs E l) (hnm : meth.name = yX12_shared.name) {v0 : Nat} {v1 : Int32} {v2 : Int32} {v4 : Int32} {t0 : Int32} {h : PH} {r : Int32} {x : ((Int32 × Int32) ⊕ Int32)} (hf : fX12_shared_b87 v0 v1 v2 v4 t0 h = some x) (k0 : ∀ z : (Int32 × Int32), x = .inl z → PW E p l e (rmv 2 0 0) s m args below meth c 7 0 0 (MQ below (QG E (fun v u => v = some (.int r) ∧ u = h)) args s 0 0 (pA E)) h 5 [(0, some (.ref v0)), (1, some (.int v1)), (2, some (.int v2)), (3, some (.int (z.1))), (4, some (.int (z.2)))] []) (kf : ∀ z : Int32, x = .inr z → z = r) : PW E p l e (rmv 2 0 0) s m args below meth c 7 0 0 (MQ below (QG E (fun v u => v = some (.int r) ∧ u = h)) args s 0 0 (pA E)) h 87 [(0, some (.ref v0)), (1, some (.int v1)), (2, some (.int v2)), (4, some (.int v4))] [.int t0] := by
  unfold fX12_shared_b87 at hf
  refine p_iconst (v := 0) X (dcg dc_X12_shared 47 rfl) (by decide) ?_
  refine p_pick [0, 1, 2, 4] ?_
  exact wX12_shared_b88 X hG hnm hf k0 kf
noncomputable def fX12_shared_b53 (v0 : Nat) (v1 : Int32) (v2 : Int32) (v3 : Int32) (v4 : Int32) (v6 : Int32) (t0 : Int32) (t1 : Int32) (h : PH) : Option ((Int32 × Int32) ⊕ ((Int32 × Int32) ⊕ Int32)) :=
  some (.inl ((t0 &&& t1), (v6 + 1)))
set_option maxRecDepth 100000 in
theorem wX12_shared_b53 {E : PE} {p : Program} {l : Launch} {e : Env} {s : State} {m : MethodId} {args : Array Value} {below : List Frame} {meth : Method} {c : Code} (X : Cx E p l e (rmv 2 0 0) s m args below meth c RX12 cX12_shared 7 (some .int)) (hG : Gs E l) (hnm : meth.name = yX12_shared.name) {v0 : Nat} {v1 : Int32} {v2 : Int32} {v3 : Int32} {v4 : Int32} {v6 : Int32} {t0 : Int32} {t1 : Int32} {h : PH} {r : Int32} {x : ((Int32 × Int32) ⊕ ((Int32 × Int32) ⊕ Int32))} (hf : fX12_shared_b53 v0 v1 v2 v3 v4 v6 t0 t1 h = some x) (k0 : ∀ z : (Int32 × Int32), x = .inl z → PW E p l e (rmv 2 0 0) s m args below meth c 7 0 0 (MQ below (QG E (fun v u => v = some (.int r) ∧ u = h)) args s 0 0 (pA E)) h 22 [(0, some (.ref v0)), (1, some (.int v1)), (2, some (.int v2)), (3, some (.int v3)), (4, some (.int v4)), (5, some (.int (z.1))), (6, some (.int (z.2)))] []) (k1 : ∀ z : (Int32 × Int32), x = .inr (.inl z) → PW E p l e (rmv 2 0 0) s m args below meth c 7 0 0 (MQ below (QG E (fun v u => v = some (.int r) ∧ u = h)) args s 0 0 (pA E)) h 5 [(0, some (.ref v0)), (1, some (.int v1)), (2, some (.int v2)), (3, some (.int (z.1))), (4, some (.int (z.2)))] []) (kf : ∀ z : Int32, x = .inr (.inr z) → z = r) : PW E p l e (rmv 2 0 0) s m args below meth c 7 0 0 (MQ below (QG E (fun v u => v = some (.int r) ∧ u = h)) args s 0 0 (pA E)) h 53 [(0, some (.ref v0)), (1, some (.int v1)), (2, some (.int v2)), (3, some (.int v3)), (4, some (.int v4)), (6, some (.int v6))] [.int t1, .int t0] := by
  unfold fX12_shared_b53 at hf
  refine p_iand X (dcg dc_X12_shared 30 rfl) ?_
  refine p_istore X (dcg dc_X12_shared 31 rfl) (by decide) rfl ?_
  refine p_iinc (v := 1) X (dcg dc_X12_shared 32 rfl) rfl (by decide) (by decide) rfl ?_
  refine p_goto (tgt := 22) X (dcg dc_X12_shared 33 rfl) (by decide) ?_
  refine p_pick [0, 1, 2, 3, 4, 5, 6] ?_
  exact k0 _ (Option.some.inj hf).symm
noncomputable def fX12_shared_c22 (v0 : Nat) (v1 : Int32) (v2 : Int32) (v3 : Int32) (v4 : Int32) (v5 : Int32) (v6 : Int32) (h : PH) : Option ((Int32 × Int32) ⊕ ((Int32 × Int32) ⊕ Int32)) :=
  if (v4 ≤ v6) then (mr (if (v5 = 0) then (fX12_shared_b87 v0 v1 v2 v4 v3 h) else
  gd (hK h v0 = 12) (bd (fX12_wordIn v0 v1 v4 h) (fun z11 =>
  bd (fX12_has v0 v2 z11 h) (fun z12 =>
  if (z12 = 0) then (fX12_shared_b87 v0 v1 v2 v4 v3 h) else
  fX12_shared_b88 v0 v1 v2 v4 v3 (1 : Int32) h))))) else
  gd (hK h v0 = 12) (bd (fX12_wordIn v0 v1 v6 h) (fun z14 =>
  bd (fX12_wordIn v0 v1 v4 h) (fun z15 =>
  if (z14 = z15) then (fX12_shared_b53 v0 v1 v2 v3 v4 v6 v5 (0 : Int32) h) else
  fX12_shared_b53 v0 v1 v2 v3 v4 v6 v5 (1 : Int32) h)))
set_option maxRecDepth 100000 in
theorem wX12_shared_c22 {E : PE} {p : Program} {l : Launch} {e : Env} {s : State} {m : MethodId} {args : Array Value} {below : List Frame} {meth : Method} {c : Code} (X : Cx E p l e (rmv 2 0 0) s m args below meth c RX12 cX12_shared 7 (some .int)) (hG : Gs E l) (hnm : meth.name = yX12_shared.name) {v0 : Nat} {v1 : Int32} {v2 : Int32} {v3 : Int32} {v4 : Int32} {v5 : Int32} {v6 : Int32} {h : PH} {r : Int32} {x : ((Int32 × Int32) ⊕ ((Int32 × Int32) ⊕ Int32))} (hf : fX12_shared_c22 v0 v1 v2 v3 v4 v5 v6 h = some x) (k0 : ∀ z : (Int32 × Int32), x = .inl z → PW E p l e (rmv 2 0 0) s m args below meth c 7 0 0 (MQ below (QG E (fun v u => v = some (.int r) ∧ u = h)) args s 0 0 (pA E)) h 22 [(0, some (.ref v0)), (1, some (.int v1)), (2, some (.int v2)), (3, some (.int v3)), (4, some (.int v4)), (5, some (.int (z.1))), (6, some (.int (z.2)))] []) (k1 : ∀ z : (Int32 × Int32), x = .inr (.inl z) → PW E p l e (rmv 2 0 0) s m args below meth c 7 0 0 (MQ below (QG E (fun v u => v = some (.int r) ∧ u = h)) args s 0 0 (pA E)) h 5 [(0, some (.ref v0)), (1, some (.int v1)), (2, some (.int v2)), (3, some (.int (z.1))), (4, some (.int (z.2)))] []) (kf : ∀ z : Int32, x = .inr (.inr z) → z = r) : PW E p l e (rmv 2 0 0) s m args below meth c 7 0 0 (MQ below (QG E (fun v u => v = some (.int r) ∧ u = h)) args s 0 0 (pA E)) h 22 [(0, some (.ref v0)), (1, some (.int v1)), (2, some (.int v2)), (3, some (.int v3)), (4, some (.int v4)), (5, some (.int v5)), (6, some (.int v6))] [] := by
  unfold fX12_shared_c22 at hf
  refine p_iload X (dcg dc_X12_shared 14 rfl) rfl ?_
  refine p_iload X (dcg dc_X12_shared 15 rfl) rfl ?_
  refine p_icmp_ge (tgt := 62) X (dcg dc_X12_shared 16 rfl) (by decide) (fun q => ?_) (fun q => ?_)
  · have hf := if_t q hf
    obtain ⟨y8, hf, hy9⟩ := mr_some hf
    refine p_iload_n X (dcg dc_X12_shared 34 rfl) rfl rfl ?_
    refine p_iload X (dcg dc_X12_shared 35 rfl) rfl ?_
    refine p_if_eq (tgt := 87) X (dcg dc_X12_shared 36 rfl) (by decide) (fun q => ?_) (fun q => ?_)
    · have hf := if_t q hf
      refine p_pick [0, 1, 2, 4] ?_
      exact wX12_shared_b87 X hG hnm hf (fun z0 e0 => k1 z0 (hy9.trans (congrArg Sum.inr e0))) (fun z0 e0 => kf z0 (hy9.trans (congrArg Sum.inr e0)))
    · have hf := if_f q hf
      refine p_aload_n X (dcg dc_X12_shared 37 rfl) rfl rfl ?_
      refine p_iload_n X (dcg dc_X12_shared 38 rfl) rfl rfl ?_
      refine p_aload_n X (dcg dc_X12_shared 39 rfl) rfl rfl ?_
      refine p_iload_n X (dcg dc_X12_shared 40 rfl) rfl rfl ?_
      refine p_iload X (dcg dc_X12_shared 41 rfl) rfl ?_
      obtain ⟨hk10, hf⟩ := gd_some hf
      obtain ⟨z11, hz11, hf⟩ := bd_some hf
      refine p_callV (As := [_, _]) X ml_X12_186 (dcg dc_X12_shared 42 rfl) rfl rfl hk10 (wX12_wordIn hG hz11) (by decide) (room4 (Nat.le_of_ble_eq_true rfl)) (Nat.le_refl _) (Nat.le_refl _) ?_
      rintro _ u9 ⟨rfl, e9⟩; have e9 := e9.symm; subst e9
      obtain ⟨z12, hz12, hf⟩ := bd_some hf
      refine p_callV (As := [_, _]) X ml_X12_234 (dcg dc_X12_shared 43 rfl) rfl rfl hk10 (wX12_has hG hz12) (by decide) (room4 (Nat.le_of_ble_eq_true rfl)) (Nat.le_refl _) (Nat.le_refl _) ?_
      rintro _ u9 ⟨rfl, e9⟩; have e9 := e9.symm; subst e9
      refine p_if_eq (tgt := 87) X (dcg dc_X12_shared 44 rfl) (by decide) (fun q => ?_) (fun q => ?_)
      · have hf := if_t q hf
        refine p_pick [0, 1, 2, 4] ?_
        exact wX12_shared_b87 X hG hnm hf (fun z0 e0 => k1 z0 (hy9.trans (congrArg Sum.inr e0))) (fun z0 e0 => kf z0 (hy9.trans (congrArg Sum.inr e0)))
      · have hf := if_f q hf
        refine p_iconst (v := 1) X (dcg dc_X12_shared 45 rfl) (by decide) ?_
        refine p_goto (tgt := 88) X (dcg dc_X12_shared 46 rfl) (by decide) ?_
        refine p_pick [0, 1, 2, 4] ?_
        exact wX12_shared_b88 X hG hnm hf (fun z0 e0 => k1 z0 (hy9.trans (congrArg Sum.inr e0))) (fun z0 e0 => kf z0 (hy9.trans (congrArg Sum.inr e0)))
  · have hf := if_f q hf
    refine p_iload X (dcg dc_X12_shared 17 rfl) rfl ?_
    refine p_aload_n X (dcg dc_X12_shared 18 rfl) rfl rfl ?_
    refine p_iload_n X (dcg dc_X12_shared 19 rfl) rfl rfl ?_
    refine p_iload X (dcg dc_X12_shared 20 rfl) rfl ?_
    obtain ⟨hk13, hf⟩ := gd_some hf
    obtain ⟨z14, hz14, hf⟩ := bd_some hf
    refine p_callV (As := [_, _]) X ml_X12_186 (dcg dc_X12_shared 21 rfl) rfl rfl hk13 (wX12_wordIn hG hz14) (by decide) (room4 (Nat.le_of_ble_eq_true rfl)) (Nat.le_refl _) (Nat.le_refl _) ?_
    rintro _ u9 ⟨rfl, e9⟩; have e9 := e9.symm; subst e9
    refine p_aload_n X (dcg dc_X12_shared 22 rfl) rfl rfl ?_
    refine p_iload_n X (dcg dc_X12_shared 23 rfl) rfl rfl ?_
    refine p_iload X (dcg dc_X12_shared 24 rfl) rfl ?_
    obtain ⟨z15, hz15, hf⟩ := bd_some hf
    refine p_callV (As := [_, _]) X ml_X12_186 (dcg dc_X12_shared 25 rfl) rfl rfl hk13 (wX12_wordIn hG hz15) (by decide) (room4 (Nat.le_of_ble_eq_true rfl)) (Nat.le_refl _) (Nat.le_refl _) ?_
    rintro _ u9 ⟨rfl, e9⟩; have e9 := e9.symm; subst e9
    refine p_icmp_eq (tgt := 52) X (dcg dc_X12_shared 26 rfl) (by decide) (fun q => ?_) (fun q => ?_)
    · have hf := if_t q hf
      refine p_iconst (v := 0) X (dcg dc_X12_shared 29 rfl) (by decide) ?_
      refine p_pick [0, 1, 2, 3, 4, 6] ?_
      exact wX12_shared_b53 X hG hnm hf k0 k1 kf
    · have hf := if_f q hf
      refine p_iconst (v := 1) X (dcg dc_X12_shared 27 rfl) (by decide) ?_
      refine p_goto (tgt := 53) X (dcg dc_X12_shared 28 rfl) (by decide) ?_
      refine p_pick [0, 1, 2, 3, 4, 6] ?_
      exact wX12_shared_b53 X hG hnm hf k0 k1 kf
noncomputable def fX12_shared_l22 (v0 : Nat) (v1 : Int32) (v2 : Int32) (v3 : Int32) (v4 : Int32) (v5 : Int32) (v6 : Int32) (h : PH) : Option ((Int32 × Int32) ⊕ Int32) := wh (fun z : (Int32 × Int32) => fX12_shared_c22 v0 v1 v2 v3 v4 (z.1) (z.2) h) (v5, v6)
set_option maxRecDepth 100000 in
theorem wX12_shared_l22 {E : PE} {p : Program} {l : Launch} {e : Env} {s : State} {m : MethodId} {args : Array Value} {below : List Frame} {meth : Method} {c : Code} (X : Cx E p l e (rmv 2 0 0) s m args below meth c RX12 cX12_shared 7 (some .int)) (hG : Gs E l) (hnm : meth.name = yX12_shared.name) {v0 : Nat} {v1 : Int32} {v2 : Int32} {v3 : Int32} {v4 : Int32} {v5 : Int32} {v6 : Int32} {h : PH} {r : Int32} {x : ((Int32 × Int32) ⊕ Int32)} (hf : fX12_shared_l22 v0 v1 v2 v3 v4 v5 v6 h = some x) (k0 : ∀ z : (Int32 × Int32), x = .inl z → PW E p l e (rmv 2 0 0) s m args below meth c 7 0 0 (MQ below (QG E (fun v u => v = some (.int r) ∧ u = h)) args s 0 0 (pA E)) h 5 [(0, some (.ref v0)), (1, some (.int v1)), (2, some (.int v2)), (3, some (.int (z.1))), (4, some (.int (z.2)))] []) (kf : ∀ z : Int32, x = .inr z → z = r) : PW E p l e (rmv 2 0 0) s m args below meth c 7 0 0 (MQ below (QG E (fun v u => v = some (.int r) ∧ u = h)) args s 0 0 (pA E)) h 22 [(0, some (.ref v0)), (1, some (.int v1)), (2, some (.int v2)), (3, some (.int v3)), (4, some (.int v4)), (5, some (.int v5)), (6, some (.int v6))] [] := by
  unfold fX12_shared_l22 at hf
  refine wh_ind (P := fun z => PW E p l e (rmv 2 0 0) s m args below meth c 7 0 0 (MQ below (QG E (fun v u => v = some (.int r) ∧ u = h)) args s 0 0 (pA E)) h 22 [(0, some (.ref v0)), (1, some (.int v1)), (2, some (.int v2)), (3, some (.int v3)), (4, some (.int v4)), (5, some (.int (z.1))), (6, some (.int (z.2)))] []) (fun z x0 hs i1 i2 => ?_) _ hf
  exact wX12_shared_c22 (r := r) (v0 := v0) (v1 := v1) (v2 := v2) (v3 := v3) (v4 := v4) (v5 := z.1) (v6 := z.2) (h := h) X hG hnm hs i1 (fun z1 e1 => k0 z1 (i2 _ e1).symm) (fun z1 e1 => kf z1 (i2 _ e1).symm)
noncomputable def fX12_shared_c5 (v0 : Nat) (v1 : Int32) (v2 : Int32) (v3 : Int32) (v4 : Int32) (h : PH) : Option ((Int32 × Int32) ⊕ Int32) :=
  gd (hK h v0 = 12) (gs (hR h 12 v0 6) (fun a2 =>
  gd (hK h a2 = 20 ∧ inb v1 (hN h a2)) (if ((hI h 20 a2 (Int32.toNatClampNeg v1)) ≤ v4) then (mr (some (v3))) else
  fX12_shared_l22 v0 v1 v2 v3 v4 (1 : Int32) (0 : Int32) h)))
set_option maxRecDepth 100000 in
theorem wX12_shared_c5 {E : PE} {p : Program} {l : Launch} {e : Env} {s : State} {m : MethodId} {args : Array Value} {below : List Frame} {meth : Method} {c : Code} (X : Cx E p l e (rmv 2 0 0) s m args below meth c RX12 cX12_shared 7 (some .int)) (hG : Gs E l) (hnm : meth.name = yX12_shared.name) {v0 : Nat} {v1 : Int32} {v2 : Int32} {v3 : Int32} {v4 : Int32} {h : PH} {r : Int32} {x : ((Int32 × Int32) ⊕ Int32)} (hf : fX12_shared_c5 v0 v1 v2 v3 v4 h = some x) (k0 : ∀ z : (Int32 × Int32), x = .inl z → PW E p l e (rmv 2 0 0) s m args below meth c 7 0 0 (MQ below (QG E (fun v u => v = some (.int r) ∧ u = h)) args s 0 0 (pA E)) h 5 [(0, some (.ref v0)), (1, some (.int v1)), (2, some (.int v2)), (3, some (.int (z.1))), (4, some (.int (z.2)))] []) (kf : ∀ z : Int32, x = .inr z → z = r) : PW E p l e (rmv 2 0 0) s m args below meth c 7 0 0 (MQ below (QG E (fun v u => v = some (.int r) ∧ u = h)) args s 0 0 (pA E)) h 5 [(0, some (.ref v0)), (1, some (.int v1)), (2, some (.int v2)), (3, some (.int v3)), (4, some (.int v4))] [] := by
  unfold fX12_shared_c5 at hf
  refine p_iload X (dcg dc_X12_shared 4 rfl) rfl ?_
  refine p_aload_n X (dcg dc_X12_shared 5 rfl) rfl rfl ?_
  obtain ⟨hk1, hf⟩ := gd_some hf
  refine p_getR X fl_X12_27 rfl (by decide) (dcg dc_X12_shared 6 rfl) hk1 ?_
  refine p_iload_n X (dcg dc_X12_shared 7 rfl) rfl rfl ?_
  obtain ⟨a2, e3, hf⟩ := gs_some hf
  first | subst e3 | (try rw [e3])
  obtain ⟨⟨hk5, hb4⟩, hf⟩ := gd_some hf
  refine p_iald X (dcg dc_X12_shared 8 rfl) hk5 (vp_of_inb hb4) ?_
  refine p_icmp_ge (tgt := 96) X (dcg dc_X12_shared 9 rfl) (by decide) (fun q => ?_) (fun q => ?_)
  · have hf := if_t q hf
    obtain ⟨y6, hf, hy7⟩ := mr_some hf
    have hy7f := kf y6 hy7
    subst hy7f
    refine p_iload_n X (dcg dc_X12_shared 52 rfl) rfl rfl ?_
    have er := Option.some.inj hf
    subst er
    exact p_iret X rfl (dcg dc_X12_shared 53 rfl) ⟨rfl, rfl⟩ (Nat.le_refl _) (Nat.le_refl _)
  · have hf := if_f q hf
    refine p_iconst (v := 1) X (dcg dc_X12_shared 10 rfl) (by decide) ?_
    refine p_istore X (dcg dc_X12_shared 11 rfl) (by decide) rfl ?_
    refine p_iconst (v := 0) X (dcg dc_X12_shared 12 rfl) (by decide) ?_
    refine p_istore X (dcg dc_X12_shared 13 rfl) (by decide) rfl ?_
    refine p_pick [0, 1, 2, 3, 4, 5, 6] ?_
    exact wX12_shared_l22 X hG hnm hf k0 kf
noncomputable def fX12_shared_l5 (v0 : Nat) (v1 : Int32) (v2 : Int32) (v3 : Int32) (v4 : Int32) (h : PH) : Option Int32 := wh (fun z : (Int32 × Int32) => fX12_shared_c5 v0 v1 v2 (z.1) (z.2) h) (v3, v4)
set_option maxRecDepth 100000 in
theorem wX12_shared_l5 {E : PE} {p : Program} {l : Launch} {e : Env} {s : State} {m : MethodId} {args : Array Value} {below : List Frame} {meth : Method} {c : Code} (X : Cx E p l e (rmv 2 0 0) s m args below meth c RX12 cX12_shared 7 (some .int)) (hG : Gs E l) (hnm : meth.name = yX12_shared.name) {v0 : Nat} {v1 : Int32} {v2 : Int32} {v3 : Int32} {v4 : Int32} {h : PH} {r : Int32} (hf : fX12_shared_l5 v0 v1 v2 v3 v4 h = some r)  : PW E p l e (rmv 2 0 0) s m args below meth c 7 0 0 (MQ below (QG E (fun v u => v = some (.int r) ∧ u = h)) args s 0 0 (pA E)) h 5 [(0, some (.ref v0)), (1, some (.int v1)), (2, some (.int v2)), (3, some (.int v3)), (4, some (.int v4))] [] := by
  unfold fX12_shared_l5 at hf
  refine wh_ind (P := fun z => PW E p l e (rmv 2 0 0) s m args below meth c 7 0 0 (MQ below (QG E (fun v u => v = some (.int r) ∧ u = h)) args s 0 0 (pA E)) h 5 [(0, some (.ref v0)), (1, some (.int v1)), (2, some (.int v2)), (3, some (.int (z.1))), (4, some (.int (z.2)))] []) (fun z x0 hs i1 i2 => ?_) _ hf
  exact wX12_shared_c5 (r := r) (v0 := v0) (v1 := v1) (v2 := v2) (v3 := z.1) (v4 := z.2) (h := h) X hG hnm hs i1  i2
noncomputable def fX12_shared (v0 : Nat) (v1 : Int32) (v2 : Int32) (h : PH) : Option Int32 :=
  fX12_shared_l5 v0 v1 v2 (0 : Int32) (0 : Int32) h
set_option maxRecDepth 100000 in
theorem wX12_shared {E : PE} {l : Launch} (hG : Gs E l) {v0 : Nat} {v1 : Int32} {v2 : Int32} {h : PH} {r : Int32} (hf : fX12_shared v0 v1 v2 h = some r) : Ct E l 2 0 0 yX12_shared cX12_shared 7 (some .int) [.ref v0, .int v1, .int v2] h (fun v u => v = some (.int r) ∧ u = h) := by
  refine ct_of hG (by decide) (Nat.le_of_ble_eq_true rfl) ?_
  intro p e s m args below meth c X hnm
  show PW E p l e _ s m args below meth c _ 0 0 _ h 0 [(0, some (.ref v0)), (1, some (.int v1)), (2, some (.int v2))] []
  unfold fX12_shared at hf
  refine p_iconst (v := 0) X (dcg dc_X12_shared 0 rfl) (by decide) ?_
  refine p_istore_n X (dcg dc_X12_shared 1 rfl) rfl (by decide) rfl ?_
  refine p_iconst (v := 0) X (dcg dc_X12_shared 2 rfl) (by decide) ?_
  refine p_istore X (dcg dc_X12_shared 3 rfl) (by decide) rfl ?_
  refine p_pick [0, 1, 2, 3, 4] ?_
  exact wX12_shared_l5 X hG hnm hf 
theorem dc_X12_unlike : decs cX12_unlike [(0, .aload_n 0, 1), (1, .iconst 0, 1), (2, .putfield 1, 3), (5, .aload_n 0, 1), (6, .iload_n 1, 1), (7, .invokevirtual 212, 3), (10, .ifCond .eq 7, 3), (13, .iconst 0, 1), (14, .goto 9, 3), (17, .aload_n 0, 1), (18, .iload_n 1, 1), (19, .iload_n 1, 1), (20, .invokevirtual 418, 3), (23, .ireturn, 1)] = true := by decide +kernel
noncomputable def fX12_unlike_b23 (t0 : Int32) (h : PH) : Option (Int32 × PH) :=
  some ((t0, h))
set_option maxRecDepth 100000 in
theorem mX12_unlike_b23 {t0 : Int32} {h : PH} {r : (Int32 × PH)} (hf : fX12_unlike_b23 t0 h = some r) : eqz h (hX r.2) (hV r.2) := by
  unfold fX12_unlike_b23 at hf
  have hle := eqz_rf h
  have ee := Option.some.inj hf; subst ee; exact hle
set_option maxRecDepth 100000 in
theorem wX12_unlike_b23 {E : PE} {p : Program} {l : Launch} {e : Env} {s : State} {m : MethodId} {args : Array Value} {below : List Frame} {meth : Method} {c : Code} (X : Cx E p l e (rmv 3 0 0) s m args below meth c RX12 cX12_unlike 2 (some .int)) (hG : Gs E l) (hnm : meth.name = yX12_unlike.name) {t0 : Int32} {h : PH} {r : (Int32 × PH)} (hf : fX12_unlike_b23 t0 h = some r)  : PW E p l e (rmv 3 0 0) s m args below meth c 2 0 0 (MQ below (QG E (fun v u => v = some (.int r.1) ∧ u = r.2)) args s 0 0 (pA E)) h 23 [] [.int t0] := by
  unfold fX12_unlike_b23 at hf
  have er := Option.some.inj hf
  subst er
  exact p_iret X rfl (dcg dc_X12_unlike 13 rfl) ⟨rfl, rfl⟩ (Nat.le_refl _) (Nat.le_refl _)
noncomputable def fX12_unlike (v0 : Nat) (v1 : Int32) (h : PH) : Option (Int32 × PH) :=
  gd (hK h v0 = 12) (lt (sI h 12 v0 0 (0 : Int32)) (fun h2 =>
  bd (fX12_noText v0 v1 h2) (fun z3 =>
  if (z3.1 = 0) then (gd (hK z3.2 v0 = 12) (bd (fX12_shared v0 v1 v1 z3.2) (fun z5 =>
  fX12_unlike_b23 z5 z3.2))) else
  fX12_unlike_b23 (0 : Int32) z3.2)))
set_option maxRecDepth 100000 in
theorem mX12_unlike {v0 : Nat} {v1 : Int32} {h : PH} {r : (Int32 × PH)} (hf : fX12_unlike v0 v1 h = some r) : eqz h (hX r.2) (hV r.2) := by
  unfold fX12_unlike at hf
  have hle := eqz_rf h
  obtain ⟨hk1, hf⟩ := gd_some hf
  obtain ⟨h2, rfl, hf⟩ := lt_some hf
  obtain ⟨z3, hz3, hf⟩ := bd_some hf
  have hle := eqz_rt (mX12_noText hz3) hle
  rcases ite_or hf with ⟨q, hf⟩ | ⟨q, hf⟩
  · have hf := if_t q hf
    obtain ⟨hk4, hf⟩ := gd_some hf
    obtain ⟨z5, hz5, hf⟩ := bd_some hf
    exact eqz_rt (mX12_unlike_b23 hf) hle
  · have hf := if_f q hf
    exact eqz_rt (mX12_unlike_b23 hf) hle
set_option maxRecDepth 100000 in
theorem wX12_unlike {E : PE} {l : Launch} (hG : Gs E l) {v0 : Nat} {v1 : Int32} {h : PH} {r : (Int32 × PH)} (hf : fX12_unlike v0 v1 h = some r) : Ct E l 3 0 0 yX12_unlike cX12_unlike 2 (some .int) [.ref v0, .int v1] h (fun v u => v = some (.int r.1) ∧ u = r.2) := by
  refine ct_of hG (by decide) (Nat.le_of_ble_eq_true rfl) ?_
  intro p e s m args below meth c X hnm
  show PW E p l e _ s m args below meth c _ 0 0 _ h 0 [(0, some (.ref v0)), (1, some (.int v1))] []
  unfold fX12_unlike at hf
  refine p_aload_n X (dcg dc_X12_unlike 0 rfl) rfl rfl ?_
  refine p_iconst (v := 0) X (dcg dc_X12_unlike 1 rfl) (by decide) ?_
  obtain ⟨hk1, hf⟩ := gd_some hf
  refine p_putI X fl_X12_1 rfl (by decide) (fun q hq => by cases hq; rfl) rfl rfl (dcg dc_X12_unlike 2 rfl) hk1 ?_
  obtain ⟨h2, rfl, hf⟩ := lt_some hf
  refine p_aload_n X (dcg dc_X12_unlike 3 rfl) rfl rfl ?_
  refine p_iload_n X (dcg dc_X12_unlike 4 rfl) rfl rfl ?_
  obtain ⟨z3, hz3, hf⟩ := bd_some hf
  refine p_callV (As := [_]) X ml_X12_212 (dcg dc_X12_unlike 5 rfl) rfl rfl hk1 (wX12_noText hG hz3) (by decide) (room4 (Nat.le_of_ble_eq_true rfl)) (Nat.le_refl _) (Nat.le_refl _) ?_
  rintro _ u9 ⟨rfl, e9⟩; have e9 := e9.symm; subst e9
  refine p_if_eq (tgt := 17) X (dcg dc_X12_unlike 6 rfl) (by decide) (fun q => ?_) (fun q => ?_)
  · have hf := if_t q hf
    refine p_aload_n X (dcg dc_X12_unlike 9 rfl) rfl rfl ?_
    refine p_iload_n X (dcg dc_X12_unlike 10 rfl) rfl rfl ?_
    refine p_iload_n X (dcg dc_X12_unlike 11 rfl) rfl rfl ?_
    obtain ⟨hk4, hf⟩ := gd_some hf
    obtain ⟨z5, hz5, hf⟩ := bd_some hf
    refine p_callV (As := [_, _]) X ml_X12_418 (dcg dc_X12_unlike 12 rfl) rfl rfl hk4 (wX12_shared hG hz5) (by decide) (room4 (Nat.le_of_ble_eq_true rfl)) (Nat.le_refl _) (Nat.le_refl _) ?_
    rintro _ u9 ⟨rfl, e9⟩; have e9 := e9.symm; subst e9
    refine p_pick [] ?_
    exact wX12_unlike_b23 X hG hnm hf 
  · have hf := if_f q hf
    refine p_iconst (v := 0) X (dcg dc_X12_unlike 7 rfl) (by decide) ?_
    refine p_goto (tgt := 23) X (dcg dc_X12_unlike 8 rfl) (by decide) ?_
    refine p_pick [] ?_
    exact wX12_unlike_b23 X hG hnm hf 
