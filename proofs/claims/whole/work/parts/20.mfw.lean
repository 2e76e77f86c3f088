/-! methods of the program (by program: wip/whole/gen2.py) -/
theorem dc_X12_together : decs cX12_together [(0, .aload_n 0, 1), (1, .iconst 0, 1), (2, .putfield 1, 3), (5, .aload_n 0, 1), (6, .iload_n 1, 1), (7, .invokevirtual 240, 3), (10, .ifCond .ne 11, 3), (13, .aload_n 0, 1), (14, .iload_n 2, 1), (15, .invokevirtual 240, 3), (18, .ifCond .eq 7, 3), (21, .iconst 0, 1), (22, .goto 9, 3), (25, .aload_n 0, 1), (26, .iload_n 1, 1), (27, .iload_n 2, 1), (28, .invokevirtual 249, 3), (31, .ireturn, 1)] = true := by decide +kernel
noncomputable def fX12_together_b31 (t0 : Int32) (h : PH) : Option (Int32 × PH) :=
  some ((t0, h))
set_option maxRecDepth 100000 in
theorem mX12_together_b31 {t0 : Int32} {h : PH} {r : (Int32 × PH)} (hf : fX12_together_b31 t0 h = some r) : eqz h (hX r.2) (hV r.2) := by
  unfold fX12_together_b31 at hf
  have hle := eqz_rf h
  have ee := Option.some.inj hf; subst ee; exact hle
set_option maxRecDepth 100000 in
theorem wX12_together_b31 {E : PE} {p : Program} {l : Launch} {e : Env} {s : State} {m : MethodId} {args : Array Value} {below : List Frame} {meth : Method} {c : Code} (X : Cx E p l e (rmv 3 0 0) s m args below meth c RX12 cX12_together 3 (some .int)) (hG : Gs E l) (hnm : meth.name = yX12_together.name) {t0 : Int32} {h : PH} {r : (Int32 × PH)} (hf : fX12_together_b31 t0 h = some r)  : PW E p l e (rmv 3 0 0) s m args below meth c 3 0 0 (MQ below (QG E (fun v u => v = some (.int r.1) ∧ u = r.2)) args s 0 0 (pA E)) h 31 [] [.int t0] := by
  unfold fX12_together_b31 at hf
  have er := Option.some.inj hf
  subst er
  exact p_iret X rfl (dcg dc_X12_together 17 rfl) ⟨rfl, rfl⟩ (Nat.le_refl _) (Nat.le_refl _)
noncomputable def fX12_together_b21  (h : PH) : Option (Int32 × PH) :=
  fX12_together_b31 (0 : Int32) h
set_option maxRecDepth 100000 in
theorem mX12_together_b21  {h : PH} {r : (Int32 × PH)} (hf : fX12_together_b21  h = some r) : eqz h (hX r.2) (hV r.2) := by
  unfold fX12_together_b21 at hf
  have hle := eqz_rf h
  exact eqz_rt (mX12_together_b31 hf) hle
set_option maxRecDepth 100000 in
theorem wX12_together_b21 {E : PE} {p : Program} {l : Launch} {e : Env} {s : State} {m : MethodId} {args : Array Value} {below : List Frame} {meth : Method} {c : Code} (X : Cx E p l e (rmv 3 0 0) s m args below meth c RX12 cX12_together 3 (some .int)) (hG : Gs E l) (hnm : meth.name = yX12_together.name)  {h : PH} {r : (Int32 × PH)} (hf : fX12_together_b21  h = some r)  : PW E p l e (rmv 3 0 0) s m args below meth c 3 0 0 (MQ below (QG E (fun v u => v = some (.int r.1) ∧ u = r.2)) args s 0 0 (pA E)) h 21 [] [] := by
  unfold fX12_together_b21 at hf
  refine p_iconst (v := 0) X (dcg dc_X12_together 11 rfl) (by decide) ?_
  refine p_goto (tgt := 31) X (dcg dc_X12_together 12 rfl) (by decide) ?_
  refine p_pick [] ?_
  exact wX12_together_b31 X hG hnm hf 
noncomputable def fX12_together (v0 : Nat) (v1 : Int32) (v2 : Int32) (h : PH) : Option (Int32 × PH) :=
  gd (hK h v0 = 12) (lt (sI h 12 v0 0 (0 : Int32)) (fun h2 =>
  bd (fX12_noWord v0 v1 h2) (fun z3 =>
  if (¬ z3.1 = 0) then (fX12_together_b21  z3.2) else
  gd (hK z3.2 v0 = 12) (bd (fX12_noWord v0 v2 z3.2) (fun z5 =>
  if (z5.1 = 0) then (gd (hK z5.2 v0 = 12) (bd (fX12_manyTogether v0 v1 v2 z5.2) (fun z7 =>
  fX12_together_b31 z7 z5.2))) else
  fX12_together_b21  z5.2)))))
set_option maxRecDepth 100000 in
theorem mX12_together {v0 : Nat} {v1 : Int32} {v2 : Int32} {h : PH} {r : (Int32 × PH)} (hf : fX12_together v0 v1 v2 h = some r) : eqz h (hX r.2) (hV r.2) := by
  unfold fX12_together at hf
  have hle := eqz_rf h
  obtain ⟨hk1, hf⟩ := gd_some hf
  obtain ⟨h2, rfl, hf⟩ := lt_some hf
  obtain ⟨z3, hz3, hf⟩ := bd_some hf
  have hle := eqz_rt (mX12_noWord hz3) hle
  rcases ite_or hf with ⟨q, hf⟩ | ⟨q, hf⟩
  · have hf := if_t q hf
    exact eqz_rt (mX12_together_b21 hf) hle
  · have hf := if_f q hf
    obtain ⟨hk4, hf⟩ := gd_some hf
    obtain ⟨z5, hz5, hf⟩ := bd_some hf
    have hle := eqz_rt (mX12_noWord hz5) hle
    rcases ite_or hf with ⟨q, hf⟩ | ⟨q, hf⟩
    · have hf := if_t q hf
      obtain ⟨hk6, hf⟩ := gd_some hf
      obtain ⟨z7, hz7, hf⟩ := bd_some hf
      exact eqz_rt (mX12_together_b31 hf) hle
    · have hf := if_f q hf
      exact eqz_rt (mX12_together_b21 hf) hle
set_option maxRecDepth 100000 in
theorem wX12_together {E : PE} {l : Launch} (hG : Gs E l) {v0 : Nat} {v1 : Int32} {v2 : Int32} {h : PH} {r : (Int32 × PH)} (hf : fX12_together v0 v1 v2 h = some r) : Ct E l 3 0 0 yX12_together cX12_together 3 (some .int) [.ref v0, .int v1, .int v2] h (fun v u => v = some (.int r.1) ∧ u = r.2) := by
  refine ct_of hG (by decide) (Nat.le_of_ble_eq_true rfl) ?_
  intro p e s m args below meth c X hnm
  show PW E p l e _ s m args below meth c _ 0 0 _ h 0 [(0, some (.ref v0)), (1, some (.int v1)), (2, some (.int v2))] []
  unfold fX12_together at hf
  refine p_aload_n X (dcg dc_X12_together 0 rfl) rfl rfl ?_
  refine p_iconst (v := 0) X (dcg dc_X12_together 1 rfl) (by decide) ?_
  obtain ⟨hk1, hf⟩ := gd_some hf
  refine p_putI X fl_X12_1 rfl (by decide) (fun q hq => by cases hq; rfl) rfl rfl (dcg dc_X12_together 2 rfl) hk1 ?_
  obtain ⟨h2, rfl, hf⟩ := lt_some hf
  refine p_aload_n X (dcg dc_X12_together 3 rfl) rfl rfl ?_
  refine p_iload_n X (dcg dc_X12_together 4 rfl) rfl rfl ?_
  obtain ⟨z3, hz3, hf⟩ := bd_some hf
  refine p_callV (As := [_]) X ml_X12_240 (dcg dc_X12_together 5 rfl) rfl rfl hk1 (wX12_noWord hG hz3) (by decide) (room4 (Nat.le_of_ble_eq_true rfl)) (Nat.le_refl _) (Nat.le_refl _) ?_
  rintro _ u9 ⟨rfl, e9⟩; have e9 := e9.symm; subst e9
  refine p_if_ne (tgt := 21) X (dcg dc_X12_together 6 rfl) (by decide) (fun q => ?_) (fun q => ?_)
  · have hf := if_t q hf
    refine p_pick [] ?_
    exact wX12_together_b21 X hG hnm hf 
  · have hf := if_f q hf
    refine p_aload_n X (dcg dc_X12_together 7 rfl) rfl rfl ?_
    refine p_iload_n X (dcg dc_X12_together 8 rfl) rfl rfl ?_
    obtain ⟨hk4, hf⟩ := gd_some hf
    obtain ⟨z5, hz5, hf⟩ := bd_some hf
    refine p_callV (As := [_]) X ml_X12_240 (dcg dc_X12_together 9 rfl) rfl rfl hk4 (wX12_noWord hG hz5) (by decide) (room4 (Nat.le_of_ble_eq_true rfl)) (Nat.le_refl _) (Nat.le_refl _) ?_
    rintro _ u9 ⟨rfl, e9⟩; have e9 := e9.symm; subst e9
    refine p_if_eq (tgt := 25) X (dcg dc_X12_together 10 rfl) (by decide) (fun q => ?_) (fun q => ?_)
    · have hf := if_t q hf
      refine p_aload_n X (dcg dc_X12_together 13 rfl) rfl rfl ?_
      refine p_iload_n X (dcg dc_X12_together 14 rfl) rfl rfl ?_
      refine p_iload_n X (dcg dc_X12_together 15 rfl) rfl rfl ?_
      obtain ⟨hk6, hf⟩ := gd_some hf
      obtain ⟨z7, hz7, hf⟩ := bd_some hf
      refine p_callV (As := [_, _]) X ml_X12_249 (dcg dc_X12_together 16 rfl) rfl rfl hk6 (wX12_manyTogether hG hz7) (by decide) (room4 (Nat.le_of_ble_eq_true rfl)) (Nat.le_refl _) (Nat.le_refl _) ?_
      rintro _ u9 ⟨rfl, e9⟩; have e9 := e9.symm; subst e9
      refine p_pick [] ?_
      exact wX12_together_b31 X hG hnm hf 
    · have hf := if_f q hf
      refine p_pick [] ?_
      exact wX12_together_b21 X hG hnm hf 
theorem dc_X12_companion : decs cX12_companion [(0, .aload_n 0, 1), (1, .iconst 0, 1), (2, .putfield 1, 3), (5, .aload_n 0, 1), (6, .iload_n 1, 1), (7, .invokevirtual 240, 3), (10, .ifCond .eq 5, 3), (13, .iconst 0, 1), (14, .ireturn, 1), (15, .aload_n 0, 1), (16, .invokevirtual 237, 3), (19, .iconst (-1), 1), (20, .istore_n 2, 1), (21, .iconst 0, 1), (22, .istore_n 3, 1), (23, .iconst 0, 1), (24, .istore 4, 2), (26, .iload 4, 2), (28, .aload_n 0, 1), (29, .getfield 225, 3), (32, .if_icmp .ge 58, 3), (35, .aload_n 0, 1), (36, .getfield 57, 3), (39, .iload 4, 2), (41, .iaload, 1), (42, .iload_n 1, 1), (43, .if_icmp .ne 7, 3), (46, .iconst 0, 1), (47, .goto 15, 3), (50, .aload_n 0, 1), (51, .iload_n 1, 1), (52, .aload_n 0, 1), (53, .getfield 57, 3), (56, .iload 4, 2), (58, .iaload, 1), (59, .invokevirtual 249, 3), (62, .istore 5, 2), (64, .iload 5, 2), (66, .iload_n 3, 1), (67, .if_icmp .gt 6, 3), (70, .goto 14, 3), (73, .iload 5, 2), (75, .istore_n 3, 1), (76, .aload_n 0, 1), (77, .getfield 57, 3), (80, .iload 4, 2), (82, .iaload, 1), (83, .istore_n 2, 1), (84, .iinc 4 1, 3), (87, .goto (-61), 3), (90, .iload_n 2, 1), (91, .ireturn, 1)] = true := by decide +kernel
noncomputable def fX12_companion_b84 (v0 : Nat) (v1 : Int32) (v2 : Int32) (v3 : Int32) (v4 : Int32) (h : PH) : Option ((Int32 × Int32 × Int32) ⊕ (Int32 × PH)) :=
  some (.inl (v2, v3, (v4 + 1)))
set_option maxRecDepth 100000 in
theorem mX12_companion_b84 {v0 : Nat} {v1 : Int32} {v2 : Int32} {v3 : Int32} {v4 : Int32} {h : PH} {x : ((Int32 × Int32 × Int32) ⊕ (Int32 × PH))} (hf : fX12_companion_b84 v0 v1 v2 v3 v4 h = some x) : (∀ w9 : (Int32 × PH), x = .inr w9 → eqz h (hX w9.2) (hV w9.2)) := by
  unfold fX12_companion_b84 at hf
  have hle := eqz_rf h
  have ee := Option.some.inj hf; subst ee
  exact (fun z e => nomatch e)
set_option maxRecDepth 100000 in
theorem wX12_companion_b84 {E : PE} {p : Program} {l : Launch} {e : Env} {s : State} {m : MethodId} {args : Array Value} {below : List Frame} {meth : Method} {c : Code} (X : Cx E p l e (rmv 5 0 0) s m args below meth c RX12 cX12_companion 6 (some .int)) (hG : Gs E l) (hnm : meth.name = yX12_companion.name) {v0 : Nat} {v1 : Int32} {v2 : Int32} {v3 : Int32} {v4 : Int32} {h : PH} {r : (Int32 × PH)} {x : ((Int32 × Int32 × Int32) ⊕ (Int32 × PH))} (hf : fX12_companion_b84 v0 v1 v2 v3 v4 h = some x) (k0 : ∀ z : (Int32 × Int32 × Int32), x = .inl z → PW E p l e (rmv 5 0 0) s m args below meth c 6 0 0 (MQ below (QG E (fun v u => v = some (.int r.1) ∧ u = r.2)) args s 0 0 (pA E)) h 26 [(0, some (.ref v0)), (1, some (.int v1)), (2, some (.int (z.1))), (3, some (.int (z.2.1))), (4, some (.int (z.2.2)))] []) (kf : ∀ z : (Int32 × PH), x = .inr z → z = r) : PW E p l e (rmv 5 0 0) s m args below meth c 6 0 0 (MQ below (QG E (fun v u => v = some (.int r.1) ∧ u = r.2)) args s 0 0 (pA E)) h 84 [(0, some (.ref v0)), (1, some (.int v1)), (2, some (.int v2)), (3, some (.int v3)), (4, some (.int v4))] [] := by
  unfold fX12_companion_b84 at hf
  refine p_iinc (v := 1) X (dcg dc_X12_companion 48 rfl) rfl (by decide) (by decide) rfl ?_
  refine p_goto (tgt := 26) X (dcg dc_X12_companion 49 rfl) (by decide) ?_
  refine p_pick [0, 1, 2, 3, 4] ?_
  exact k0 _ (Option.some.inj hf).symm
noncomputable def fX12_companion_b62 (v0 : Nat) (v1 : Int32) (v2 : Int32) (v3 : Int32) (v4 : Int32) (t0 : Int32) (h : PH) : Option ((Int32 × Int32 × Int32) ⊕ (Int32 × PH)) :=
  if (v3 < t0) then (gd (hK h v0 = 12) (gs (hR h 12 v0 19) (fun a19 =>
  gd (hK h a19 = 20 ∧ inb v4 (hN h a19)) (fX12_companion_b84 v0 v1 (hI h 20 a19 (Int32.toNatClampNeg v4)) t0 v4 h)))) else
  fX12_companion_b84 v0 v1 v2 v3 v4 h
set_option maxRecDepth 100000 in
theorem mX12_companion_b62 {v0 : Nat} {v1 : Int32} {v2 : Int32} {v3 : Int32} {v4 : Int32} {t0 : Int32} {h : PH} {x : ((Int32 × Int32 × Int32) ⊕ (Int32 × PH))} (hf : fX12_companion_b62 v0 v1 v2 v3 v4 t0 h = some x) : (∀ w9 : (Int32 × PH), x = .inr w9 → eqz h (hX w9.2) (hV w9.2)) := by
  unfold fX12_companion_b62 at hf
  have hle := eqz_rf h
  rcases ite_or hf with ⟨q, hf⟩ | ⟨q, hf⟩
  · have hf := if_t q hf
    obtain ⟨hk18, hf⟩ := gd_some hf
    obtain ⟨a19, e20, hf⟩ := gs_some hf
    obtain ⟨⟨hk22, hb21⟩, hf⟩ := gd_some hf
    obtain cf := mX12_companion_b84 hf
    exact fun z e => eqz_rt (cf z (e)) hle
  · have hf := if_f q hf
    obtain cf := mX12_companion_b84 hf
    exact fun z e => eqz_rt (cf z (e)) hle
set_option maxRecDepth 100000 in
theorem wX12_companion_b62 {E : PE} {p : Program} {l : Launch} {e : Env} {s : State} {m : MethodId} {args : Array Value} {below : List Frame} {meth : Method} {c : Code} (X : Cx E p l e (rmv 5 0 0) s m args below meth c RX12 cX12_companion 6 (some .int)) (hG : Gs E l) (hnm : meth.name = yX12_companion.name) {v0 : Nat} {v1 : Int32} {v2 : Int32} {v3 : Int32} {v4 : Int32} {t0 : Int32} {h : PH} {r : (Int32 × PH)} {x : ((Int32 × Int32 × Int32) ⊕ (Int32 × PH))} (hf : fX12_companion_b62 v0 v1 v2 v3 v4 t0 h = some x) (k0 : ∀ z : (Int32 × Int32 × Int32), x = .inl z → PW E p l e (rmv 5 0 0) s m args below meth c 6 0 0 (MQ below (QG E (fun v u => v = some (.int r.1) ∧ u = r.2)) args s 0 0 (pA E)) h 26 [(0, some (.ref v0)), (1, some (.int v1)), (2, some (.int (z.1))), (3, some (.int (z.2.1))), (4, some (.int (z.2.2)))] []) (kf : ∀ z : (Int32 × PH), x = .inr z → z = r) : PW E p l e (rmv 5 0 0) s m args below meth c 6 0 0 (MQ below (QG E (fun v u => v = some (.int r.1) ∧ u = r.2)) args s 0 0 (pA E)) h 62 [(0, some (.ref v0)), (1, some (.int v1)), (2, some (.int v2)), (3, some (.int v3)), (4, some (.int v4))] [.int t0] := by
  unfold fX12_companion_b62 at hf
  refine p_istore X (dcg dc_X12_companion 36 rfl) (by decide) rfl ?_
  refine p_iload X (dcg dc_X12_companion 37 rfl) rfl ?_
  refine p_iload_n X (dcg dc_X12_companion 38 rfl) rfl rfl ?_
  refine p_icmp_gt (tgt := 73) X (dcg dc_X12_companion 39 rfl) (by decide) (fun q => ?_) (fun q => ?_)
  · have hf := if_t q hf
    refine p_iload X (dcg dc_X12_companion 41 rfl) rfl ?_
    refine p_istore_n X (dcg dc_X12_companion 42 rfl) rfl (by decide) rfl ?_
    refine p_aload_n X (dcg dc_X12_companion 43 rfl) rfl rfl ?_
    obtain ⟨hk18, hf⟩ := gd_some hf
    refine p_getR X fl_X12_57 rfl (by decide) (dcg dc_X12_companion 44 rfl) hk18 ?_
    refine p_iload X (dcg dc_X12_companion 45 rfl) rfl ?_
    obtain ⟨a19, e20, hf⟩ := gs_some hf
    first | subst e20 | (try rw [e20])
    obtain ⟨⟨hk22, hb21⟩, hf⟩ := gd_some hf
    refine p_iald X (dcg dc_X12_companion 46 rfl) hk22 (vp_of_inb hb21) ?_
    refine p_istore_n X (dcg dc_X12_companion 47 rfl) rfl (by decide) rfl ?_
    refine p_pick [0, 1, 2, 3, 4] ?_
    exact wX12_companion_b84 X hG hnm hf k0 kf
  · have hf := if_f q hf
    refine p_goto (tgt := 84) X (dcg dc_X12_companion 40 rfl) (by decide) ?_
    refine p_pick [0, 1, 2, 3, 4] ?_
    exact wX12_companion_b84 X hG hnm hf k0 kf
noncomputable def fX12_companion_c26 (v0 : Nat) (v1 : Int32) (v2 : Int32) (v3 : Int32) (v4 : Int32) (h : PH) : Option ((Int32 × Int32 × Int32) ⊕ (Int32 × PH)) :=
  gd (hK h v0 = 12) (if ((hI h 12 v0 20) ≤ v4) then (mr (some ((v2, h)))) else
  gs (hR h 12 v0 19) (fun a9 =>
  gd (hK h a9 = 20 ∧ inb v4 (hN h a9)) (if (¬ (hI h 20 a9 (Int32.toNatClampNeg v4)) = v1) then (gs (hR h 12 v0 19) (fun a13 =>
  gd (hK h a13 = 20 ∧ inb v4 (hN h a13)) (bd (fX12_manyTogether v0 v1 (hI h 20 a13 (Int32.toNatClampNeg v4)) h) (fun z17 =>
  fX12_companion_b62 v0 v1 v2 v3 v4 z17 h)))) else
  fX12_companion_b62 v0 v1 v2 v3 v4 (0 : Int32) h)))
set_option maxRecDepth 100000 in
theorem mX12_companion_c26 {v0 : Nat} {v1 : Int32} {v2 : Int32} {v3 : Int32} {v4 : Int32} {h : PH} {x : ((Int32 × Int32 × Int32) ⊕ (Int32 × PH))} (hf : fX12_companion_c26 v0 v1 v2 v3 v4 h = some x) : (∀ w9 : (Int32 × PH), x = .inr w9 → eqz h (hX w9.2) (hV w9.2)) := by
  unfold fX12_companion_c26 at hf
  have hle := eqz_rf h
  obtain ⟨hk6, hf⟩ := gd_some hf
  rcases ite_or hf with ⟨q, hf⟩ | ⟨q, hf⟩
  · have hf := if_t q hf
    obtain ⟨y7, hfm, rfl⟩ := mr_some hf; have hf := hfm; clear hfm
    have ee := Option.some.inj hf; subst ee
    exact (fun z e => by have ee := Sum.inr.inj (e); subst ee; exact hle)
  · have hf := if_f q hf
    obtain ⟨a9, e10, hf⟩ := gs_some hf
    obtain ⟨⟨hk12, hb11⟩, hf⟩ := gd_some hf
    rcases ite_or hf with ⟨q, hf⟩ | ⟨q, hf⟩
    · have hf := if_t q hf
      obtain ⟨a13, e14, hf⟩ := gs_some hf
      obtain ⟨⟨hk16, hb15⟩, hf⟩ := gd_some hf
      obtain ⟨z17, hz17, hf⟩ := bd_some hf
      obtain cf := mX12_companion_b62 hf
      exact fun z e => eqz_rt (cf z (e)) hle
    · have hf := if_f q hf
      obtain cf := mX12_companion_b62 hf
      exact fun z e => eqz_rt (cf z (e)) hle
set_option maxRecDepth 100000 in
theorem wX12_companion_c26 {E : PE} {p : Program} {l : Launch} {e : Env} {s : State} {m : MethodId} {args : Array Value} {below : List Frame} {meth : Method} {c : Code} (X : Cx E p l e (rmv 5 0 0) s m args below meth c RX12 cX12_companion 6 (some .int)) (hG : Gs E l) (hnm : meth.name = yX12_companion.name) {v0 : Nat} {v1 : Int32} {v2 : Int32} {v3 : Int32} {v4 : Int32} {h : PH} {r : (Int32 × PH)} {x : ((Int32 × Int32 × Int32) ⊕ (Int32 × PH))} (hf : fX12_companion_c26 v0 v1 v2 v3 v4 h = some x) (k0 : ∀ z : (Int32 × Int32 × Int32), x = .inl z → PW E p l e (rmv 5 0 0) s m args below meth c 6 0 0 (MQ below (QG E (fun v u => v = some (.int r.1) ∧ u = r.2)) args s 0 0 (pA E)) h 26 [(0, some (.ref v0)), (1, some (.int v1)), (2, some (.int (z.1))), (3, some (.int (z.2.1))), (4, some (.int (z.2.2)))] []) (kf : ∀ z : (Int32 × PH), x = .inr z → z = r) : PW E p l e (rmv 5 0 0) s m args below meth c 6 0 0 (MQ below (QG E (fun v u => v = some (.int r.1) ∧ u = r.2)) args s 0 0 (pA E)) h 26 [(0, some (.ref v0)), (1, some (.int v1)), (2, some (.int v2)), (3, some (.int v3)), (4, some (.int v4))] [] := by
  unfold fX12_companion_c26 at hf
  refine p_iload X (dcg dc_X12_companion 17 rfl) rfl ?_
  refine p_aload_n X (dcg dc_X12_companion 18 rfl) rfl rfl ?_
  obtain ⟨hk6, hf⟩ := gd_some hf
  refine p_getI X fl_X12_225 rfl (by decide) (dcg dc_X12_companion 19 rfl) hk6 ?_
  refine p_icmp_ge (tgt := 90) X (dcg dc_X12_companion 20 rfl) (by decide) (fun q => ?_) (fun q => ?_)
  · have hf := if_t q hf
    obtain ⟨y7, hf, hy8⟩ := mr_some hf
    have hy8f := kf y7 hy8
    subst hy8f
    refine p_iload_n X (dcg dc_X12_companion 50 rfl) rfl rfl ?_
    have er := Option.some.inj hf
    subst er
    exact p_iret X rfl (dcg dc_X12_companion 51 rfl) ⟨rfl, rfl⟩ (Nat.le_refl _) (Nat.le_refl _)
  · have hf := if_f q hf
    refine p_aload_n X (dcg dc_X12_companion 21 rfl) rfl rfl ?_
    refine p_getR X fl_X12_57 rfl (by decide) (dcg dc_X12_companion 22 rfl) hk6 ?_
    refine p_iload X (dcg dc_X12_companion 23 rfl) rfl ?_
    obtain ⟨a9, e10, hf⟩ := gs_some hf
    first | subst e10 | (try rw [e10])
    obtain ⟨⟨hk12, hb11⟩, hf⟩ := gd_some hf
    refine p_iald X (dcg dc_X12_companion 24 rfl) hk12 (vp_of_inb hb11) ?_
    refine p_iload_n X (dcg dc_X12_companion 25 rfl) rfl rfl ?_
    refine p_icmp_ne (tgt := 50) X (dcg dc_X12_companion 26 rfl) (by decide) (fun q => ?_) (fun q => ?_)
    · have hf := if_t q hf
      refine p_aload_n X (dcg dc_X12_companion 29 rfl) rfl rfl ?_
      refine p_iload_n X (dcg dc_X12_companion 30 rfl) rfl rfl ?_
      refine p_aload_n X (dcg dc_X12_companion 31 rfl) rfl rfl ?_
      refine p_getR X fl_X12_57 rfl (by decide) (dcg dc_X12_companion 32 rfl) hk6 ?_
      refine p_iload X (dcg dc_X12_companion 33 rfl) rfl ?_
      obtain ⟨a13, e14, hf⟩ := gs_some hf
      first | subst e14 | (try rw [e14])
      obtain ⟨⟨hk16, hb15⟩, hf⟩ := gd_some hf
      refine p_iald X (dcg dc_X12_companion 34 rfl) hk16 (vp_of_inb hb15) ?_
      obtain ⟨z17, hz17, hf⟩ := bd_some hf
      refine p_callV (As := [_, _]) X ml_X12_249 (dcg dc_X12_companion 35 rfl) rfl rfl hk6 (wX12_manyTogether hG hz17) (by decide) (room4 (Nat.le_of_ble_eq_true rfl)) (Nat.le_refl _) (Nat.le_refl _) ?_
      rintro _ u9 ⟨rfl, e9⟩; have e9 := e9.symm; subst e9
      refine p_pick [0, 1, 2, 3, 4] ?_
      exact wX12_companion_b62 X hG hnm hf k0 kf
    · have hf := if_f q hf
      refine p_iconst (v := 0) X (dcg dc_X12_companion 27 rfl) (by decide) ?_
      refine p_goto (tgt := 62) X (dcg dc_X12_companion 28 rfl) (by decide) ?_
      refine p_pick [0, 1, 2, 3, 4] ?_
      exact wX12_companion_b62 X hG hnm hf k0 kf
noncomputable def fX12_companion_l26 (v0 : Nat) (v1 : Int32) (v2 : Int32) (v3 : Int32) (v4 : Int32) (h : PH) : Option (Int32 × PH) := wh (fun z : (Int32 × Int32 × Int32) => fX12_companion_c26 v0 v1 (z.1) (z.2.1) (z.2.2) h) (v2, v3, v4)
set_option maxRecDepth 100000 in
theorem mX12_companion_l26 {v0 : Nat} {v1 : Int32} {v2 : Int32} {v3 : Int32} {v4 : Int32} {h : PH} {r : (Int32 × PH)} (hf : fX12_companion_l26 v0 v1 v2 v3 v4 h = some r) : eqz h (hX r.2) (hV r.2) := by
  unfold fX12_companion_l26 at hf
  refine wh_ind (P := fun z => eqz h (hX r.2) (hV r.2)) (fun z x0 hs i1 i2 => ?_) _ hf
  obtain cf := mX12_companion_c26 (v0 := v0) (v1 := v1) (v2 := z.1) (v3 := z.2.1) (v4 := z.2.2) (h := h) hs
  rcases hxx : x0 with zz | zz
  · exact (i1 zz hxx)
  · have ee := i2 zz hxx; subst ee; exact cf zz hxx
set_option maxRecDepth 100000 in
theorem wX12_companion_l26 {E : PE} {p : Program} {l : Launch} {e : Env} {s : State} {m : MethodId} {args : Array Value} {below : List Frame} {meth : Method} {c : Code} (X : Cx E p l e (rmv 5 0 0) s m args below meth c RX12 cX12_companion 6 (some .int)) (hG : Gs E l) (hnm : meth.name = yX12_companion.name) {v0 : Nat} {v1 : Int32} {v2 : Int32} {v3 : Int32} {v4 : Int32} {h : PH} {r : (Int32 × PH)} (hf : fX12_companion_l26 v0 v1 v2 v3 v4 h = some r)  : PW E p l e (rmv 5 0 0) s m args below meth c 6 0 0 (MQ below (QG E (fun v u => v = some (.int r.1) ∧ u = r.2)) args s 0 0 (pA E)) h 26 [(0, some (.ref v0)), (1, some (.int v1)), (2, some (.int v2)), (3, some (.int v3)), (4, some (.int v4))] [] := by
  unfold fX12_companion_l26 at hf
  refine wh_ind (P := fun z => PW E p l e (rmv 5 0 0) s m args below meth c 6 0 0 (MQ below (QG E (fun v u => v = some (.int r.1) ∧ u = r.2)) args s 0 0 (pA E)) h 26 [(0, some (.ref v0)), (1, some (.int v1)), (2, some (.int (z.1))), (3, some (.int (z.2.1))), (4, some (.int (z.2.2)))] []) (fun z x0 hs i1 i2 => ?_) _ hf
  exact wX12_companion_c26 (r := r) (v0 := v0) (v1 := v1) (v2 := z.1) (v3 := z.2.1) (v4 := z.2.2) (h := h) X hG hnm hs i1  i2
noncomputable def fX12_companion (v0 : Nat) (v1 : Int32) (h : PH) : Option (Int32 × PH) :=
  gd (hK h v0 = 12) (lt (sI h 12 v0 0 (0 : Int32)) (fun h2 =>
  bd (fX12_noWord v0 v1 h2) (fun z3 =>
  if (z3.1 = 0) then (gd (hK z3.2 v0 = 12) (bd (fX12_finds v0 z3.2) (fun z5 =>
  fX12_companion_l26 v0 v1 (-1 : Int32) (0 : Int32) (0 : Int32) z5))) else
  some (((0 : Int32), z3.2)))))
set_option maxRecDepth 100000 in
theorem mX12_companion {v0 : Nat} {v1 : Int32} {h : PH} {r : (Int32 × PH)} (hf : fX12_companion v0 v1 h = some r) : eqz h (hX r.2) (hV r.2) := by
  unfold fX12_companion at hf
  have hle := eqz_rf h
  obtain ⟨hk1, hf⟩ := gd_some hf
  obtain ⟨h2, rfl, hf⟩ := lt_some hf
  obtain ⟨z3, hz3, hf⟩ := bd_some hf
  have hle := eqz_rt (mX12_noWord hz3) hle
  rcases ite_or hf with ⟨q, hf⟩ | ⟨q, hf⟩
  · have hf := if_t q hf
    obtain ⟨hk4, hf⟩ := gd_some hf
    obtain ⟨z5, hz5, hf⟩ := bd_some hf
    have hle := eqz_rt (mX12_finds hz5) hle
    exact eqz_rt (mX12_companion_l26 hf) hle
  · have hf := if_f q hf
    have ee := Option.some.inj hf; subst ee; exact hle
set_option maxRecDepth 100000 in
theorem wX12_companion {E : PE} {l : Launch} (hG : Gs E l) {v0 : Nat} {v1 : Int32} {h : PH} {r : (Int32 × PH)} (hf : fX12_companion v0 v1 h = some r) : Ct E l 5 0 0 yX12_companion cX12_companion 6 (some .int) [.ref v0, .int v1] h (fun v u => v = some (.int r.1) ∧ u = r.2) := by
  refine ct_of hG (by decide) (Nat.le_of_ble_eq_true rfl) ?_
  intro p e s m args below meth c X hnm
  show PW E p l e _ s m args below meth c _ 0 0 _ h 0 [(0, some (.ref v0)), (1, some (.int v1))] []
  unfold fX12_companion at hf
  refine p_aload_n X (dcg dc_X12_companion 0 rfl) rfl rfl ?_
  refine p_iconst (v := 0) X (dcg dc_X12_companion 1 rfl) (by decide) ?_
  obtain ⟨hk1, hf⟩ := gd_some hf
  refine p_putI X fl_X12_1 rfl (by decide) (fun q hq => by cases hq; rfl) rfl rfl (dcg dc_X12_companion 2 rfl) hk1 ?_
  obtain ⟨h2, rfl, hf⟩ := lt_some hf
  refine p_aload_n X (dcg dc_X12_companion 3 rfl) rfl rfl ?_
  refine p_iload_n X (dcg dc_X12_companion 4 rfl) rfl rfl ?_
  obtain ⟨z3, hz3, hf⟩ := bd_some hf
  refine p_callV (As := [_]) X ml_X12_240 (dcg dc_X12_companion 5 rfl) rfl rfl hk1 (wX12_noWord hG hz3) (by decide) (room4 (Nat.le_of_ble_eq_true rfl)) (Nat.le_refl _) (Nat.le_refl _) ?_
  rintro _ u9 ⟨rfl, e9⟩; have e9 := e9.symm; subst e9
  refine p_if_eq (tgt := 15) X (dcg dc_X12_companion 6 rfl) (by decide) (fun q => ?_) (fun q => ?_)
  · have hf := if_t q hf
    refine p_aload_n X (dcg dc_X12_companion 9 rfl) rfl rfl ?_
    obtain ⟨hk4, hf⟩ := gd_some hf
    obtain ⟨z5, hz5, hf⟩ := bd_some hf
    refine p_callV (As := []) X ml_X12_237 (dcg dc_X12_companion 10 rfl) rfl rfl hk4 (wX12_finds hG hz5) (by decide) (room4 (Nat.le_of_ble_eq_true rfl)) (Nat.le_refl _) (Nat.le_refl _) ?_
    rintro _ u9 ⟨rfl, e9⟩; have e9 := e9.symm; subst e9
    refine p_iconst (v := -1) X (dcg dc_X12_companion 11 rfl) (by decide) ?_
    refine p_istore_n X (dcg dc_X12_companion 12 rfl) rfl (by decide) rfl ?_
    refine p_iconst (v := 0) X (dcg dc_X12_companion 13 rfl) (by decide) ?_
    refine p_istore_n X (dcg dc_X12_companion 14 rfl) rfl (by decide) rfl ?_
    refine p_iconst (v := 0) X (dcg dc_X12_companion 15 rfl) (by decide) ?_
    refine p_istore X (dcg dc_X12_companion 16 rfl) (by decide) rfl ?_
    refine p_pick [0, 1, 2, 3, 4] ?_
    exact wX12_companion_l26 X hG hnm hf 
  · have hf := if_f q hf
    refine p_iconst (v := 0) X (dcg dc_X12_companion 7 rfl) (by decide) ?_
    have er := Option.some.inj hf
    subst er
    exact p_iret X rfl (dcg dc_X12_companion 8 rfl) ⟨rfl, rfl⟩ (Nat.le_refl _) (Nat.le_refl _)
theorem dc_X12_isLonger : decs cX12_isLonger [(0, .iload_n 0, 1), (1, .invokestatic 144, 3), (4, .iload_n 1, 1), (5, .invokestatic 144, 3), (8, .iconst 1, 1), (9, .iadd, 1), (10, .if_icmp .eq 5, 3), (13, .iconst 0, 1), (14, .ireturn, 1), (15, .iconst 0, 1), (16, .istore_n 2, 1), (17, .iload_n 2, 1), (18, .iload_n 1, 1), (19, .invokestatic 144, 3), (22, .if_icmp .ge 22, 3), (25, .iload_n 0, 1), (26, .iload_n 2, 1), (27, .invokestatic 222, 3), (30, .iload_n 1, 1), (31, .iload_n 2, 1), (32, .invokestatic 222, 3), (35, .if_icmp .ne 9, 3), (38, .iinc 2 1, 3), (41, .goto (-24), 3), (44, .iload_n 2, 1), (45, .iload_n 1, 1), (46, .invokestatic 144, 3), (49, .if_icmp .ge 24, 3), (52, .iload_n 0, 1), (53, .iload_n 2, 1), (54, .iconst 1, 1), (55, .iadd, 1), (56, .invokestatic 222, 3), (59, .iload_n 1, 1), (60, .iload_n 2, 1), (61, .invokestatic 222, 3), (64, .if_icmp .ne 9, 3), (67, .iinc 2 1, 3), (70, .goto (-26), 3), (73, .iload_n 2, 1), (74, .iload_n 1, 1), (75, .invokestatic 144, 3), (78, .if_icmp .ne 7, 3), (81, .iconst 1, 1), (82, .goto 4, 3), (85, .iconst 0, 1), (86, .ireturn, 1)] = true := by decide +kernel
noncomputable def fX12_isLonger_b86 (t0 : Int32) : Option Int32 :=
  gd (t0 &&& 1 = t0) (some (t0))
set_option maxRecDepth 100000 in
theorem wX12_isLonger_b86 {E : PE} {p : Program} {l : Launch} {e : Env} {s : State} {m : MethodId} {args : Array Value} {below : List Frame} {meth : Method} {c : Code} (X : Cx E p l e (rmv 2 0 0) s m args below meth c RX12 cX12_isLonger 3 (some .boolean)) (hG : Gs E l) (hnm : meth.name = yX12_isLonger.name) {t0 : Int32} {h : PH} {r : Int32} (hf : fX12_isLonger_b86 t0 = some r)  : PW E p l e (rmv 2 0 0) s m args below meth c 3 0 0 (MQ below (QG E (fun v u => v = some (.int r) ∧ u = h)) args s 0 0 (pA E)) h 86 [] [.int t0] := by
  unfold fX12_isLonger_b86 at hf
  obtain ⟨hg6, hf⟩ := gd_some hf
  have er := Option.some.inj hf
  subst er
  exact p_zret X rfl (congrArg Value.int hg6) (dcg dc_X12_isLonger 46 rfl) ⟨rfl, rfl⟩ (Nat.le_refl _) (Nat.le_refl _)
noncomputable def fX12_isLonger_b73 (v1 : Int32) (v2 : Int32) : Option Int32 :=
  bd (fX12_letters v1) (fun z5 =>
  if (¬ v2 = z5) then (fX12_isLonger_b86 (0 : Int32)) else
  fX12_isLonger_b86 (1 : Int32))
set_option maxRecDepth 100000 in
theorem wX12_isLonger_b73 {E : PE} {p : Program} {l : Launch} {e : Env} {s : State} {m : MethodId} {args : Array Value} {below : List Frame} {meth : Method} {c : Code} (X : Cx E p l e (rmv 2 0 0) s m args below meth c RX12 cX12_isLonger 3 (some .boolean)) (hG : Gs E l) (hnm : meth.name = yX12_isLonger.name) {v1 : Int32} {v2 : Int32} {h : PH} {r : Int32} (hf : fX12_isLonger_b73 v1 v2 = some r)  : PW E p l e (rmv 2 0 0) s m args below meth c 3 0 0 (MQ below (QG E (fun v u => v = some (.int r) ∧ u = h)) args s 0 0 (pA E)) h 73 [(1, some (.int v1)), (2, some (.int v2))] [] := by
  unfold fX12_isLonger_b73 at hf
  refine p_iload_n X (dcg dc_X12_isLonger 39 rfl) rfl rfl ?_
  refine p_iload_n X (dcg dc_X12_isLonger 40 rfl) rfl rfl ?_
  obtain ⟨z5, hz5, hf⟩ := bd_some hf
  refine p_callS (As := [_]) X ml_X12_144 (dcg dc_X12_isLonger 41 rfl) rfl rfl  (wX12_letters hG hz5) (by decide) (room4 (Nat.le_of_ble_eq_true rfl)) (Nat.le_refl _) (Nat.le_refl _) ?_
  rintro _ u9 ⟨rfl, e9⟩; have e9 := e9.symm; subst e9
  refine p_icmp_ne (tgt := 85) X (dcg dc_X12_isLonger 42 rfl) (by decide) (fun q => ?_) (fun q => ?_)
  · have hf := if_t q hf
    refine p_iconst (v := 0) X (dcg dc_X12_isLonger 45 rfl) (by decide) ?_
    refine p_pick [] ?_
    exact wX12_isLonger_b86 X hG hnm hf 
  · have hf := if_f q hf
    refine p_iconst (v := 1) X (dcg dc_X12_isLonger 43 rfl) (by decide) ?_
    refine p_goto (tgt := 86) X (dcg dc_X12_isLonger 44 rfl) (by decide) ?_
    refine p_pick [] ?_
    exact wX12_isLonger_b86 X hG hnm hf 
noncomputable def fX12_isLonger_c44 (v0 : Int32) (v1 : Int32) (v2 : Int32) : Option ((Int32) ⊕ Int32) :=
  bd (fX12_letters v1) (fun z4 =>
  if (z4 ≤ v2) then (mr (fX12_isLonger_b73 v1 v2)) else
  bd (fX12_letterOf v0 (v2 + (1 : Int32))) (fun z9 =>
  bd (fX12_letterOf v1 v2) (fun z10 =>
  if (¬ z9 = z10) then (mr (fX12_isLonger_b73 v1 v2)) else
  some (.inl ((v2 + 1))))))
set_option maxRecDepth 100000 in
theorem wX12_isLonger_c44 {E : PE} {p : Program} {l : Launch} {e : Env} {s : State} {m : MethodId} {args : Array Value} {below : List Frame} {meth : Method} {c : Code} (X : Cx E p l e (rmv 2 0 0) s m args below meth c RX12 cX12_isLonger 3 (some .boolean)) (hG : Gs E l) (hnm : meth.name = yX12_isLonger.name) {v0 : Int32} {v1 : Int32} {v2 : Int32} {h : PH} {r : Int32} {x : ((Int32) ⊕ Int32)} (hf : fX12_isLonger_c44 v0 v1 v2 = some x) (k0 : ∀ z : (Int32), x = .inl z → PW E p l e (rmv 2 0 0) s m args below meth c 3 0 0 (MQ below (QG E (fun v u => v = some (.int r) ∧ u = h)) args s 0 0 (pA E)) h 44 [(0, some (.int v0)), (1, some (.int v1)), (2, some (.int (z)))] []) (kf : ∀ z : Int32, x = .inr z → z = r) : PW E p l e (rmv 2 0 0) s m args below meth c 3 0 0 (MQ below (QG E (fun v u => v = some (.int r) ∧ u = h)) args s 0 0 (pA E)) h 44 [(0, some (.int v0)), (1, some (.int v1)), (2, some (.int v2))] [] := by
  unfold fX12_isLonger_c44 at hf
  refine p_iload_n X (dcg dc_X12_isLonger 24 rfl) rfl rfl ?_
  refine p_iload_n X (dcg dc_X12_isLonger 25 rfl) rfl rfl ?_
  obtain ⟨z4, hz4, hf⟩ := bd_some hf
  refine p_callS (As := [_]) X ml_X12_144 (dcg dc_X12_isLonger 26 rfl) rfl rfl  (wX12_letters hG hz4) (by decide) (room4 (Nat.le_of_ble_eq_true rfl)) (Nat.le_refl _) (Nat.le_refl _) ?_
  rintro _ u9 ⟨rfl, e9⟩; have e9 := e9.symm; subst e9
  refine p_icmp_ge (tgt := 73) X (dcg dc_X12_isLonger 27 rfl) (by decide) (fun q => ?_) (fun q => ?_)
  · have hf := if_t q hf
    obtain ⟨y7, hf, hy8⟩ := mr_some hf
    have hy8f := kf y7 hy8
    subst hy8f
    refine p_pick [1, 2] ?_
    exact wX12_isLonger_b73 X hG hnm hf 
  · have hf := if_f q hf
    refine p_iload_n X (dcg dc_X12_isLonger 28 rfl) rfl rfl ?_
    refine p_iload_n X (dcg dc_X12_isLonger 29 rfl) rfl rfl ?_
    refine p_iconst (v := 1) X (dcg dc_X12_isLonger 30 rfl) (by decide) ?_
    refine p_iadd X (dcg dc_X12_isLonger 31 rfl) ?_
    obtain ⟨z9, hz9, hf⟩ := bd_some hf
    refine p_callS (As := [_, _]) X ml_X12_222 (dcg dc_X12_isLonger 32 rfl) rfl rfl  (wX12_letterOf hG hz9) (by decide) (room4 (Nat.le_of_ble_eq_true rfl)) (Nat.le_refl _) (Nat.le_refl _) ?_
    rintro _ u9 ⟨rfl, e9⟩; have e9 := e9.symm; subst e9
    refine p_iload_n X (dcg dc_X12_isLonger 33 rfl) rfl rfl ?_
    refine p_iload_n X (dcg dc_X12_isLonger 34 rfl) rfl rfl ?_
    obtain ⟨z10, hz10, hf⟩ := bd_some hf
    refine p_callS (As := [_, _]) X ml_X12_222 (dcg dc_X12_isLonger 35 rfl) rfl rfl  (wX12_letterOf hG hz10) (by decide) (room4 (Nat.le_of_ble_eq_true rfl)) (Nat.le_refl _) (Nat.le_refl _) ?_
    rintro _ u9 ⟨rfl, e9⟩; have e9 := e9.symm; subst e9
    refine p_icmp_ne (tgt := 73) X (dcg dc_X12_isLonger 36 rfl) (by decide) (fun q => ?_) (fun q => ?_)
    · have hf := if_t q hf
      obtain ⟨y11, hf, hy12⟩ := mr_some hf
      have hy12f := kf y11 hy12
      subst hy12f
      refine p_pick [1, 2] ?_
      exact wX12_isLonger_b73 X hG hnm hf 
    · have hf := if_f q hf
      refine p_iinc (v := 1) X (dcg dc_X12_isLonger 37 rfl) rfl (by decide) (by decide) rfl ?_
      refine p_goto (tgt := 44) X (dcg dc_X12_isLonger 38 rfl) (by decide) ?_
      refine p_pick [0, 1, 2] ?_
      exact k0 _ (Option.some.inj hf).symm
noncomputable def fX12_isLonger_l44 (v0 : Int32) (v1 : Int32) (v2 : Int32) : Option Int32 := wh (fun z : (Int32) => fX12_isLonger_c44 v0 v1 (z)) (v2)
set_option maxRecDepth 100000 in
theorem wX12_isLonger_l44 {E : PE} {p : Program} {l : Launch} {e : Env} {s : State} {m : MethodId} {args : Array Value} {below : List Frame} {meth : Method} {c : Code} (X : Cx E p l e (rmv 2 0 0) s m args below meth c RX12 cX12_isLonger 3 (some .boolean)) (hG : Gs E l) (hnm : meth.name = yX12_isLonger.name) {v0 : Int32} {v1 : Int32} {v2 : Int32} {h : PH} {r : Int32} (hf : fX12_isLonger_l44 v0 v1 v2 = some r)  : PW E p l e (rmv 2 0 0) s m args below meth c 3 0 0 (MQ below (QG E (fun v u => v = some (.int r) ∧ u = h)) args s 0 0 (pA E)) h 44 [(0, some (.int v0)), (1, some (.int v1)), (2, some (.int v2))] [] := by
  unfold fX12_isLonger_l44 at hf
  refine wh_ind (P := fun z => PW E p l e (rmv 2 0 0) s m args below meth c 3 0 0 (MQ below (QG E (fun v u => v = some (.int r) ∧ u = h)) args s 0 0 (pA E)) h 44 [(0, some (.int v0)), (1, some (.int v1)), (2, some (.int (z)))] []) (fun z x0 hs i1 i2 => ?_) _ hf
  exact wX12_isLonger_c44 (r := r) (v0 := v0) (v1 := v1) (v2 := z) (h := h) X hG hnm hs i1  i2
noncomputable def fX12_isLonger_c17 (v0 : Int32) (v1 : Int32) (v2 : Int32) : Option ((Int32) ⊕ Int32) :=
  bd (fX12_letters v1) (fun z3 =>
  if (z3 ≤ v2) then (mr (fX12_isLonger_l44 v0 v1 v2)) else
  bd (fX12_letterOf v0 v2) (fun z15 =>
  bd (fX12_letterOf v1 v2) (fun z16 =>
  if (¬ z15 = z16) then (mr (fX12_isLonger_l44 v0 v1 v2)) else
  some (.inl ((v2 + 1))))))
set_option maxRecDepth 100000 in
theorem wX12_isLonger_c17 {E : PE} {p : Program} {l : Launch} {e : Env} {s : State} {m : MethodId} {args : Array Value} {below : List Frame} {meth : Method} {c : Code} (X : Cx E p l e (rmv 2 0 0) s m args below meth c RX12 cX12_isLonger 3 (some .boolean)) (hG : Gs E l) (hnm : meth.name = yX12_isLonger.name) {v0 : Int32} {v1 : Int32} {v2 : Int32} {h : PH} {r : Int32} {x : ((Int32) ⊕ Int32)} (hf : fX12_isLonger_c17 v0 v1 v2 = some x) (k0 : ∀ z : (Int32), x = .inl z → PW E p l e (rmv 2 0 0) s m args below meth c 3 0 0 (MQ below (QG E (fun v u => v = some (.int r) ∧ u = h)) args s 0 0 (pA E)) h 17 [(0, some (.int v0)), (1, some (.int v1)), (2, some (.int (z)))] []) (kf : ∀ z : Int32, x = .inr z → z = r) : PW E p l e (rmv 2 0 0) s m args below meth c 3 0 0 (MQ below (QG E (fun v u => v = some (.int r) ∧ u = h)) args s 0 0 (pA E)) h 17 [(0, some (.int v0)), (1, some (.int v1)), (2, some (.int v2))] [] := by
  unfold fX12_isLonger_c17 at hf
  refine p_iload_n X (dcg dc_X12_isLonger 11 rfl) rfl rfl ?_
  refine p_iload_n X (dcg dc_X12_isLonger 12 rfl) rfl rfl ?_
  obtain ⟨z3, hz3, hf⟩ := bd_some hf
  refine p_callS (As := [_]) X ml_X12_144 (dcg dc_X12_isLonger 13 rfl) rfl rfl  (wX12_letters hG hz3) (by decide) (room4 (Nat.le_of_ble_eq_true rfl)) (Nat.le_refl _) (Nat.le_refl _) ?_
  rintro _ u9 ⟨rfl, e9⟩; have e9 := e9.symm; subst e9
  refine p_icmp_ge (tgt := 44) X (dcg dc_X12_isLonger 14 rfl) (by decide) (fun q => ?_) (fun q => ?_)
  · have hf := if_t q hf
    obtain ⟨y13, hf, hy14⟩ := mr_some hf
    have hy14f := kf y13 hy14
    subst hy14f
    refine p_pick [0, 1, 2] ?_
    exact wX12_isLonger_l44 X hG hnm hf 
  · have hf := if_f q hf
    refine p_iload_n X (dcg dc_X12_isLonger 15 rfl) rfl rfl ?_
    refine p_iload_n X (dcg dc_X12_isLonger 16 rfl) rfl rfl ?_
    obtain ⟨z15, hz15, hf⟩ := bd_some hf
    refine p_callS (As := [_, _]) X ml_X12_222 (dcg dc_X12_isLonger 17 rfl) rfl rfl  (wX12_letterOf hG hz15) (by decide) (room4 (Nat.le_of_ble_eq_true rfl)) (Nat.le_refl _) (Nat.le_refl _) ?_
    rintro _ u9 ⟨rfl, e9⟩; have e9 := e9.symm; subst e9
    refine p_iload_n X (dcg dc_X12_isLonger 18 rfl) rfl rfl ?_
    refine p_iload_n X (dcg dc_X12_isLonger 19 rfl) rfl rfl ?_
    obtain ⟨z16, hz16, hf⟩ := bd_some hf
    refine p_callS (As := [_, _]) X ml_X12_222 (dcg dc_X12_isLonger 20 rfl) rfl rfl  (wX12_letterOf hG hz16) (by decide) (room4 (Nat.le_of_ble_eq_true rfl)) (Nat.le_refl _) (Nat.le_refl _) ?_
    rintro _ u9 ⟨rfl, e9⟩; have e9 := e9.symm; subst e9
    refine p_icmp_ne (tgt := 44) X (dcg dc_X12_isLonger 21 rfl) (by decide) (fun q => ?_) (fun q => ?_)
    · have hf := if_t q hf
      obtain ⟨y17, hf, hy18⟩ := mr_some hf
      have hy18f := kf y17 hy18
      subst hy18f
      refine p_pick [0, 1, 2] ?_
      exact wX12_isLonger_l44 X hG hnm hf 
    · have hf := if_f q hf
      refine p_iinc (v := 1) X (dcg dc_X12_isLonger 22 rfl) rfl (by decide) (by decide) rfl ?_
      refine p_goto (tgt := 17) X (dcg dc_X12_isLonger 23 rfl) (by decide) ?_
      refine p_pick [0, 1, 2] ?_
      exact k0 _ (Option.some.inj hf).symm
noncomputable def fX12_isLonger_l17 (v0 : Int32) (v1 : Int32) (v2 : Int32) : Option Int32 := wh (fun z : (Int32) => fX12_isLonger_c17 v0 v1 (z)) (v2)
set_option maxRecDepth 100000 in
theorem wX12_isLonger_l17 {E : PE} {p : Program} {l : Launch} {e : Env} {s : State} {m : MethodId} {args : Array Value} {below : List Frame} {meth : Method} {c : Code} (X : Cx E p l e (rmv 2 0 0) s m args below meth c RX12 cX12_isLonger 3 (some .boolean)) (hG : Gs E l) (hnm : meth.name = yX12_isLonger.name) {v0 : Int32} {v1 : Int32} {v2 : Int32} {h : PH} {r : Int32} (hf : fX12_isLonger_l17 v0 v1 v2 = some r)  : PW E p l e (rmv 2 0 0) s m args below meth c 3 0 0 (MQ below (QG E (fun v u => v = some (.int r) ∧ u = h)) args s 0 0 (pA E)) h 17 [(0, some (.int v0)), (1, some (.int v1)), (2, some (.int v2))] [] := by
  unfold fX12_isLonger_l17 at hf
  refine wh_ind (P := fun z => PW E p l e (rmv 2 0 0) s m args below meth c 3 0 0 (MQ below (QG E (fun v u => v = some (.int r) ∧ u = h)) args s 0 0 (pA E)) h 17 [(0, some (.int v0)), (1, some (.int v1)), (2, some (.int (z)))] []) (fun z x0 hs i1 i2 => ?_) _ hf
  exact wX12_isLonger_c17 (r := r) (v0 := v0) (v1 := v1) (v2 := z) (h := h) X hG hnm hs i1  i2
noncomputable def fX12_isLonger (v0 : Int32) (v1 : Int32) : Option Int32 :=
  bd (fX12_letters v0) (fun z1 =>
  bd (fX12_letters v1) (fun z2 =>
  if (z1 = (z2 + (1 : Int32))) then (fX12_isLonger_l17 v0 v1 (0 : Int32)) else
  some ((0 : Int32))))
set_option maxRecDepth 100000 in
theorem wX12_isLonger {E : PE} {l : Launch} (hG : Gs E l) {v0 : Int32} {v1 : Int32} {h : PH} {r : Int32} (hf : fX12_isLonger v0 v1 = some r) : Ct E l 2 0 0 yX12_isLonger cX12_isLonger 3 (some .boolean) [.int v0, .int v1] h (fun v u => v = some (.int r) ∧ u = h) := by
  refine ct_of hG (by decide) (Nat.le_of_ble_eq_true rfl) ?_
  intro p e s m args below meth c X hnm
  show PW E p l e _ s m args below meth c _ 0 0 _ h 0 [(0, some (.int v0)), (1, some (.int v1))] []
  unfold fX12_isLonger at hf
  refine p_iload_n X (dcg dc_X12_isLonger 0 rfl) rfl rfl ?_
  obtain ⟨z1, hz1, hf⟩ := bd_some hf
  refine p_callS (As := [_]) X ml_X12_144 (dcg dc_X12_isLonger 1 rfl) rfl rfl  (wX12_letters hG hz1) (by decide) (room4 (Nat.le_of_ble_eq_true rfl)) (Nat.le_refl _) (Nat.le_refl _) ?_
  rintro _ u9 ⟨rfl, e9⟩; have e9 := e9.symm; subst e9
  refine p_iload_n X (dcg dc_X12_isLonger 2 rfl) rfl rfl ?_
  obtain ⟨z2, hz2, hf⟩ := bd_some hf
  refine p_callS (As := [_]) X ml_X12_144 (dcg dc_X12_isLonger 3 rfl) rfl rfl  (wX12_letters hG hz2) (by decide) (room4 (Nat.le_of_ble_eq_true rfl)) (Nat.le_refl _) (Nat.le_refl _) ?_
  rintro _ u9 ⟨rfl, e9⟩; have e9 := e9.symm; subst e9
  refine p_iconst (v := 1) X (dcg dc_X12_isLonger 4 rfl) (by decide) ?_
  refine p_iadd X (dcg dc_X12_isLonger 5 rfl) ?_
  refine p_icmp_eq (tgt := 15) X (dcg dc_X12_isLonger 6 rfl) (by decide) (fun q => ?_) (fun q => ?_)
  · have hf := if_t q hf
    refine p_iconst (v := 0) X (dcg dc_X12_isLonger 9 rfl) (by decide) ?_
    refine p_istore_n X (dcg dc_X12_isLonger 10 rfl) rfl (by decide) rfl ?_
    refine p_pick [0, 1, 2] ?_
    exact wX12_isLonger_l17 X hG hnm hf 
  · have hf := if_f q hf
    refine p_iconst (v := 0) X (dcg dc_X12_isLonger 7 rfl) (by decide) ?_
    have er := Option.some.inj hf
    subst er
    exact p_zret X rfl rfl (dcg dc_X12_isLonger 8 rfl) ⟨rfl, rfl⟩ (Nat.le_refl _) (Nat.le_refl _)
theorem dc_X12_areBeside : decs cX12_areBeside [(0, .iload_n 0, 1), (1, .iload_n 1, 1), (2, .invokestatic 252, 3), (5, .ifCond .ne 11, 3), (8, .iload_n 1, 1), (9, .iload_n 0, 1), (10, .invokestatic 252, 3), (13, .ifCond .eq 5, 3), (16, .iconst 1, 1), (17, .ireturn, 1), (18, .iload_n 0, 1), (19, .invokestatic 144, 3), (22, .iload_n 1, 1), (23, .invokestatic 144, 3), (26, .if_icmp .eq 5, 3), (29, .iconst 0, 1), (30, .ireturn, 1), (31, .iconst 0, 1), (32, .istore_n 2, 1), (33, .iconst 0, 1), (34, .istore_n 3, 1), (35, .iload_n 3, 1), (36, .iload_n 0, 1), (37, .invokestatic 144, 3), (40, .if_icmp .ge 30, 3), (43, .iload_n 2, 1), (44, .iload_n 0, 1), (45, .iload_n 3, 1), (46, .invokestatic 222, 3), (49, .iload_n 1, 1), (50, .iload_n 3, 1), (51, .invokestatic 222, 3), (54, .if_icmp .ne 7, 3), (57, .iconst 0, 1), (58, .goto 4, 3), (61, .iconst 1, 1), (62, .iadd, 1), (63, .istore_n 2, 1), (64, .iinc 3 1, 3), (67, .goto (-32), 3), (70, .iload_n 2, 1), (71, .iconst 1, 1), (72, .if_icmp .ne 7, 3), (75, .iconst 1, 1), (76, .goto 4, 3), (79, .iconst 0, 1), (80, .ireturn, 1)] = true := by decide +kernel
noncomputable def fX12_areBeside_b16  : Option Int32 :=
  some ((1 : Int32))
set_option maxRecDepth 100000 in
theorem wX12_areBeside_b16 {E : PE} {p : Program} {l : Launch} {e : Env} {s : State} {m : MethodId} {args : Array Value} {below : List Frame} {meth : Method} {c : Code} (X : Cx E p l e (rmv 3 0 0) s m args below meth c RX12 cX12_areBeside 4 (some .boolean)) (hG : Gs E l) (hnm : meth.name = yX12_areBeside.name)  {h : PH} {r : Int32} (hf : fX12_areBeside_b16  = some r)  : PW E p l e (rmv 3 0 0) s m args below meth c 4 0 0 (MQ below (QG E (fun v u => v = some (.int r) ∧ u = h)) args s 0 0 (pA E)) h 16 [] [] := by
  unfold fX12_areBeside_b16 at hf
  refine p_iconst (v := 1) X (dcg dc_X12_areBeside 8 rfl) (by decide) ?_
  have er := Option.some.inj hf
  subst er
  exact p_zret X rfl rfl (dcg dc_X12_areBeside 9 rfl) ⟨rfl, rfl⟩ (Nat.le_refl _) (Nat.le_refl _)
noncomputable def fX12_areBeside_b80 (t0 : Int32) : Option Int32 :=
  gd (t0 &&& 1 = t0) (some (t0))
set_option maxRecDepth 100000 in
theorem wX12_areBeside_b80 {E : PE} {p : Program} {l : Launch} {e : Env} {s : State} {m : MethodId} {args : Array Value} {below : List Frame} {meth : Method} {c : Code} (X : Cx E p l e (rmv 3 0 0) s m args below meth c RX12 cX12_areBeside 4 (some .boolean)) (hG : Gs E l) (hnm : meth.name = yX12_areBeside.name) {t0 : Int32} {h : PH} {r : Int32} (hf : fX12_areBeside_b80 t0 = some r)  : PW E p l e (rmv 3 0 0) s m args below meth c 4 0 0 (MQ below (QG E (fun v u => v = some (.int r) ∧ u = h)) args s 0 0 (pA E)) h 80 [] [.int t0] := by
  unfold fX12_areBeside_b80 at hf
  obtain ⟨hg8, hf⟩ := gd_some hf
  have er := Option.some.inj hf
  subst er
  exact p_zret X rfl (congrArg Value.int hg8) (dcg dc_X12_areBeside 46 rfl) ⟨rfl, rfl⟩ (Nat.le_refl _) (Nat.le_refl _)
noncomputable def fX12_areBeside_b62 (v0 : Int32) (v1 : Int32) (v3 : Int32) (t0 : Int32) (t1 : Int32) : Option ((Int32 × Int32) ⊕ Int32) :=
  some (.inl ((t0 + t1), (v3 + 1)))
set_option maxRecDepth 100000 in
theorem wX12_areBeside_b62 {E : PE} {p : Program} {l : Launch} {e : Env} {s : State} {m : MethodId} {args : Array Value} {below : List Frame} {meth : Method} {c : Code} (X : Cx E p l e (rmv 3 0 0) s m args below meth c RX12 cX12_areBeside 4 (some .boolean)) (hG : Gs E l) (hnm : meth.name = yX12_areBeside.name) {v0 : Int32} {v1 : Int32} {v3 : Int32} {t0 : Int32} {t1 : Int32} {h : PH} {r : Int32} {x : ((Int32 × Int32) ⊕ Int32)} (hf : fX12_areBeside_b62 v0 v1 v3 t0 t1 = some x) (k0 : ∀ z : (Int32 × Int32), x = .inl z → PW E p l e (rmv 3 0 0) s m args below meth c 4 0 0 (MQ below (QG E (fun v u => v = some (.int r) ∧ u = h)) args s 0 0 (pA E)) h 35 [(0, some (.int v0)), (1, some (.int v1)), (2, some (.int (z.1))), (3, some (.int (z.2)))] []) (kf : ∀ z : Int32, x = .inr z → z = r) : PW E p l e (rmv 3 0 0) s m args below meth c 4 0 0 (MQ below (QG E (fun v u => v = some (.int r) ∧ u = h)) args s 0 0 (pA E)) h 62 [(0, some (.int v0)), (1, some (.int v1)), (3, some (.int v3))] [.int t1, .int t0] := by
  unfold fX12_areBeside_b62 at hf
  refine p_iadd X (dcg dc_X12_areBeside 36 rfl) ?_
  refine p_istore_n X (dcg dc_X12_areBeside 37 rfl) rfl (by decide) rfl ?_
  refine p_iinc (v := 1) X (dcg dc_X12_areBeside 38 rfl) rfl (by decide) (by decide) rfl ?_
  refine p_goto (tgt := 35) X (dcg dc_X12_areBeside 39 rfl) (by decide) ?_
  refine p_pick [0, 1, 2, 3] ?_
  exact k0 _ (Option.some.inj hf).symm
noncomputable def fX12_areBeside_c35 (v0 : Int32) (v1 : Int32) (v2 : Int32) (v3 : Int32) : Option ((Int32 × Int32) ⊕ Int32) :=
  bd (fX12_letters v0) (fun z5 =>
  if (z5 ≤ v3) then (mr (if (¬ v2 = (1 : Int32)) then (fX12_areBeside_b80 (0 : Int32)) else
  fX12_areBeside_b80 (1 : Int32))) else
  bd (fX12_letterOf v0 v3) (fun z9 =>
  bd (fX12_letterOf v1 v3) (fun z10 =>
  if (¬ z9 = z10) then (fX12_areBeside_b62 v0 v1 v3 v2 (1 : Int32)) else
  fX12_areBeside_b62 v0 v1 v3 v2 (0 : Int32))))
set_option maxRecDepth 100000 in
theorem wX12_areBeside_c35 {E : PE} {p : Program} {l : Launch} {e : Env} {s : State} {m : MethodId} {args : Array Value} {below : List Frame} {meth : Method} {c : Code} (X : Cx E p l e (rmv 3 0 0) s m args below meth c RX12 cX12_areBeside 4 (some .boolean)) (hG : Gs E l) (hnm : meth.name = yX12_areBeside.name) {v0 : Int32} {v1 : Int32} {v2 : Int32} {v3 : Int32} {h : PH} {r : Int32} {x : ((Int32 × Int32) ⊕ Int32)} (hf : fX12_areBeside_c35 v0 v1 v2 v3 = some x) (k0 : ∀ z : (Int32 × Int32), x = .inl z → PW E p l e (rmv 3 0 0) s m args below meth c 4 0 0 (MQ below (QG E (fun v u => v = some (.int r) ∧ u = h)) args s 0 0 (pA E)) h 35 [(0, some (.int v0)), (1, some (.int v1)), (2, some (.int (z.1))), (3, some (.int (z.2)))] []) (kf : ∀ z : Int32, x = .inr z → z = r) : PW E p l e (rmv 3 0 0) s m args below meth c 4 0 0 (MQ below (QG E (fun v u => v = some (.int r) ∧ u = h)) args s 0 0 (pA E)) h 35 [(0, some (.int v0)), (1, some (.int v1)), (2, some (.int v2)), (3, some (.int v3))] [] := by
  unfold fX12_areBeside_c35 at hf
  refine p_iload_n X (dcg dc_X12_areBeside 21 rfl) rfl rfl ?_
  refine p_iload_n X (dcg dc_X12_areBeside 22 rfl) rfl rfl ?_
  obtain ⟨z5, hz5, hf⟩ := bd_some hf
  refine p_callS (As := [_]) X ml_X12_144 (dcg dc_X12_areBeside 23 rfl) rfl rfl  (wX12_letters hG hz5) (by decide) (room4 (Nat.le_of_ble_eq_true rfl)) (Nat.le_refl _) (Nat.le_refl _) ?_
  rintro _ u9 ⟨rfl, e9⟩; have e9 := e9.symm; subst e9
  refine p_icmp_ge (tgt := 70) X (dcg dc_X12_areBeside 24 rfl) (by decide) (fun q => ?_) (fun q => ?_)
  · have hf := if_t q hf
    obtain ⟨y6, hf, hy7⟩ := mr_some hf
    have hy7f := kf y6 hy7
    subst hy7f
    refine p_iload_n X (dcg dc_X12_areBeside 40 rfl) rfl rfl ?_
    refine p_iconst (v := 1) X (dcg dc_X12_areBeside 41 rfl) (by decide) ?_
    refine p_icmp_ne (tgt := 79) X (dcg dc_X12_areBeside 42 rfl) (by decide) (fun q => ?_) (fun q => ?_)
    · have hf := if_t q hf
      refine p_iconst (v := 0) X (dcg dc_X12_areBeside 45 rfl) (by decide) ?_
      refine p_pick [] ?_
      exact wX12_areBeside_b80 X hG hnm hf 
    · have hf := if_f q hf
      refine p_iconst (v := 1) X (dcg dc_X12_areBeside 43 rfl) (by decide) ?_
      refine p_goto (tgt := 80) X (dcg dc_X12_areBeside 44 rfl) (by decide) ?_
      refine p_pick [] ?_
      exact wX12_areBeside_b80 X hG hnm hf 
  · have hf := if_f q hf
    refine p_iload_n X (dcg dc_X12_areBeside 25 rfl) rfl rfl ?_
    refine p_iload_n X (dcg dc_X12_areBeside 26 rfl) rfl rfl ?_
    refine p_iload_n X (dcg dc_X12_areBeside 27 rfl) rfl rfl ?_
    obtain ⟨z9, hz9, hf⟩ := bd_some hf
    refine p_callS (As := [_, _]) X ml_X12_222 (dcg dc_X12_areBeside 28 rfl) rfl rfl  (wX12_letterOf hG hz9) (by decide) (room4 (Nat.le_of_ble_eq_true rfl)) (Nat.le_refl _) (Nat.le_refl _) ?_
    rintro _ u9 ⟨rfl, e9⟩; have e9 := e9.symm; subst e9
    refine p_iload_n X (dcg dc_X12_areBeside 29 rfl) rfl rfl ?_
    refine p_iload_n X (dcg dc_X12_areBeside 30 rfl) rfl rfl ?_
    obtain ⟨z10, hz10, hf⟩ := bd_some hf
    refine p_callS (As := [_, _]) X ml_X12_222 (dcg dc_X12_areBeside 31 rfl) rfl rfl  (wX12_letterOf hG hz10) (by decide) (room4 (Nat.le_of_ble_eq_true rfl)) (Nat.le_refl _) (Nat.le_refl _) ?_
    rintro _ u9 ⟨rfl, e9⟩; have e9 := e9.symm; subst e9
    refine p_icmp_ne (tgt := 61) X (dcg dc_X12_areBeside 32 rfl) (by decide) (fun q => ?_) (fun q => ?_)
    · have hf := if_t q hf
      refine p_iconst (v := 1) X (dcg dc_X12_areBeside 35 rfl) (by decide) ?_
      refine p_pick [0, 1, 3] ?_
      exact wX12_areBeside_b62 X hG hnm hf k0 kf
    · have hf := if_f q hf
      refine p_iconst (v := 0) X (dcg dc_X12_areBeside 33 rfl) (by decide) ?_
      refine p_goto (tgt := 62) X (dcg dc_X12_areBeside 34 rfl) (by decide) ?_
      refine p_pick [0, 1, 3] ?_
      exact wX12_areBeside_b62 X hG hnm hf k0 kf
noncomputable def fX12_areBeside_l35 (v0 : Int32) (v1 : Int32) (v2 : Int32) (v3 : Int32) : Option Int32 := wh (fun z : (Int32 × Int32) => fX12_areBeside_c35 v0 v1 (z.1) (z.2)) (v2, v3)
set_option maxRecDepth 100000 in
theorem wX12_areBeside_l35 {E : PE} {p : Program} {l : Launch} {e : Env} {s : State} {m : MethodId} {args : Array Value} {below : List Frame} {meth : Method} {c : Code} (X : Cx E p l e (rmv 3 0 0) s m args below meth c RX12 cX12_areBeside 4 (some .boolean)) (hG : Gs E l) (hnm : meth.name = yX12_areBeside.name) {v0 : Int32} {v1 : Int32} {v2 : Int32} {v3 : Int32} {h : PH} {r : Int32} (hf : fX12_areBeside_l35 v0 v1 v2 v3 = some r)  : PW E p l e (rmv 3 0 0) s m args below meth c 4 0 0 (MQ below (QG E (fun v u => v = some (.int r) ∧ u = h)) args s 0 0 (pA E)) h 35 [(0, some (.int v0)), (1, some (.int v1)), (2, some (.int v2)), (3, some (.int v3))] [] := by
  unfold fX12_areBeside_l35 at hf
  refine wh_ind (P := fun z => PW E p l e (rmv 3 0 0) s m args below meth c 4 0 0 (MQ below (QG E (fun v u => v = some (.int r) ∧ u = h)) args s 0 0 (pA E)) h 35 [(0, some (.int v0)), (1, some (.int v1)), (2, some (.int (z.1))), (3, some (.int (z.2)))] []) (fun z x0 hs i1 i2 => ?_) _ hf
  exact wX12_areBeside_c35 (r := r) (v0 := v0) (v1 := v1) (v2 := z.1) (v3 := z.2) (h := h) X hG hnm hs i1  i2
noncomputable def fX12_areBeside (v0 : Int32) (v1 : Int32) : Option Int32 :=
  bd (fX12_isLonger v0 v1) (fun z1 =>
  if (¬ z1 = 0) then (fX12_areBeside_b16 ) else
  bd (fX12_isLonger v1 v0) (fun z2 =>
  if (z2 = 0) then (bd (fX12_letters v0) (fun z3 =>
  bd (fX12_letters v1) (fun z4 =>
  if (z3 = z4) then (fX12_areBeside_l35 v0 v1 (0 : Int32) (0 : Int32)) else
  some ((0 : Int32))))) else
  fX12_areBeside_b16 ))
set_option maxRecDepth 100000 in
theorem wX12_areBeside {E : PE} {l : Launch} (hG : Gs E l) {v0 : Int32} {v1 : Int32} {h : PH} {r : Int32} (hf : fX12_areBeside v0 v1 = some r) : Ct E l 3 0 0 yX12_areBeside cX12_areBeside 4 (some .boolean) [.int v0, .int v1] h (fun v u => v = some (.int r) ∧ u = h) := by
  refine ct_of hG (by decide) (Nat.le_of_ble_eq_true rfl) ?_
  intro p e s m args below meth c X hnm
  show PW E p l e _ s m args below meth c _ 0 0 _ h 0 [(0, some (.int v0)), (1, some (.int v1))] []
  unfold fX12_areBeside at hf
  refine p_iload_n X (dcg dc_X12_areBeside 0 rfl) rfl rfl ?_
  refine p_iload_n X (dcg dc_X12_areBeside 1 rfl) rfl rfl ?_
  obtain ⟨z1, hz1, hf⟩ := bd_some hf
  refine p_callS (As := [_, _]) X ml_X12_252 (dcg dc_X12_areBeside 2 rfl) rfl rfl  (wX12_isLonger hG hz1) (by decide) (room4 (Nat.le_of_ble_eq_true rfl)) (Nat.le_refl _) (Nat.le_refl _) ?_
  rintro _ u9 ⟨rfl, e9⟩; have e9 := e9.symm; subst e9
  refine p_if_ne (tgt := 16) X (dcg dc_X12_areBeside 3 rfl) (by decide) (fun q => ?_) (fun q => ?_)
  · have hf := if_t q hf
    refine p_pick [] ?_
    exact wX12_areBeside_b16 X hG hnm hf 
  · have hf := if_f q hf
    refine p_iload_n X (dcg dc_X12_areBeside 4 rfl) rfl rfl ?_
    refine p_iload_n X (dcg dc_X12_areBeside 5 rfl) rfl rfl ?_
    obtain ⟨z2, hz2, hf⟩ := bd_some hf
    refine p_callS (As := [_, _]) X ml_X12_252 (dcg dc_X12_areBeside 6 rfl) rfl rfl  (wX12_isLonger hG hz2) (by decide) (room4 (Nat.le_of_ble_eq_true rfl)) (Nat.le_refl _) (Nat.le_refl _) ?_
    rintro _ u9 ⟨rfl, e9⟩; have e9 := e9.symm; subst e9
    refine p_if_eq (tgt := 18) X (dcg dc_X12_areBeside 7 rfl) (by decide) (fun q => ?_) (fun q => ?_)
    · have hf := if_t q hf
      refine p_iload_n X (dcg dc_X12_areBeside 10 rfl) rfl rfl ?_
      obtain ⟨z3, hz3, hf⟩ := bd_some hf
      refine p_callS (As := [_]) X ml_X12_144 (dcg dc_X12_areBeside 11 rfl) rfl rfl  (wX12_letters hG hz3) (by decide) (room4 (Nat.le_of_ble_eq_true rfl)) (Nat.le_refl _) (Nat.le_refl _) ?_
      rintro _ u9 ⟨rfl, e9⟩; have e9 := e9.symm; subst e9
      refine p_iload_n X (dcg dc_X12_areBeside 12 rfl) rfl rfl ?_
      obtain ⟨z4, hz4, hf⟩ := bd_some hf
      refine p_callS (As := [_]) X ml_X12_144 (dcg dc_X12_areBeside 13 rfl) rfl rfl  (wX12_letters hG hz4) (by decide) (room4 (Nat.le_of_ble_eq_true rfl)) (Nat.le_refl _) (Nat.le_refl _) ?_
      rintro _ u9 ⟨rfl, e9⟩; have e9 := e9.symm; subst e9
      refine p_icmp_eq (tgt := 31) X (dcg dc_X12_areBeside 14 rfl) (by decide) (fun q => ?_) (fun q => ?_)
      · have hf := if_t q hf
        refine p_iconst (v := 0) X (dcg dc_X12_areBeside 17 rfl) (by decide) ?_
        refine p_istore_n X (dcg dc_X12_areBeside 18 rfl) rfl (by decide) rfl ?_
        refine p_iconst (v := 0) X (dcg dc_X12_areBeside 19 rfl) (by decide) ?_
        refine p_istore_n X (dcg dc_X12_areBeside 20 rfl) rfl (by decide) rfl ?_
        refine p_pick [0, 1, 2, 3] ?_
        exact wX12_areBeside_l35 X hG hnm hf 
      · have hf := if_f q hf
        refine p_iconst (v := 0) X (dcg dc_X12_areBeside 15 rfl) (by decide) ?_
        have er := Option.some.inj hf
        subst er
        exact p_zret X rfl rfl (dcg dc_X12_areBeside 16 rfl) ⟨rfl, rfl⟩ (Nat.le_refl _) (Nat.le_refl _)
    · have hf := if_f q hf
      refine p_pick [] ?_
      exact wX12_areBeside_b16 X hG hnm hf 
theorem dc_X12_neighbours : decs cX12_neighbours [(0, .aload_n 0, 1), (1, .iconst 0, 1), (2, .putfield 1, 3), (5, .aload_n 0, 1), (6, .iload_n 1, 1), (7, .invokevirtual 240, 3), (10, .ifCond .eq 5, 3), (13, .iconst 0, 1), (14, .ireturn, 1), (15, .aload_n 0, 1), (16, .invokevirtual 237, 3), (19, .iconst 0, 1), (20, .istore_n 2, 1), (21, .iconst 0, 1), (22, .istore_n 3, 1), (23, .iload_n 3, 1), (24, .aload_n 0, 1), (25, .getfield 225, 3), (28, .if_icmp .ge 30, 3), (31, .iload_n 2, 1), (32, .iload_n 1, 1), (33, .aload_n 0, 1), (34, .getfield 57, 3), (37, .iload_n 3, 1), (38, .iaload, 1), (39, .invokestatic 255, 3), (42, .ifCond .eq 7, 3), (45, .iconst 1, 1), (46, .goto 4, 3), (49, .iconst 0, 1), (50, .iadd, 1), (51, .istore_n 2, 1), (52, .iinc 3 1, 3), (55, .goto (-32), 3), (58, .iload_n 2, 1), (59, .ireturn, 1)] = true := by decide +kernel
noncomputable def fX12_neighbours_b50 (v0 : Nat) (v1 : Int32) (v3 : Int32) (t0 : Int32) (t1 : Int32) (h : PH) : Option ((Int32 × Int32) ⊕ (Int32 × PH)) :=
  some (.inl ((t0 + t1), (v3 + 1)))
set_option maxRecDepth 100000 in
theorem mX12_neighbours_b50 {v0 : Nat} {v1 : Int32} {v3 : Int32} {t0 : Int32} {t1 : Int32} {h : PH} {x : ((Int32 × Int32) ⊕ (Int32 × PH))} (hf : fX12_neighbours_b50 v0 v1 v3 t0 t1 h = some x) : (∀ w9 : (Int32 × PH), x = .inr w9 → eqz h (hX w9.2) (hV w9.2)) := by
  unfold fX12_neighbours_b50 at hf
  have hle := eqz_rf h
  have ee := Option.some.inj hf; subst ee
  exact (fun z e => nomatch e)
set_option maxRecDepth 100000 in
theorem wX12_neighbours_b50 {E : PE} {p : Program} {l : Launch} {e : Env} {s : State} {m : MethodId} {args : Array Value} {below : List Frame} {meth : Method} {c : Code} (X : Cx E p l e (rmv 5 0 0) s m args below meth c RX12 cX12_neighbours 4 (some .int)) (hG : Gs E l) (hnm : meth.name = yX12_neighbours.name) {v0 : Nat} {v1 : Int32} {v3 : Int32} {t0 : Int32} {t1 : Int32} {h : PH} {r : (Int32 × PH)} {x : ((Int32 × Int32) ⊕ (Int32 × PH))} (hf : fX12_neighbours_b50 v0 v1 v3 t0 t1 h = some x) (k0 : ∀ z : (Int32 × Int32), x = .inl z → PW E p l e (rmv 5 0 0) s m args below meth c 4 0 0 (MQ below (QG E (fun v u => v = some (.int r.1) ∧ u = r.2)) args s 0 0 (pA E)) h 23 [(0, some (.ref v0)), (1, some (.int v1)), (2, some (.int (z.1))), (3, some (.int (z.2)))] []) (kf : ∀ z : (Int32 × PH), x = .inr z → z = r) : PW E p l e (rmv 5 0 0) s m args below meth c 4 0 0 (MQ below (QG E (fun v u => v = some (.int r.1) ∧ u = r.2)) args s 0 0 (pA E)) h 50 [(0, some (.ref v0)), (1, some (.int v1)), (3, some (.int v3))] [.int t1, .int t0] := by
  unfold fX12_neighbours_b50 at hf
  refine p_iadd X (dcg dc_X12_neighbours 30 rfl) ?_
  refine p_istore_n X (dcg dc_X12_neighbours 31 rfl) rfl (by decide) rfl ?_
  refine p_iinc (v := 1) X (dcg dc_X12_neighbours 32 rfl) rfl (by decide) (by decide) rfl ?_
  refine p_goto (tgt := 23) X (dcg dc_X12_neighbours 33 rfl) (by decide) ?_
  refine p_pick [0, 1, 2, 3] ?_
  exact k0 _ (Option.some.inj hf).symm
noncomputable def fX12_neighbours_c23 (v0 : Nat) (v1 : Int32) (v2 : Int32) (v3 : Int32) (h : PH) : Option ((Int32 × Int32) ⊕ (Int32 × PH)) :=
  gd (hK h v0 = 12) (if ((hI h 12 v0 20) ≤ v3) then (mr (some ((v2, h)))) else
  gs (hR h 12 v0 19) (fun a9 =>
  gd (hK h a9 = 20 ∧ inb v3 (hN h a9)) (bd (fX12_areBeside v1 (hI h 20 a9 (Int32.toNatClampNeg v3))) (fun z13 =>
  if (z13 = 0) then (fX12_neighbours_b50 v0 v1 v3 v2 (0 : Int32) h) else
  fX12_neighbours_b50 v0 v1 v3 v2 (1 : Int32) h))))
set_option maxRecDepth 100000 in
theorem mX12_neighbours_c23 {v0 : Nat} {v1 : Int32} {v2 : Int32} {v3 : Int32} {h : PH} {x : ((Int32 × Int32) ⊕ (Int32 × PH))} (hf : fX12_neighbours_c23 v0 v1 v2 v3 h = some x) : (∀ w9 : (Int32 × PH), x = .inr w9 → eqz h (hX w9.2) (hV w9.2)) := by
  unfold fX12_neighbours_c23 at hf
  have hle := eqz_rf h
  obtain ⟨hk6, hf⟩ := gd_some hf
  rcases ite_or hf with ⟨q, hf⟩ | ⟨q, hf⟩
  · have hf := if_t q hf
    obtain ⟨y7, hfm, rfl⟩ := mr_some hf; have hf := hfm; clear hfm
    have ee := Option.some.inj hf; subst ee
    exact (fun z e => by have ee := Sum.inr.inj (e); subst ee; exact hle)
  · have hf := if_f q hf
    obtain ⟨a9, e10, hf⟩ := gs_some hf
    obtain ⟨⟨hk12, hb11⟩, hf⟩ := gd_some hf
    obtain ⟨z13, hz13, hf⟩ := bd_some hf
    rcases ite_or hf with ⟨q, hf⟩ | ⟨q, hf⟩
    · have hf := if_t q hf
      obtain cf := mX12_neighbours_b50 hf
      exact fun z e => eqz_rt (cf z (e)) hle
    · have hf := if_f q hf
      obtain cf := mX12_neighbours_b50 hf
      exact fun z e => eqz_rt (cf z (e)) hle
set_option maxRecDepth 100000 in
theorem wX12_neighbours_c23 {E : PE} {p : Program} {l : Launch} {e : Env} {s : State} {m : MethodId} {args : Array Value} {below : List Frame} {meth : Method} {c : Code} (X : Cx E p l e (rmv 5 0 0) s m args below meth c RX12 cX12_neighbours 4 (some .int)) (hG : Gs E l) (hnm : meth.name = yX12_neighbours.name) {v0 : Nat} {v1 : Int32} {v2 : Int32} {v3 : Int32} {h : PH} {r : (Int32 × PH)} {x : ((Int32 × Int32) ⊕ (Int32 × PH))} (hf : fX12_neighbours_c23 v0 v1 v2 v3 h = some x) (k0 : ∀ z : (Int32 × Int32), x = .inl z → PW E p l e (rmv 5 0 0) s m args below meth c 4 0 0 (MQ below (QG E (fun v u => v = some (.int r.1) ∧ u = r.2)) args s 0 0 (pA E)) h 23 [(0, some (.ref v0)), (1, some (.int v1)), (2, some (.int (z.1))), (3, some (.int (z.2)))] []) (kf : ∀ z : (Int32 × PH), x = .inr z → z = r) : PW E p l e (rmv 5 0 0) s m args below meth c 4 0 0 (MQ below (QG E (fun v u => v = some (.int r.1) ∧ u = r.2)) args s 0 0 (pA E)) h 23 [(0, some (.ref v0)), (1, some (.int v1)), (2, some (.int v2)), (3, some (.int v3))] [] := by
  unfold fX12_neighbours_c23 at hf
  refine p_iload_n X (dcg dc_X12_neighbours 15 rfl) rfl rfl ?_
  refine p_aload_n X (dcg dc_X12_neighbours 16 rfl) rfl rfl ?_
  obtain ⟨hk6, hf⟩ := gd_some hf
  refine p_getI X fl_X12_225 rfl (by decide) (dcg dc_X12_neighbours 17 rfl) hk6 ?_
  refine p_icmp_ge (tgt := 58) X (dcg dc_X12_neighbours 18 rfl) (by decide) (fun q => ?_) (fun q => ?_)
  · have hf := if_t q hf
    obtain ⟨y7, hf, hy8⟩ := mr_some hf
    have hy8f := kf y7 hy8
    subst hy8f
    refine p_iload_n X (dcg dc_X12_neighbours 34 rfl) rfl rfl ?_
    have er := Option.some.inj hf
    subst er
    exact p_iret X rfl (dcg dc_X12_neighbours 35 rfl) ⟨rfl, rfl⟩ (Nat.le_refl _) (Nat.le_refl _)
  · have hf := if_f q hf
    refine p_iload_n X (dcg dc_X12_neighbours 19 rfl) rfl rfl ?_
    refine p_iload_n X (dcg dc_X12_neighbours 20 rfl) rfl rfl ?_
    refine p_aload_n X (dcg dc_X12_neighbours 21 rfl) rfl rfl ?_
    refine p_getR X fl_X12_57 rfl (by decide) (dcg dc_X12_neighbours 22 rfl) hk6 ?_
    refine p_iload_n X (dcg dc_X12_neighbours 23 rfl) rfl rfl ?_
    obtain ⟨a9, e10, hf⟩ := gs_some hf
    first | subst e10 | (try rw [e10])
    obtain ⟨⟨hk12, hb11⟩, hf⟩ := gd_some hf
    refine p_iald X (dcg dc_X12_neighbours 24 rfl) hk12 (vp_of_inb hb11) ?_
    obtain ⟨z13, hz13, hf⟩ := bd_some hf
    refine p_callS (As := [_, _]) X ml_X12_255 (dcg dc_X12_neighbours 25 rfl) rfl rfl  (wX12_areBeside hG hz13) (by decide) (room4 (Nat.le_of_ble_eq_true rfl)) (Nat.le_refl _) (Nat.le_refl _) ?_
    rintro _ u9 ⟨rfl, e9⟩; have e9 := e9.symm; subst e9
    refine p_if_eq (tgt := 49) X (dcg dc_X12_neighbours 26 rfl) (by decide) (fun q => ?_) (fun q => ?_)
    · have hf := if_t q hf
      refine p_iconst (v := 0) X (dcg dc_X12_neighbours 29 rfl) (by decide) ?_
      refine p_pick [0, 1, 3] ?_
      exact wX12_neighbours_b50 X hG hnm hf k0 kf
    · have hf := if_f q hf
      refine p_iconst (v := 1) X (dcg dc_X12_neighbours 27 rfl) (by decide) ?_
      refine p_goto (tgt := 50) X (dcg dc_X12_neighbours 28 rfl) (by decide) ?_
      refine p_pick [0, 1, 3] ?_
      exact wX12_neighbours_b50 X hG hnm hf k0 kf
noncomputable def fX12_neighbours_l23 (v0 : Nat) (v1 : Int32) (v2 : Int32) (v3 : Int32) (h : PH) : Option (Int32 × PH) := wh (fun z : (Int32 × Int32) => fX12_neighbours_c23 v0 v1 (z.1) (z.2) h) (v2, v3)
set_option maxRecDepth 100000 in
theorem mX12_neighbours_l23 {v0 : Nat} {v1 : Int32} {v2 : Int32} {v3 : Int32} {h : PH} {r : (Int32 × PH)} (hf : fX12_neighbours_l23 v0 v1 v2 v3 h = some r) : eqz h (hX r.2) (hV r.2) := by
  unfold fX12_neighbours_l23 at hf
  refine wh_ind (P := fun z => eqz h (hX r.2) (hV r.2)) (fun z x0 hs i1 i2 => ?_) _ hf
  obtain cf := mX12_neighbours_c23 (v0 := v0) (v1 := v1) (v2 := z.1) (v3 := z.2) (h := h) hs
  rcases hxx : x0 with zz | zz
  · exact (i1 zz hxx)
  · have ee := i2 zz hxx; subst ee; exact cf zz hxx
set_option maxRecDepth 100000 in
theorem wX12_neighbours_l23 {E : PE} {p : Program} {l : Launch} {e : Env} {s : State} {m : MethodId} {args : Array Value} {below : List Frame} {meth : Method} {c : Code} (X : Cx E p l e (rmv 5 0 0) s m args below meth c RX12 cX12_neighbours 4 (some .int)) (hG : Gs E l) (hnm : meth.name = yX12_neighbours.name) {v0 : Nat} {v1 : Int32} {v2 : Int32} {v3 : Int32} {h : PH} {r : (Int32 × PH)} (hf : fX12_neighbours_l23 v0 v1 v2 v3 h = some r)  : PW E p l e (rmv 5 0 0) s m args below meth c 4 0 0 (MQ below (QG E (fun v u => v = some (.int r.1) ∧ u = r.2)) args s 0 0 (pA E)) h 23 [(0, some (.ref v0)), (1, some (.int v1)), (2, some (.int v2)), (3, some (.int v3))] [] := by
  unfold fX12_neighbours_l23 at hf
  refine wh_ind (P := fun z => PW E p l e (rmv 5 0 0) s m args below meth c 4 0 0 (MQ below (QG E (fun v u => v = some (.int r.1) ∧ u = r.2)) args s 0 0 (pA E)) h 23 [(0, some (.ref v0)), (1, some (.int v1)), (2, some (.int (z.1))), (3, some (.int (z.2)))] []) (fun z x0 hs i1 i2 => ?_) _ hf
  exact wX12_neighbours_c23 (r := r) (v0 := v0) (v1 := v1) (v2 := z.1) (v3 := z.2) (h := h) X hG hnm hs i1  i2
noncomputable def fX12_neighbours (v0 : Nat) (v1 : Int32) (h : PH) : Option (Int32 × PH) :=
  gd (hK h v0 = 12) (lt (sI h 12 v0 0 (0 : Int32)) (fun h2 =>
  bd (fX12_noWord v0 v1 h2) (fun z3 =>
  if (z3.1 = 0) then (gd (hK z3.2 v0 = 12) (bd (fX12_finds v0 z3.2) (fun z5 =>
  fX12_neighbours_l23 v0 v1 (0 : Int32) (0 : Int32) z5))) else
  some (((0 : Int32), z3.2)))))
set_option maxRecDepth 100000 in
theorem mX12_neighbours {v0 : Nat} {v1 : Int32} {h : PH} {r : (Int32 × PH)} (hf : fX12_neighbours v0 v1 h = some r) : eqz h (hX r.2) (hV r.2) := by
  unfold fX12_neighbours at hf
  have hle := eqz_rf h
  obtain ⟨hk1, hf⟩ := gd_some hf
  obtain ⟨h2, rfl, hf⟩ := lt_some hf
  obtain ⟨z3, hz3, hf⟩ := bd_some hf
  have hle := eqz_rt (mX12_noWord hz3) hle
  rcases ite_or hf with ⟨q, hf⟩ | ⟨q, hf⟩
  · have hf := if_t q hf
    obtain ⟨hk4, hf⟩ := gd_some hf
    obtain ⟨z5, hz5, hf⟩ := bd_some hf
    have hle := eqz_rt (mX12_finds hz5) hle
    exact eqz_rt (mX12_neighbours_l23 hf) hle
  · have hf := if_f q hf
    have ee := Option.some.inj hf; subst ee; exact hle
set_option maxRecDepth 100000 in
theorem wX12_neighbours {E : PE} {l : Launch} (hG : Gs E l) {v0 : Nat} {v1 : Int32} {h : PH} {r : (Int32 × PH)} (hf : fX12_neighbours v0 v1 h = some r) : Ct E l 5 0 0 yX12_neighbours cX12_neighbours 4 (some .int) [.ref v0, .int v1] h (fun v u => v = some (.int r.1) ∧ u = r.2) := by
  refine ct_of hG (by decide) (Nat.le_of_ble_eq_true rfl) ?_
  intro p e s m args below meth c X hnm
  show PW E p l e _ s m args below meth c _ 0 0 _ h 0 [(0, some (.ref v0)), (1, some (.int v1))] []
  unfold fX12_neighbours at hf
  refine p_aload_n X (dcg dc_X12_neighbours 0 rfl) rfl rfl ?_
  refine p_iconst (v := 0) X (dcg dc_X12_neighbours 1 rfl) (by decide) ?_
  obtain ⟨hk1, hf⟩ := gd_some hf
  refine p_putI X fl_X12_1 rfl (by decide) (fun q hq => by cases hq; rfl) rfl rfl (dcg dc_X12_neighbours 2 rfl) hk1 ?_
  obtain ⟨h2, rfl, hf⟩ := lt_some hf
  refine p_aload_n X (dcg dc_X12_neighbours 3 rfl) rfl rfl ?_
  refine p_iload_n X (dcg dc_X12_neighbours 4 rfl) rfl rfl ?_
  obtain ⟨z3, hz3, hf⟩ := bd_some hf
  refine p_callV (As := [_]) X ml_X12_240 (dcg dc_X12_neighbours 5 rfl) rfl rfl hk1 (wX12_noWord hG hz3) (by decide) (room4 (Nat.le_of_ble_eq_true rfl)) (Nat.le_refl _) (Nat.le_refl _) ?_
  rintro _ u9 ⟨rfl, e9⟩; have e9 := e9.symm; subst e9
  refine p_if_eq (tgt := 15) X (dcg dc_X12_neighbours 6 rfl) (by decide) (fun q => ?_) (fun q => ?_)
  · have hf := if_t q hf
    refine p_aload_n X (dcg dc_X12_neighbours 9 rfl) rfl rfl ?_
    obtain ⟨hk4, hf⟩ := gd_some hf
    obtain ⟨z5, hz5, hf⟩ := bd_some hf
    refine p_callV (As := []) X ml_X12_237 (dcg dc_X12_neighbours 10 rfl) rfl rfl hk4 (wX12_finds hG hz5) (by decide) (room4 (Nat.le_of_ble_eq_true rfl)) (Nat.le_refl _) (Nat.le_refl _) ?_
    rintro _ u9 ⟨rfl, e9⟩; have e9 := e9.symm; subst e9
    refine p_iconst (v := 0) X (dcg dc_X12_neighbours 11 rfl) (by decide) ?_
    refine p_istore_n X (dcg dc_X12_neighbours 12 rfl) rfl (by decide) rfl ?_
    refine p_iconst (v := 0) X (dcg dc_X12_neighbours 13 rfl) (by decide) ?_
    refine p_istore_n X (dcg dc_X12_neighbours 14 rfl) rfl (by decide) rfl ?_
    refine p_pick [0, 1, 2, 3] ?_
    exact wX12_neighbours_l23 X hG hnm hf 
  · have hf := if_f q hf
    refine p_iconst (v := 0) X (dcg dc_X12_neighbours 7 rfl) (by decide) ?_
    have er := Option.some.inj hf
    subst er
    exact p_iret X rfl (dcg dc_X12_neighbours 8 rfl) ⟨rfl, rfl⟩ (Nat.le_refl _) (Nat.le_refl _)
theorem dc_X12_neighbourAt : decs cX12_neighbourAt [(0, .aload_n 0, 1), (1, .iconst 0, 1), (2, .putfield 1, 3), (5, .aload_n 0, 1), (6, .iload_n 1, 1), (7, .invokevirtual 240, 3), (10, .ifCond .eq 5, 3), (13, .iconst 0, 1), (14, .ireturn, 1), (15, .aload_n 0, 1), (16, .invokevirtual 237, 3), (19, .iload_n 2, 1), (20, .istore_n 3, 1), (21, .iconst 0, 1), (22, .istore 4, 2), (24, .iload 4, 2), (26, .aload_n 0, 1), (27, .getfield 225, 3), (30, .if_icmp .ge 45, 3), (33, .iload_n 3, 1), (34, .ifCond .lt 41, 3), (37, .iload_n 1, 1), (38, .aload_n 0, 1), (39, .getfield 57, 3), (42, .iload 4, 2), (44, .iaload, 1), (45, .invokestatic 255, 3), (48, .ifCond .ne 6, 3), (51, .goto 18, 3), (54, .iload_n 3, 1), (55, .ifCond .ne 11, 3), (58, .aload_n 0, 1), (59, .getfield 57, 3), (62, .iload 4, 2), (64, .iaload, 1), (65, .ireturn, 1), (66, .iinc 3 (-1), 3), (69, .iinc 4 1, 3), (72, .goto (-48), 3), (75, .iconst (-1), 1), (76, .ireturn, 1)] = true := by decide +kernel
noncomputable def fX12_neighbourAt_b75  (h : PH) : Option (Int32 × PH) :=
  some (((-1 : Int32), h))
set_option maxRecDepth 100000 in
theorem mX12_neighbourAt_b75  {h : PH} {r : (Int32 × PH)} (hf : fX12_neighbourAt_b75  h = some r) : eqz h (hX r.2) (hV r.2) := by
  unfold fX12_neighbourAt_b75 at hf
  have hle := eqz_rf h
  have ee := Option.some.inj hf; subst ee; exact hle
set_option maxRecDepth 100000 in
theorem wX12_neighbourAt_b75 {E : PE} {p : Program} {l : Launch} {e : Env} {s : State} {m : MethodId} {args : Array Value} {below : List Frame} {meth : Method} {c : Code} (X : Cx E p l e (rmv 5 0 0) s m args below meth c RX12 cX12_neighbourAt 5 (some .int)) (hG : Gs E l) (hnm : meth.name = yX12_neighbourAt.name)  {h : PH} {r : (Int32 × PH)} (hf : fX12_neighbourAt_b75  h = some r)  : PW E p l e (rmv 5 0 0) s m args below meth c 5 0 0 (MQ below (QG E (fun v u => v = some (.int r.1) ∧ u = r.2)) args s 0 0 (pA E)) h 75 [] [] := by
  unfold fX12_neighbourAt_b75 at hf
  refine p_iconst (v := -1) X (dcg dc_X12_neighbourAt 39 rfl) (by decide) ?_
  have er := Option.some.inj hf
  subst er
  exact p_iret X rfl (dcg dc_X12_neighbourAt 40 rfl) ⟨rfl, rfl⟩ (Nat.le_refl _) (Nat.le_refl _)
noncomputable def fX12_neighbourAt_b69 (v0 : Nat) (v1 : Int32) (v3 : Int32) (v4 : Int32) (h : PH) : Option ((Int32 × Int32) ⊕ (Int32 × PH)) :=
  some (.inl (v3, (v4 + 1)))
set_option maxRecDepth 100000 in
theorem mX12_neighbourAt_b69 {v0 : Nat} {v1 : Int32} {v3 : Int32} {v4 : Int32} {h : PH} {x : ((Int32 × Int32) ⊕ (Int32 × PH))} (hf : fX12_neighbourAt_b69 v0 v1 v3 v4 h = some x) : (∀ w9 : (Int32 × PH), x = .inr w9 → eqz h (hX w9.2) (hV w9.2)) := by
  unfold fX12_neighbourAt_b69 at hf
  have hle := eqz_rf h
  have ee := Option.some.inj hf; subst ee
  exact (fun z e => nomatch e)
set_option maxRecDepth 100000 in
theorem wX12_neighbourAt_b69 {E : PE} {p : Program} {l : Launch} {e : Env} {s : State} {m : MethodId} {args : Array Value} {below : List Frame} {meth : Method} {c : Code} (X : Cx E p l e (rmv 5 0 0) s m args below meth c RX12 cX12_neighbourAt 5 (some .int)) (hG : Gs E l) (hnm : meth.name = yX12_neighbourAt.name) {v0 : Nat} {v1 : Int32} {v3 : Int32} {v4 : Int32} {h : PH} {r : (Int32 × PH)} {x : ((Int32 × Int32) ⊕ (Int32 × PH))} (hf : fX12_neighbourAt_b69 v0 v1 v3 v4 h = some x) (k0 : ∀ z : (Int32 × Int32), x = .inl z → PW E p l e (rmv 5 0 0) s m args below meth c 5 0 0 (MQ below (QG E (fun v u => v = some (.int r.1) ∧ u = r.2)) args s 0 0 (pA E)) h 24 [(0, some (.ref v0)), (1, some (.int v1)), (3, some (.int (z.1))), (4, some (.int (z.2)))] []) (kf : ∀ z : (Int32 × PH), x = .inr z → z = r) : PW E p l e (rmv 5 0 0) s m args below meth c 5 0 0 (MQ below (QG E (fun v u => v = some (.int r.1) ∧ u = r.2)) args s 0 0 (pA E)) h 69 [(0, some (.ref v0)), (1, some (.int v1)), (3, some (.int v3)), (4, some (.int v4))] [] := by
  unfold fX12_neighbourAt_b69 at hf
  refine p_iinc (v := 1) X (dcg dc_X12_neighbourAt 37 rfl) rfl (by decide) (by decide) rfl ?_
  refine p_goto (tgt := 24) X (dcg dc_X12_neighbourAt 38 rfl) (by decide) ?_
  refine p_pick [0, 1, 3, 4] ?_
  exact k0 _ (Option.some.inj hf).symm
noncomputable def fX12_neighbourAt_c24 (v0 : Nat) (v1 : Int32) (v3 : Int32) (v4 : Int32) (h : PH) : Option ((Int32 × Int32) ⊕ (Int32 × PH)) :=
  gd (hK h v0 = 12) (if ((hI h 12 v0 20) ≤ v4) then (mr (fX12_neighbourAt_b75  h)) else
  if (v3 < 0) then (mr (fX12_neighbourAt_b75  h)) else
  gs (hR h 12 v0 19) (fun a11 =>
  gd (hK h a11 = 20 ∧ inb v4 (hN h a11)) (bd (fX12_areBeside v1 (hI h 20 a11 (Int32.toNatClampNeg v4))) (fun z15 =>
  if (¬ z15 = 0) then (if (¬ v3 = 0) then (fX12_neighbourAt_b69 v0 v1 (v3 + (-1)) v4 h) else
  mr (gs (hR h 12 v0 19) (fun a18 =>
  gd (hK h a18 = 20 ∧ inb v4 (hN h a18)) (some (((hI h 20 a18 (Int32.toNatClampNeg v4)), h)))))) else
  fX12_neighbourAt_b69 v0 v1 v3 v4 h))))
set_option maxRecDepth 100000 in
theorem mX12_neighbourAt_c24 {v0 : Nat} {v1 : Int32} {v3 : Int32} {v4 : Int32} {h : PH} {x : ((Int32 × Int32) ⊕ (Int32 × PH))} (hf : fX12_neighbourAt_c24 v0 v1 v3 v4 h = some x) : (∀ w9 : (Int32 × PH), x = .inr w9 → eqz h (hX w9.2) (hV w9.2)) := by
  unfold fX12_neighbourAt_c24 at hf
  have hle := eqz_rf h
  obtain ⟨hk6, hf⟩ := gd_some hf
  rcases ite_or hf with ⟨q, hf⟩ | ⟨q, hf⟩
  · have hf := if_t q hf
    obtain ⟨y7, hfm, rfl⟩ := mr_some hf; have hf := hfm; clear hfm
    have cf := mX12_neighbourAt_b75 hf
    exact (fun z e => by cases e <;> exact eqz_rt cf hle)
  · have hf := if_f q hf
    rcases ite_or hf with ⟨q, hf⟩ | ⟨q, hf⟩
    · have hf := if_t q hf
      obtain ⟨y9, hfm, rfl⟩ := mr_some hf; have hf := hfm; clear hfm
      have cf := mX12_neighbourAt_b75 hf
      exact (fun z e => by cases e <;> exact eqz_rt cf hle)
    · have hf := if_f q hf
      obtain ⟨a11, e12, hf⟩ := gs_some hf
      obtain ⟨⟨hk14, hb13⟩, hf⟩ := gd_some hf
      obtain ⟨z15, hz15, hf⟩ := bd_some hf
      rcases ite_or hf with ⟨q, hf⟩ | ⟨q, hf⟩
      · have hf := if_t q hf
        rcases ite_or hf with ⟨q, hf⟩ | ⟨q, hf⟩
        · have hf := if_t q hf
          obtain cf := mX12_neighbourAt_b69 hf
          exact fun z e => eqz_rt (cf z (e)) hle
        · have hf := if_f q hf
          obtain ⟨y16, hfm, rfl⟩ := mr_some hf; have hf := hfm; clear hfm
          obtain ⟨a18, e19, hf⟩ := gs_some hf
          obtain ⟨⟨hk21, hb20⟩, hf⟩ := gd_some hf
          have ee := Option.some.inj hf; subst ee
          exact (fun z e => by have ee := Sum.inr.inj (e); subst ee; exact hle)
      · have hf := if_f q hf
        obtain cf := mX12_neighbourAt_b69 hf
        exact fun z e => eqz_rt (cf z (e)) hle
set_option maxRecDepth 100000 in
theorem wX12_neighbourAt_c24 {E : PE} {p : Program} {l : Launch} {e : Env} {s : State} {m : MethodId} {args : Array Value} {below : List Frame} {meth : Method} {c : Code} (X : Cx E p l e (rmv 5 0 0) s m args below meth c RX12 cX12_neighbourAt 5 (some .int)) (hG : Gs E l) (hnm : meth.name = yX12_neighbourAt.name) {v0 : Nat} {v1 : Int32} {v3 : Int32} {v4 : Int32} {h : PH} {r : (Int32 × PH)} {x : ((Int32 × Int32) ⊕ (Int32 × PH))} (hf : fX12_neighbourAt_c24 v0 v1 v3 v4 h = some x) (k0 : ∀ z : (Int32 × Int32), x = .inl z → PW E p l e (rmv 5 0 0) s m args below meth c 5 0 0 (MQ below (QG E (fun v u => v = some (.int r.1) ∧ u = r.2)) args s 0 0 (pA E)) h 24 [(0, some (.ref v0)), (1, some (.int v1)), (3, some (.int (z.1))), (4, some (.int (z.2)))] []) (kf : ∀ z : (Int32 × PH), x = .inr z → z = r) : PW E p l e (rmv 5 0 0) s m args below meth c 5 0 0 (MQ below (QG E (fun v u => v = some (.int r.1) ∧ u = r.2)) args s 0 0 (pA E)) h 24 [(0, some (.ref v0)), (1, some (.int v1)), (3, some (.int v3)), (4, some (.int v4))] [] := by
  unfold fX12_neighbourAt_c24 at hf
  refine p_iload X (dcg dc_X12_neighbourAt 15 rfl) rfl ?_
  refine p_aload_n X (dcg dc_X12_neighbourAt 16 rfl) rfl rfl ?_
  obtain ⟨hk6, hf⟩ := gd_some hf
  refine p_getI X fl_X12_225 rfl (by decide) (dcg dc_X12_neighbourAt 17 rfl) hk6 ?_
  refine p_icmp_ge (tgt := 75) X (dcg dc_X12_neighbourAt 18 rfl) (by decide) (fun q => ?_) (fun q => ?_)
  · have hf := if_t q hf
    obtain ⟨y7, hf, hy8⟩ := mr_some hf
    have hy8f := kf y7 hy8
    subst hy8f
    refine p_pick [] ?_
    exact wX12_neighbourAt_b75 X hG hnm hf 
  · have hf := if_f q hf
    refine p_iload_n X (dcg dc_X12_neighbourAt 19 rfl) rfl rfl ?_
    refine p_if_lt (tgt := 75) X (dcg dc_X12_neighbourAt 20 rfl) (by decide) (fun q => ?_) (fun q => ?_)
    · have hf := if_t q hf
      obtain ⟨y9, hf, hy10⟩ := mr_some hf
      have hy10f := kf y9 hy10
      subst hy10f
      refine p_pick [] ?_
      exact wX12_neighbourAt_b75 X hG hnm hf 
    · have hf := if_f q hf
      refine p_iload_n X (dcg dc_X12_neighbourAt 21 rfl) rfl rfl ?_
      refine p_aload_n X (dcg dc_X12_neighbourAt 22 rfl) rfl rfl ?_
      refine p_getR X fl_X12_57 rfl (by decide) (dcg dc_X12_neighbourAt 23 rfl) hk6 ?_
      refine p_iload X (dcg dc_X12_neighbourAt 24 rfl) rfl ?_
      obtain ⟨a11, e12, hf⟩ := gs_some hf
      first | subst e12 | (try rw [e12])
      obtain ⟨⟨hk14, hb13⟩, hf⟩ := gd_some hf
      refine p_iald X (dcg dc_X12_neighbourAt 25 rfl) hk14 (vp_of_inb hb13) ?_
      obtain ⟨z15, hz15, hf⟩ := bd_some hf
      refine p_callS (As := [_, _]) X ml_X12_255 (dcg dc_X12_neighbourAt 26 rfl) rfl rfl  (wX12_areBeside hG hz15) (by decide) (room4 (Nat.le_of_ble_eq_true rfl)) (Nat.le_refl _) (Nat.le_refl _) ?_
      rintro _ u9 ⟨rfl, e9⟩; have e9 := e9.symm; subst e9
      refine p_if_ne (tgt := 54) X (dcg dc_X12_neighbourAt 27 rfl) (by decide) (fun q => ?_) (fun q => ?_)
      · have hf := if_t q hf
        refine p_iload_n X (dcg dc_X12_neighbourAt 29 rfl) rfl rfl ?_
        refine p_if_ne (tgt := 66) X (dcg dc_X12_neighbourAt 30 rfl) (by decide) (fun q => ?_) (fun q => ?_)
        · have hf := if_t q hf
          refine p_iinc (v := -1) X (dcg dc_X12_neighbourAt 36 rfl) rfl (by decide) (by decide) rfl ?_
          refine p_pick [0, 1, 3, 4] ?_
          exact wX12_neighbourAt_b69 X hG hnm hf k0 kf
        · have hf := if_f q hf
          obtain ⟨y16, hf, hy17⟩ := mr_some hf
          have hy17f := kf y16 hy17
          subst hy17f
          refine p_aload_n X (dcg dc_X12_neighbourAt 31 rfl) rfl rfl ?_
          refine p_getR X fl_X12_57 rfl (by decide) (dcg dc_X12_neighbourAt 32 rfl) hk6 ?_
          refine p_iload X (dcg dc_X12_neighbourAt 33 rfl) rfl ?_
          obtain ⟨a18, e19, hf⟩ := gs_some hf
          first | subst e19 | (try rw [e19])
          obtain ⟨⟨hk21, hb20⟩, hf⟩ := gd_some hf
          refine p_iald X (dcg dc_X12_neighbourAt 34 rfl) hk21 (vp_of_inb hb20) ?_
          have er := Option.some.inj hf
          subst er
          exact p_iret X rfl (dcg dc_X12_neighbourAt 35 rfl) ⟨rfl, rfl⟩ (Nat.le_refl _) (Nat.le_refl _)
      · have hf := if_f q hf
        refine p_goto (tgt := 69) X (dcg dc_X12_neighbourAt 28 rfl) (by decide) ?_
        refine p_pick [0, 1, 3, 4] ?_
        exact wX12_neighbourAt_b69 X hG hnm hf k0 kf
noncomputable def fX12_neighbourAt_l24 (v0 : Nat) (v1 : Int32) (v3 : Int32) (v4 : Int32) (h : PH) : Option (Int32 × PH) := wh (fun z : (Int32 × Int32) => fX12_neighbourAt_c24 v0 v1 (z.1) (z.2) h) (v3, v4)
set_option maxRecDepth 100000 in
theorem mX12_neighbourAt_l24 {v0 : Nat} {v1 : Int32} {v3 : Int32} {v4 : Int32} {h : PH} {r : (Int32 × PH)} (hf : fX12_neighbourAt_l24 v0 v1 v3 v4 h = some r) : eqz h (hX r.2) (hV r.2) := by
  unfold fX12_neighbourAt_l24 at hf
  refine wh_ind (P := fun z => eqz h (hX r.2) (hV r.2)) (fun z x0 hs i1 i2 => ?_) _ hf
  obtain cf := mX12_neighbourAt_c24 (v0 := v0) (v1 := v1) (v3 := z.1) (v4 := z.2) (h := h) hs
  rcases hxx : x0 with zz | zz
  · exact (i1 zz hxx)
  · have ee := i2 zz hxx; subst ee; exact cf zz hxx
set_option maxRecDepth 100000 in
theorem wX12_neighbourAt_l24 {E : PE} {p : Program} {l : Launch} {e : Env} {s : State} {m : MethodId} {args : Array Value} {below : List Frame} {meth : Method} {c : Code} (X : Cx E p l e (rmv 5 0 0) s m args below meth c RX12 cX12_neighbourAt 5 (some .int)) (hG : Gs E l) (hnm : meth.name = yX12_neighbourAt.name) {v0 : Nat} {v1 : Int32} {v3 : Int32} {v4 : Int32} {h : PH} {r : (Int32 × PH)} (hf : fX12_neighbourAt_l24 v0 v1 v3 v4 h = some r)  : PW E p l e (rmv 5 0 0) s m args below meth c 5 0 0 (MQ below (QG E (fun v u => v = some (.int r.1) ∧ u = r.2)) args s 0 0 (pA E)) h 24 [(0, some (.ref v0)), (1, some (.int v1)), (3, some (.int v3)), (4, some (.int v4))] [] := by
  unfold fX12_neighbourAt_l24 at hf
  refine wh_ind (P := fun z => PW E p l e (rmv 5 0 0) s m args below meth c 5 0 0 (MQ below (QG E (fun v u => v = some (.int r.1) ∧ u = r.2)) args s 0 0 (pA E)) h 24 [(0, some (.ref v0)), (1, some (.int v1)), (3, some (.int (z.1))), (4, some (.int (z.2)))] []) (fun z x0 hs i1 i2 => ?_) _ hf
  exact wX12_neighbourAt_c24 (r := r) (v0 := v0) (v1 := v1) (v3 := z.1) (v4 := z.2) (h := h) X hG hnm hs i1  i2
noncomputable def fX12_neighbourAt (v0 : Nat) (v1 : Int32) (v2 : Int32) (h : PH) : Option (Int32 × PH) :=
  gd (hK h v0 = 12) (lt (sI h 12 v0 0 (0 : Int32)) (fun h2 =>
  bd (fX12_noWord v0 v1 h2) (fun z3 =>
  if (z3.1 = 0) then (gd (hK z3.2 v0 = 12) (bd (fX12_finds v0 z3.2) (fun z5 =>
  fX12_neighbourAt_l24 v0 v1 v2 (0 : Int32) z5))) else
  some (((0 : Int32), z3.2)))))
set_option maxRecDepth 100000 in
theorem mX12_neighbourAt {v0 : Nat} {v1 : Int32} {v2 : Int32} {h : PH} {r : (Int32 × PH)} (hf : fX12_neighbourAt v0 v1 v2 h = some r) : eqz h (hX r.2) (hV r.2) := by
  unfold fX12_neighbourAt at hf
  have hle := eqz_rf h
  obtain ⟨hk1, hf⟩ := gd_some hf
  obtain ⟨h2, rfl, hf⟩ := lt_some hf
  obtain ⟨z3, hz3, hf⟩ := bd_some hf
  have hle := eqz_rt (mX12_noWord hz3) hle
  rcases ite_or hf with ⟨q, hf⟩ | ⟨q, hf⟩
  · have hf := if_t q hf
    obtain ⟨hk4, hf⟩ := gd_some hf
    obtain ⟨z5, hz5, hf⟩ := bd_some hf
    have hle := eqz_rt (mX12_finds hz5) hle
    exact eqz_rt (mX12_neighbourAt_l24 hf) hle
  · have hf := if_f q hf
    have ee := Option.some.inj hf; subst ee; exact hle
set_option maxRecDepth 100000 in
theorem wX12_neighbourAt {E : PE} {l : Launch} (hG : Gs E l) {v0 : Nat} {v1 : Int32} {v2 : Int32} {h : PH} {r : (Int32 × PH)} (hf : fX12_neighbourAt v0 v1 v2 h = some r) : Ct E l 5 0 0 yX12_neighbourAt cX12_neighbourAt 5 (some .int) [.ref v0, .int v1, .int v2] h (fun v u => v = some (.int r.1) ∧ u = r.2) := by
  refine ct_of hG (by decide) (Nat.le_of_ble_eq_true rfl) ?_
  intro p e s m args below meth c X hnm
  show PW E p l e _ s m args below meth c _ 0 0 _ h 0 [(0, some (.ref v0)), (1, some (.int v1)), (2, some (.int v2))] []
  unfold fX12_neighbourAt at hf
  refine p_aload_n X (dcg dc_X12_neighbourAt 0 rfl) rfl rfl ?_
  refine p_iconst (v := 0) X (dcg dc_X12_neighbourAt 1 rfl) (by decide) ?_
  obtain ⟨hk1, hf⟩ := gd_some hf
  refine p_putI X fl_X12_1 rfl (by decide) (fun q hq => by cases hq; rfl) rfl rfl (dcg dc_X12_neighbourAt 2 rfl) hk1 ?_
  obtain ⟨h2, rfl, hf⟩ := lt_some hf
  refine p_aload_n X (dcg dc_X12_neighbourAt 3 rfl) rfl rfl ?_
  refine p_iload_n X (dcg dc_X12_neighbourAt 4 rfl) rfl rfl ?_
  obtain ⟨z3, hz3, hf⟩ := bd_some hf
  refine p_callV (As := [_]) X ml_X12_240 (dcg dc_X12_neighbourAt 5 rfl) rfl rfl hk1 (wX12_noWord hG hz3) (by decide) (room4 (Nat.le_of_ble_eq_true rfl)) (Nat.le_refl _) (Nat.le_refl _) ?_
  rintro _ u9 ⟨rfl, e9⟩; have e9 := e9.symm; subst e9
  refine p_if_eq (tgt := 15) X (dcg dc_X12_neighbourAt 6 rfl) (by decide) (fun q => ?_) (fun q => ?_)
  · have hf := if_t q hf
    refine p_aload_n X (dcg dc_X12_neighbourAt 9 rfl) rfl rfl ?_
    obtain ⟨hk4, hf⟩ := gd_some hf
    obtain ⟨z5, hz5, hf⟩ := bd_some hf
    refine p_callV (As := []) X ml_X12_237 (dcg dc_X12_neighbourAt 10 rfl) rfl rfl hk4 (wX12_finds hG hz5) (by decide) (room4 (Nat.le_of_ble_eq_true rfl)) (Nat.le_refl _) (Nat.le_refl _) ?_
    rintro _ u9 ⟨rfl, e9⟩; have e9 := e9.symm; subst e9
    refine p_iload_n X (dcg dc_X12_neighbourAt 11 rfl) rfl rfl ?_
    refine p_istore_n X (dcg dc_X12_neighbourAt 12 rfl) rfl (by decide) rfl ?_
    refine p_iconst (v := 0) X (dcg dc_X12_neighbourAt 13 rfl) (by decide) ?_
    refine p_istore X (dcg dc_X12_neighbourAt 14 rfl) (by decide) rfl ?_
    refine p_pick [0, 1, 3, 4] ?_
    exact wX12_neighbourAt_l24 X hG hnm hf 
  · have hf := if_f q hf
    refine p_iconst (v := 0) X (dcg dc_X12_neighbourAt 7 rfl) (by decide) ?_
    have er := Option.some.inj hf
    subst er
    exact p_iret X rfl (dcg dc_X12_neighbourAt 8 rfl) ⟨rfl, rfl⟩ (Nat.le_refl _) (Nat.le_refl _)
theorem dc_X12_isSign : decs cX12_isSign [(0, .iload_n 0, 1), (1, .bipush 124, 2), (3, .if_icmp .eq 51, 3), (6, .iload_n 0, 1), (7, .bipush 38, 2), (9, .if_icmp .eq 45, 3), (12, .iload_n 0, 1), (13, .bipush 33, 2), (15, .if_icmp .eq 39, 3), (18, .iload_n 0, 1), (19, .bipush 40, 2), (21, .if_icmp .eq 33, 3), (24, .iload_n 0, 1), (25, .bipush 41, 2), (27, .if_icmp .eq 27, 3), (30, .iload_n 0, 1), (31, .bipush 42, 2), (33, .if_icmp .eq 21, 3), (36, .iload_n 0, 1), (37, .bipush 126, 2), (39, .if_icmp .eq 15, 3), (42, .iload_n 0, 1), (43, .bipush 91, 2), (45, .if_icmp .eq 9, 3), (48, .iload_n 0, 1), (49, .bipush 93, 2), (51, .if_icmp .ne 7, 3), (54, .iconst 1, 1), (55, .goto 4, 3), (58, .iconst 0, 1), (59, .ireturn, 1)] = true := by decide +kernel
noncomputable def fX12_isSign_b59 (t0 : Int32) : Option Int32 :=
  gd (t0 &&& 1 = t0) (some (t0))
set_option maxRecDepth 100000 in
theorem wX12_isSign_b59 {E : PE} {p : Program} {l : Launch} {e : Env} {s : State} {m : MethodId} {args : Array Value} {below : List Frame} {meth : Method} {c : Code} (X : Cx E p l e (rmv 0 0 0) s m args below meth c RX12 cX12_isSign 1 (some .boolean)) (hG : Gs E l) (hnm : meth.name = yX12_isSign.name) {t0 : Int32} {h : PH} {r : Int32} (hf : fX12_isSign_b59 t0 = some r)  : PW E p l e (rmv 0 0 0) s m args below meth c 1 0 0 (MQ below (QG E (fun v u => v = some (.int r) ∧ u = h)) args s 0 0 (pA E)) h 59 [] [.int t0] := by
  unfold fX12_isSign_b59 at hf
  obtain ⟨hg1, hf⟩ := gd_some hf
  have er := Option.some.inj hf
  subst er
  exact p_zret X rfl (congrArg Value.int hg1) (dcg dc_X12_isSign 30 rfl) ⟨rfl, rfl⟩ (Nat.le_refl _) (Nat.le_refl _)
noncomputable def fX12_isSign_b54  : Option Int32 :=
  fX12_isSign_b59 (1 : Int32)
set_option maxRecDepth 100000 in
theorem wX12_isSign_b54 {E : PE} {p : Program} {l : Launch} {e : Env} {s : State} {m : MethodId} {args : Array Value} {below : List Frame} {meth : Method} {c : Code} (X : Cx E p l e (rmv 0 0 0) s m args below meth c RX12 cX12_isSign 1 (some .boolean)) (hG : Gs E l) (hnm : meth.name = yX12_isSign.name)  {h : PH} {r : Int32} (hf : fX12_isSign_b54  = some r)  : PW E p l e (rmv 0 0 0) s m args below meth c 1 0 0 (MQ below (QG E (fun v u => v = some (.int r) ∧ u = h)) args s 0 0 (pA E)) h 54 [] [] := by
  unfold fX12_isSign_b54 at hf
  refine p_iconst (v := 1) X (dcg dc_X12_isSign 27 rfl) (by decide) ?_
  refine p_goto (tgt := 59) X (dcg dc_X12_isSign 28 rfl) (by decide) ?_
  refine p_pick [] ?_
  exact wX12_isSign_b59 X hG hnm hf 
noncomputable def fX12_isSign (v0 : Int32) : Option Int32 :=
  if (v0 = (124 : Int32)) then (fX12_isSign_b54 ) else
  if (v0 = (38 : Int32)) then (fX12_isSign_b54 ) else
  if (v0 = (33 : Int32)) then (fX12_isSign_b54 ) else
  if (v0 = (40 : Int32)) then (fX12_isSign_b54 ) else
  if (v0 = (41 : Int32)) then (fX12_isSign_b54 ) else
  if (v0 = (42 : Int32)) then (fX12_isSign_b54 ) else
  if (v0 = (126 : Int32)) then (fX12_isSign_b54 ) else
  if (v0 = (91 : Int32)) then (fX12_isSign_b54 ) else
  if (¬ v0 = (93 : Int32)) then (fX12_isSign_b59 (0 : Int32)) else
  fX12_isSign_b54 
set_option maxRecDepth 100000 in
theorem wX12_isSign {E : PE} {l : Launch} (hG : Gs E l) {v0 : Int32} {h : PH} {r : Int32} (hf : fX12_isSign v0 = some r) : Ct E l 0 0 0 yX12_isSign cX12_isSign 1 (some .boolean) [.int v0] h (fun v u => v = some (.int r) ∧ u = h) := by
  refine ct_of hG (by decide) (Nat.le_of_ble_eq_true rfl) ?_
  intro p e s m args below meth c X hnm
  show PW E p l e _ s m args below meth c _ 0 0 _ h 0 [(0, some (.int v0))] []
  unfold fX12_isSign at hf
  refine p_iload_n X (dcg dc_X12_isSign 0 rfl) rfl rfl ?_
  refine p_bipush (v := 124) X (dcg dc_X12_isSign 1 rfl) (by decide) ?_
  refine p_icmp_eq (tgt := 54) X (dcg dc_X12_isSign 2 rfl) (by decide) (fun q => ?_) (fun q => ?_)
  · have hf := if_t q hf
    refine p_pick [] ?_
    exact wX12_isSign_b54 X hG hnm hf 
  · have hf := if_f q hf
    refine p_iload_n X (dcg dc_X12_isSign 3 rfl) rfl rfl ?_
    refine p_bipush (v := 38) X (dcg dc_X12_isSign 4 rfl) (by decide) ?_
    refine p_icmp_eq (tgt := 54) X (dcg dc_X12_isSign 5 rfl) (by decide) (fun q => ?_) (fun q => ?_)
    · have hf := if_t q hf
      refine p_pick [] ?_
      exact wX12_isSign_b54 X hG hnm hf 
    · have hf := if_f q hf
      refine p_iload_n X (dcg dc_X12_isSign 6 rfl) rfl rfl ?_
      refine p_bipush (v := 33) X (dcg dc_X12_isSign 7 rfl) (by decide) ?_
      refine p_icmp_eq (tgt := 54) X (dcg dc_X12_isSign 8 rfl) (by decide) (fun q => ?_) (fun q => ?_)
      · have hf := if_t q hf
        refine p_pick [] ?_
        exact wX12_isSign_b54 X hG hnm hf 
      · have hf := if_f q hf
        refine p_iload_n X (dcg dc_X12_isSign 9 rfl) rfl rfl ?_
        refine p_bipush (v := 40) X (dcg dc_X12_isSign 10 rfl) (by decide) ?_
        refine p_icmp_eq (tgt := 54) X (dcg dc_X12_isSign 11 rfl) (by decide) (fun q => ?_) (fun q => ?_)
        · have hf := if_t q hf
          refine p_pick [] ?_
          exact wX12_isSign_b54 X hG hnm hf 
        · have hf := if_f q hf
          refine p_iload_n X (dcg dc_X12_isSign 12 rfl) rfl rfl ?_
          refine p_bipush (v := 41) X (dcg dc_X12_isSign 13 rfl) (by decide) ?_
          refine p_icmp_eq (tgt := 54) X (dcg dc_X12_isSign 14 rfl) (by decide) (fun q => ?_) (fun q => ?_)
          · have hf := if_t q hf
            refine p_pick [] ?_
            exact wX12_isSign_b54 X hG hnm hf 
          · have hf := if_f q hf
            refine p_iload_n X (dcg dc_X12_isSign 15 rfl) rfl rfl ?_
            refine p_bipush (v := 42) X (dcg dc_X12_isSign 16 rfl) (by decide) ?_
            refine p_icmp_eq (tgt := 54) X (dcg dc_X12_isSign 17 rfl) (by decide) (fun q => ?_) (fun q => ?_)
            · have hf := if_t q hf
              refine p_pick [] ?_
              exact wX12_isSign_b54 X hG hnm hf 
            · have hf := if_f q hf
              refine p_iload_n X (dcg dc_X12_isSign 18 rfl) rfl rfl ?_
              refine p_bipush (v := 126) X (dcg dc_X12_isSign 19 rfl) (by decide) ?_
              refine p_icmp_eq (tgt := 54) X (dcg dc_X12_isSign 20 rfl) (by decide) (fun q => ?_) (fun q => ?_)
              · have hf := if_t q hf
                refine p_pick [] ?_
                exact wX12_isSign_b54 X hG hnm hf 
              · have hf := if_f q hf
                refine p_iload_n X (dcg dc_X12_isSign 21 rfl) rfl rfl ?_
                refine p_bipush (v := 91) X (dcg dc_X12_isSign 22 rfl) (by decide) ?_
                refine p_icmp_eq (tgt := 54) X (dcg dc_X12_isSign 23 rfl) (by decide) (fun q => ?_) (fun q => ?_)
                · have hf := if_t q hf
                  refine p_pick [] ?_
                  exact wX12_isSign_b54 X hG hnm hf 
                · have hf := if_f q hf
                  refine p_iload_n X (dcg dc_X12_isSign 24 rfl) rfl rfl ?_
                  refine p_bipush (v := 93) X (dcg dc_X12_isSign 25 rfl) (by decide) ?_
                  refine p_icmp_ne (tgt := 58) X (dcg dc_X12_isSign 26 rfl) (by decide) (fun q => ?_) (fun q => ?_)
                  · have hf := if_t q hf
                    refine p_iconst (v := 0) X (dcg dc_X12_isSign 29 rfl) (by decide) ?_
                    refine p_pick [] ?_
                    exact wX12_isSign_b59 X hG hnm hf 
                  · have hf := if_f q hf
                    refine p_pick [] ?_
                    exact wX12_isSign_b54 X hG hnm hf 
theorem dc_X12_readsRun : decs cX12_readsRun [(0, .iload_n 1, 1), (1, .bipush 48, 2), (3, .if_icmp .ne 7, 3), (6, .iconst 1, 1), (7, .goto 4, 3), (10, .iconst 0, 1), (11, .istore_n 3, 1), (12, .iload_n 3, 1), (13, .ifCond .eq 7, 3), (16, .iconst 2, 1), (17, .goto 5, 3), (20, .bipush 6, 2), (22, .istore 4, 2), (24, .iconst 0, 1), (25, .istore 5, 2), (27, .aload_n 0, 1), (28, .iconst 0, 1), (29, .putfield 258, 3), (32, .aload_n 0, 1), (33, .getfield 261, 3), (36, .aload_n 0, 1), (37, .getfield 163, 3), (40, .if_icmp .ge 96, 3), (43, .aload_n 0, 1), (44, .getfield 13, 3), (47, .aload_n 0, 1), (48, .getfield 261, 3), (51, .iaload, 1), (52, .iload_n 1, 1), (53, .iload_n 2, 1), (54, .invokestatic 148, 3), (57, .ifCond .eq 79, 3), (60, .iload 5, 2), (62, .iload 4, 2), (64, .if_icmp .ge 56, 3), (67, .aload_n 0, 1), (68, .iload_n 3, 1), (69, .ifCond .eq 26, 3), (72, .bipush 10, 2), (74, .aload_n 0, 1), (75, .getfield 258, 3), (78, .imul, 1), (79, .aload_n 0, 1), (80, .getfield 13, 3), (83, .aload_n 0, 1), (84, .getfield 261, 3), (87, .iaload, 1), (88, .iadd, 1), (89, .bipush 48, 2), (91, .isub, 1), (92, .goto 25, 3), (95, .bipush 27, 2), (97, .aload_n 0, 1), (98, .getfield 258, 3), (101, .imul, 1), (102, .aload_n 0, 1), (103, .getfield 13, 3), (106, .aload_n 0, 1), (107, .getfield 261, 3), (110, .iaload, 1), (111, .iadd, 1), (112, .bipush 97, 2), (114, .isub, 1), (115, .iconst 1, 1), (116, .iadd, 1), (117, .putfield 258, 3), (120, .iinc 5 1, 3), (123, .aload_n 0, 1), (124, .dup, 1), (125, .getfield 261, 3), (128, .iconst 1, 1), (129, .iadd, 1), (130, .putfield 261, 3), (133, .goto (-101), 3), (136, .aload_n 0, 1), (137, .iload_n 3, 1), (138, .ifCond .eq 7, 3), (141, .iconst 2, 1), (142, .goto 4, 3), (145, .iconst 3, 1), (146, .putfield 264, 3), (149, .iload 5, 2), (151, .iload 4, 2), (153, .if_icmp .gt 20, 3), (156, .iload_n 3, 1), (157, .ifCond .eq 21, 3), (160, .aload_n 0, 1), (161, .getfield 258, 3), (164, .iconst 1, 1), (165, .bipush 40, 2), (167, .invokestatic 148, 3), (170, .ifCond .ne 8, 3), (173, .aload_n 0, 1), (174, .iconst 4, 1), (175, .putfield 264, 3), (178, .return_, 1)] = true := by decide +kernel
noncomputable def fX12_readsRun_b178  (h : PH) : Option PH :=
  some (h)
set_option maxRecDepth 100000 in
theorem mX12_readsRun_b178  {h : PH} {r : PH} (hf : fX12_readsRun_b178  h = some r) : eqz h (hX r) (hV r) := by
  unfold fX12_readsRun_b178 at hf
  have hle := eqz_rf h
  have ee := Option.some.inj hf; subst ee; exact hle
set_option maxRecDepth 100000 in
theorem wX12_readsRun_b178 {E : PE} {p : Program} {l : Launch} {e : Env} {s : State} {m : MethodId} {args : Array Value} {below : List Frame} {meth : Method} {c : Code} (X : Cx E p l e (rmv 1 0 0) s m args below meth c RX12 cX12_readsRun 6 (none)) (hG : Gs E l) (hnm : meth.name = yX12_readsRun.name)  {h : PH} {r : PH} (hf : fX12_readsRun_b178  h = some r)  : PW E p l e (rmv 1 0 0) s m args below meth c 6 0 0 (MQ below (QG E (fun v u => v = none ∧ u = r)) args s 0 0 (pA E)) h 178 [] [] := by
  unfold fX12_readsRun_b178 at hf
  have er := Option.some.inj hf
  subst er
  exact p_vret X rfl (dcg dc_X12_readsRun 95 rfl) ⟨rfl, rfl⟩ (Nat.le_refl _) (Nat.le_refl _)
noncomputable def fX12_readsRun_b173 (v0 : Nat) (h : PH) : Option PH :=
  gd (hK h v0 = 12) (lt (sI h 12 v0 21 (4 : Int32)) (fun h9 =>
  fX12_readsRun_b178  h9))
set_option maxRecDepth 100000 in
theorem mX12_readsRun_b173 {v0 : Nat} {h : PH} {r : PH} (hf : fX12_readsRun_b173 v0 h = some r) : eqz h (hX r) (hV r) := by
  unfold fX12_readsRun_b173 at hf
  have hle := eqz_rf h
  obtain ⟨hk8, hf⟩ := gd_some hf
  obtain ⟨h9, rfl, hf⟩ := lt_some hf
  exact eqz_rt (mX12_readsRun_b178 hf) hle
set_option maxRecDepth 100000 in
theorem wX12_readsRun_b173 {E : PE} {p : Program} {l : Launch} {e : Env} {s : State} {m : MethodId} {args : Array Value} {below : List Frame} {meth : Method} {c : Code} (X : Cx E p l e (rmv 1 0 0) s m args below meth c RX12 cX12_readsRun 6 (none)) (hG : Gs E l) (hnm : meth.name = yX12_readsRun.name) {v0 : Nat} {h : PH} {r : PH} (hf : fX12_readsRun_b173 v0 h = some r)  : PW E p l e (rmv 1 0 0) s m args below meth c 6 0 0 (MQ below (QG E (fun v u => v = none ∧ u = r)) args s 0 0 (pA E)) h 173 [(0, some (.ref v0))] [] := by
  unfold fX12_readsRun_b173 at hf
  refine p_aload_n X (dcg dc_X12_readsRun 92 rfl) rfl rfl ?_
  refine p_iconst (v := 4) X (dcg dc_X12_readsRun 93 rfl) (by decide) ?_
  obtain ⟨hk8, hf⟩ := gd_some hf
  refine p_putI X fl_X12_264 rfl (by decide) (fun q hq => by cases hq; rfl) rfl rfl (dcg dc_X12_readsRun 94 rfl) hk8 ?_
  obtain ⟨h9, rfl, hf⟩ := lt_some hf
  refine p_pick [] ?_
  exact wX12_readsRun_b178 X hG hnm hf 
noncomputable def fX12_readsRun_b146 (v0 : Nat) (v3 : Int32) (v4 : Int32) (v5 : Int32) (t0 : Option Nat) (t1 : Int32) (h : PH) : Option PH :=
  gs t0 (fun a4 =>
  gd (hK h a4 = 12) (lt (sI h 12 a4 21 t1) (fun h7 =>
  if (v4 < v5) then (fX12_readsRun_b173 v0 h7) else
  if (v3 = 0) then (fX12_readsRun_b178  h7) else
  gd (hK h7 v0 = 12) (bd (fX12_in (hI h7 12 v0 23) (1 : Int32) (40 : Int32)) (fun z11 =>
  if (¬ z11 = 0) then (fX12_readsRun_b178  h7) else
  fX12_readsRun_b173 v0 h7)))))
set_option maxRecDepth 100000 in
theorem mX12_readsRun_b146 {v0 : Nat} {v3 : Int32} {v4 : Int32} {v5 : Int32} {t0 : Option Nat} {t1 : Int32} {h : PH} {r : PH} (hf : fX12_readsRun_b146 v0 v3 v4 v5 t0 t1 h = some r) : eqz h (hX r) (hV r) := by
  unfold fX12_readsRun_b146 at hf
  have hle := eqz_rf h
  obtain ⟨a4, e5, hf⟩ := gs_some hf
  obtain ⟨hk6, hf⟩ := gd_some hf
  obtain ⟨h7, rfl, hf⟩ := lt_some hf
  rcases ite_or hf with ⟨q, hf⟩ | ⟨q, hf⟩
  · have hf := if_t q hf
    exact eqz_rt (mX12_readsRun_b173 hf) hle
  · have hf := if_f q hf
    rcases ite_or hf with ⟨q, hf⟩ | ⟨q, hf⟩
    · have hf := if_t q hf
      exact eqz_rt (mX12_readsRun_b178 hf) hle
    · have hf := if_f q hf
      obtain ⟨hk10, hf⟩ := gd_some hf
      obtain ⟨z11, hz11, hf⟩ := bd_some hf
      rcases ite_or hf with ⟨q, hf⟩ | ⟨q, hf⟩
      · have hf := if_t q hf
        exact eqz_rt (mX12_readsRun_b178 hf) hle
      · have hf := if_f q hf
        exact eqz_rt (mX12_readsRun_b173 hf) hle
set_option maxRecDepth 100000 in
theorem wX12_readsRun_b146 {E : PE} {p : Program} {l : Launch} {e : Env} {s : State} {m : MethodId} {args : Array Value} {below : List Frame} {meth : Method} {c : Code} (X : Cx E p l e (rmv 1 0 0) s m args below meth c RX12 cX12_readsRun 6 (none)) (hG : Gs E l) (hnm : meth.name = yX12_readsRun.name) {v0 : Nat} {v3 : Int32} {v4 : Int32} {v5 : Int32} {t0 : Option Nat} {t1 : Int32} {h : PH} {r : PH} (hf : fX12_readsRun_b146 v0 v3 v4 v5 t0 t1 h = some r)  : PW E p l e (rmv 1 0 0) s m args below meth c 6 0 0 (MQ below (QG E (fun v u => v = none ∧ u = r)) args s 0 0 (pA E)) h 146 [(0, some (.ref v0)), (3, some (.int v3)), (4, some (.int v4)), (5, some (.int v5))] [.int t1, va_rf t0] := by
  unfold fX12_readsRun_b146 at hf
  obtain ⟨a4, e5, hf⟩ := gs_some hf
  first | subst e5 | (try rw [e5])
  obtain ⟨hk6, hf⟩ := gd_some hf
  refine p_putI X fl_X12_264 rfl (by decide) (fun q hq => by cases hq; rfl) rfl rfl (dcg dc_X12_readsRun 80 rfl) hk6 ?_
  obtain ⟨h7, rfl, hf⟩ := lt_some hf
  refine p_iload X (dcg dc_X12_readsRun 81 rfl) rfl ?_
  refine p_iload X (dcg dc_X12_readsRun 82 rfl) rfl ?_
  refine p_icmp_gt (tgt := 173) X (dcg dc_X12_readsRun 83 rfl) (by decide) (fun q => ?_) (fun q => ?_)
  · have hf := if_t q hf
    refine p_pick [0] ?_
    exact wX12_readsRun_b173 X hG hnm hf 
  · have hf := if_f q hf
    refine p_iload_n X (dcg dc_X12_readsRun 84 rfl) rfl rfl ?_
    refine p_if_eq (tgt := 178) X (dcg dc_X12_readsRun 85 rfl) (by decide) (fun q => ?_) (fun q => ?_)
    · have hf := if_t q hf
      refine p_pick [] ?_
      exact wX12_readsRun_b178 X hG hnm hf 
    · have hf := if_f q hf
      refine p_aload_n X (dcg dc_X12_readsRun 86 rfl) rfl rfl ?_
      obtain ⟨hk10, hf⟩ := gd_some hf
      refine p_getI X fl_X12_258 rfl (by decide) (dcg dc_X12_readsRun 87 rfl) hk10 ?_
      refine p_iconst (v := 1) X (dcg dc_X12_readsRun 88 rfl) (by decide) ?_
      refine p_bipush (v := 40) X (dcg dc_X12_readsRun 89 rfl) (by decide) ?_
      obtain ⟨z11, hz11, hf⟩ := bd_some hf
      refine p_callS (As := [_, _, _]) X ml_X12_148 (dcg dc_X12_readsRun 90 rfl) rfl rfl  (wX12_in hG hz11) (by decide) (room4 (Nat.le_of_ble_eq_true rfl)) (Nat.le_refl _) (Nat.le_refl _) ?_
      rintro _ u9 ⟨rfl, e9⟩; have e9 := e9.symm; subst e9
      refine p_if_ne (tgt := 178) X (dcg dc_X12_readsRun 91 rfl) (by decide) (fun q => ?_) (fun q => ?_)
      · have hf := if_t q hf
        refine p_pick [] ?_
        exact wX12_readsRun_b178 X hG hnm hf 
      · have hf := if_f q hf
        refine p_pick [0] ?_
        exact wX12_readsRun_b173 X hG hnm hf 
noncomputable def fX12_readsRun_b136 (v0 : Nat) (v3 : Int32) (v4 : Int32) (v5 : Int32) (h : PH) : Option PH :=
  if (v3 = 0) then (fX12_readsRun_b146 v0 v3 v4 v5 (some v0) (3 : Int32) h) else
  fX12_readsRun_b146 v0 v3 v4 v5 (some v0) (2 : Int32) h
set_option maxRecDepth 100000 in
theorem mX12_readsRun_b136 {v0 : Nat} {v3 : Int32} {v4 : Int32} {v5 : Int32} {h : PH} {r : PH} (hf : fX12_readsRun_b136 v0 v3 v4 v5 h = some r) : eqz h (hX r) (hV r) := by
  unfold fX12_readsRun_b136 at hf
  have hle := eqz_rf h
  rcases ite_or hf with ⟨q, hf⟩ | ⟨q, hf⟩
  · have hf := if_t q hf
    exact eqz_rt (mX12_readsRun_b146 hf) hle
  · have hf := if_f q hf
    exact eqz_rt (mX12_readsRun_b146 hf) hle
set_option maxRecDepth 100000 in
theorem wX12_readsRun_b136 {E : PE} {p : Program} {l : Launch} {e : Env} {s : State} {m : MethodId} {args : Array Value} {below : List Frame} {meth : Method} {c : Code} (X : Cx E p l e (rmv 1 0 0) s m args below meth c RX12 cX12_readsRun 6 (none)) (hG : Gs E l) (hnm : meth.name = yX12_readsRun.name) {v0 : Nat} {v3 : Int32} {v4 : Int32} {v5 : Int32} {h : PH} {r : PH} (hf : fX12_readsRun_b136 v0 v3 v4 v5 h = some r)  : PW E p l e (rmv 1 0 0) s m args below meth c 6 0 0 (MQ below (QG E (fun v u => v = none ∧ u = r)) args s 0 0 (pA E)) h 136 [(0, some (.ref v0)), (3, some (.int v3)), (4, some (.int v4)), (5, some (.int v5))] [] := by
  unfold fX12_readsRun_b136 at hf
  refine p_aload_n X (dcg dc_X12_readsRun 74 rfl) rfl rfl ?_
  refine p_iload_n X (dcg dc_X12_readsRun 75 rfl) rfl rfl ?_
  refine p_if_eq (tgt := 145) X (dcg dc_X12_readsRun 76 rfl) (by decide) (fun q => ?_) (fun q => ?_)
  · have hf := if_t q hf
    refine p_iconst (v := 3) X (dcg dc_X12_readsRun 79 rfl) (by decide) ?_
    refine p_pick [0, 3, 4, 5] ?_
    exact wX12_readsRun_b146 X hG hnm hf 
  · have hf := if_f q hf
    refine p_iconst (v := 2) X (dcg dc_X12_readsRun 77 rfl) (by decide) ?_
    refine p_goto (tgt := 146) X (dcg dc_X12_readsRun 78 rfl) (by decide) ?_
    refine p_pick [0, 3, 4, 5] ?_
    exact wX12_readsRun_b146 X hG hnm hf 
noncomputable def fX12_readsRun_b120 (v0 : Nat) (v1 : Int32) (v2 : Int32) (v3 : Int32) (v4 : Int32) (v5 : Int32) (h : PH) : Option ((Int32 × PH) ⊕ PH) :=
  gd (hK h v0 = 12) (lt (sI h 12 v0 24 ((hI h 12 v0 24) + (1 : Int32))) (fun h22 =>
  some (.inl ((v5 + 1), h22))))
set_option maxRecDepth 100000 in
theorem mX12_readsRun_b120 {v0 : Nat} {v1 : Int32} {v2 : Int32} {v3 : Int32} {v4 : Int32} {v5 : Int32} {h : PH} {x : ((Int32 × PH) ⊕ PH)} (hf : fX12_readsRun_b120 v0 v1 v2 v3 v4 v5 h = some x) : (∀ w9 : (Int32 × PH), x = .inl w9 → eqz h (hX (w9.2)) (hV (w9.2))) ∧ (∀ w9 : PH, x = .inr w9 → eqz h (hX w9) (hV w9)) := by
  unfold fX12_readsRun_b120 at hf
  have hle := eqz_rf h
  obtain ⟨hk21, hf⟩ := gd_some hf
  obtain ⟨h22, rfl, hf⟩ := lt_some hf
  have ee := Option.some.inj hf; subst ee
  exact ⟨(fun z e => by have ee := Sum.inl.inj (e); subst ee; exact hle), (fun z e => nomatch e)⟩
set_option maxRecDepth 100000 in
theorem wX12_readsRun_b120 {E : PE} {p : Program} {l : Launch} {e : Env} {s : State} {m : MethodId} {args : Array Value} {below : List Frame} {meth : Method} {c : Code} (X : Cx E p l e (rmv 1 0 0) s m args below meth c RX12 cX12_readsRun 6 (none)) (hG : Gs E l) (hnm : meth.name = yX12_readsRun.name) {v0 : Nat} {v1 : Int32} {v2 : Int32} {v3 : Int32} {v4 : Int32} {v5 : Int32} {h : PH} {r : PH} {x : ((Int32 × PH) ⊕ PH)} (hf : fX12_readsRun_b120 v0 v1 v2 v3 v4 v5 h = some x) (k0 : ∀ z : (Int32 × PH), x = .inl z → PW E p l e (rmv 1 0 0) s m args below meth c 6 0 0 (MQ below (QG E (fun v u => v = none ∧ u = r)) args s 0 0 (pA E)) (z.2) 32 [(0, some (.ref v0)), (1, some (.int v1)), (2, some (.int v2)), (3, some (.int v3)), (4, some (.int v4)), (5, some (.int (z.1)))] []) (kf : ∀ z : PH, x = .inr z → z = r) : PW E p l e (rmv 1 0 0) s m args below meth c 6 0 0 (MQ below (QG E (fun v u => v = none ∧ u = r)) args s 0 0 (pA E)) h 120 [(0, some (.ref v0)), (1, some (.int v1)), (2, some (.int v2)), (3, some (.int v3)), (4, some (.int v4)), (5, some (.int v5))] [] := by
  unfold fX12_readsRun_b120 at hf
  refine p_iinc (v := 1) X (dcg dc_X12_readsRun 66 rfl) rfl (by decide) (by decide) rfl ?_
  refine p_aload_n X (dcg dc_X12_readsRun 67 rfl) rfl rfl ?_
  refine p_dup X (dcg dc_X12_readsRun 68 rfl) rfl ?_
  obtain ⟨hk21, hf⟩ := gd_some hf
  refine p_getI X fl_X12_261 rfl (by decide) (dcg dc_X12_readsRun 69 rfl) hk21 ?_
  refine p_iconst (v := 1) X (dcg dc_X12_readsRun 70 rfl) (by decide) ?_
  refine p_iadd X (dcg dc_X12_readsRun 71 rfl) ?_
  refine p_putI X fl_X12_261 rfl (by decide) (fun q hq => by cases hq; rfl) rfl rfl (dcg dc_X12_readsRun 72 rfl) hk21 ?_
  obtain ⟨h22, rfl, hf⟩ := lt_some hf
  refine p_goto (tgt := 32) X (dcg dc_X12_readsRun 73 rfl) (by decide) ?_
  refine p_pick [0, 1, 2, 3, 4, 5] ?_
  exact k0 _ (Option.some.inj hf).symm
noncomputable def fX12_readsRun_b117 (v0 : Nat) (v1 : Int32) (v2 : Int32) (v3 : Int32) (v4 : Int32) (v5 : Int32) (t0 : Option Nat) (t1 : Int32) (h : PH) : Option ((Int32 × PH) ⊕ PH) :=
  gs t0 (fun a27 =>
  gd (hK h a27 = 12) (lt (sI h 12 a27 23 t1) (fun h30 =>
  fX12_readsRun_b120 v0 v1 v2 v3 v4 v5 h30)))
set_option maxRecDepth 100000 in
theorem mX12_readsRun_b117 {v0 : Nat} {v1 : Int32} {v2 : Int32} {v3 : Int32} {v4 : Int32} {v5 : Int32} {t0 : Option Nat} {t1 : Int32} {h : PH} {x : ((Int32 × PH) ⊕ PH)} (hf : fX12_readsRun_b117 v0 v1 v2 v3 v4 v5 t0 t1 h = some x) : (∀ w9 : (Int32 × PH), x = .inl w9 → eqz h (hX (w9.2)) (hV (w9.2))) ∧ (∀ w9 : PH, x = .inr w9 → eqz h (hX w9) (hV w9)) := by
  unfold fX12_readsRun_b117 at hf
  have hle := eqz_rf h
  obtain ⟨a27, e28, hf⟩ := gs_some hf
  obtain ⟨hk29, hf⟩ := gd_some hf
  obtain ⟨h30, rfl, hf⟩ := lt_some hf
  obtain ⟨c0, cf⟩ := mX12_readsRun_b120 hf
  exact ⟨fun z e => eqz_rt (c0 z (e)) hle, fun z e => eqz_rt (cf z (e)) hle⟩
set_option maxRecDepth 100000 in
theorem wX12_readsRun_b117 {E : PE} {p : Program} {l : Launch} {e : Env} {s : State} {m : MethodId} {args : Array Value} {below : List Frame} {meth : Method} {c : Code} (X : Cx E p l e (rmv 1 0 0) s m args below meth c RX12 cX12_readsRun 6 (none)) (hG : Gs E l) (hnm : meth.name = yX12_readsRun.name) {v0 : Nat} {v1 : Int32} {v2 : Int32} {v3 : Int32} {v4 : Int32} {v5 : Int32} {t0 : Option Nat} {t1 : Int32} {h : PH} {r : PH} {x : ((Int32 × PH) ⊕ PH)} (hf : fX12_readsRun_b117 v0 v1 v2 v3 v4 v5 t0 t1 h = some x) (k0 : ∀ z : (Int32 × PH), x = .inl z → PW E p l e (rmv 1 0 0) s m args below meth c 6 0 0 (MQ below (QG E (fun v u => v = none ∧ u = r)) args s 0 0 (pA E)) (z.2) 32 [(0, some (.ref v0)), (1, some (.int v1)), (2, some (.int v2)), (3, some (.int v3)), (4, some (.int v4)), (5, some (.int (z.1)))] []) (kf : ∀ z : PH, x = .inr z → z = r) : PW E p l e (rmv 1 0 0) s m args below meth c 6 0 0 (MQ below (QG E (fun v u => v = none ∧ u = r)) args s 0 0 (pA E)) h 117 [(0, some (.ref v0)), (1, some (.int v1)), (2, some (.int v2)), (3, some (.int v3)), (4, some (.int v4)), (5, some (.int v5))] [.int t1, va_rf t0] := by
  unfold fX12_readsRun_b117 at hf
  obtain ⟨a27, e28, hf⟩ := gs_some hf
  first | subst e28 | (try rw [e28])
  obtain ⟨hk29, hf⟩ := gd_some hf
  refine p_putI X fl_X12_258 rfl (by decide) (fun q hq => by cases hq; rfl) rfl rfl (dcg dc_X12_readsRun 65 rfl) hk29 ?_
  obtain ⟨h30, rfl, hf⟩ := lt_some hf
  refine p_pick [0, 1, 2, 3, 4, 5] ?_
  exact wX12_readsRun_b120 X hG hnm hf k0 kf
noncomputable def fX12_readsRun_c32 (v0 : Nat) (v1 : Int32) (v2 : Int32) (v3 : Int32) (v4 : Int32) (v5 : Int32) (h : PH) : Option ((Int32 × PH) ⊕ PH) :=
  gd (hK h v0 = 12) (if ((hI h 12 v0 2) ≤ (hI h 12 v0 24)) then (mr (fX12_readsRun_b136 v0 v3 v4 v5 h)) else
  gs (hR h 12 v0 1) (fun a14 =>
  gd (hK h a14 = 20 ∧ inb (hI h 12 v0 24) (hN h a14)) (bd (fX12_in (hI h 20 a14 (Int32.toNatClampNeg (hI h 12 v0 24))) v1 v2) (fun z18 =>
  if (z18 = 0) then (mr (fX12_readsRun_b136 v0 v3 v4 v5 h)) else
  if (v4 ≤ v5) then (fX12_readsRun_b120 v0 v1 v2 v3 v4 v5 h) else
  if (v3 = 0) then (gs (hR h 12 v0 1) (fun a23 =>
  gd (hK h a23 = 20 ∧ inb (hI h 12 v0 24) (hN h a23)) (fX12_readsRun_b117 v0 v1 v2 v3 v4 v5 (some v0) (((((27 : Int32) * (hI h 12 v0 23)) + (hI h 20 a23 (Int32.toNatClampNeg (hI h 12 v0 24)))) - (97 : Int32)) + (1 : Int32)) h))) else
  gs (hR h 12 v0 1) (fun a31 =>
  gd (hK h a31 = 20 ∧ inb (hI h 12 v0 24) (hN h a31)) (fX12_readsRun_b117 v0 v1 v2 v3 v4 v5 (some v0) ((((10 : Int32) * (hI h 12 v0 23)) + (hI h 20 a31 (Int32.toNatClampNeg (hI h 12 v0 24)))) - (48 : Int32)) h))))))
set_option maxRecDepth 100000 in
theorem mX12_readsRun_c32 {v0 : Nat} {v1 : Int32} {v2 : Int32} {v3 : Int32} {v4 : Int32} {v5 : Int32} {h : PH} {x : ((Int32 × PH) ⊕ PH)} (hf : fX12_readsRun_c32 v0 v1 v2 v3 v4 v5 h = some x) : (∀ w9 : (Int32 × PH), x = .inl w9 → eqz h (hX (w9.2)) (hV (w9.2))) ∧ (∀ w9 : PH, x = .inr w9 → eqz h (hX w9) (hV w9)) := by
  unfold fX12_readsRun_c32 at hf
  have hle := eqz_rf h
  obtain ⟨hk3, hf⟩ := gd_some hf
  rcases ite_or hf with ⟨q, hf⟩ | ⟨q, hf⟩
  · have hf := if_t q hf
    obtain ⟨y12, hfm, rfl⟩ := mr_some hf; have hf := hfm; clear hfm
    have cf := mX12_readsRun_b136 hf
    exact ⟨(fun z e => nomatch e), (fun z e => by cases e <;> exact eqz_rt cf hle)⟩
  · have hf := if_f q hf
    obtain ⟨a14, e15, hf⟩ := gs_some hf
    obtain ⟨⟨hk17, hb16⟩, hf⟩ := gd_some hf
    obtain ⟨z18, hz18, hf⟩ := bd_some hf
    rcases ite_or hf with ⟨q, hf⟩ | ⟨q, hf⟩
    · have hf := if_t q hf
      obtain ⟨y19, hfm, rfl⟩ := mr_some hf; have hf := hfm; clear hfm
      have cf := mX12_readsRun_b136 hf
      exact ⟨(fun z e => nomatch e), (fun z e => by cases e <;> exact eqz_rt cf hle)⟩
    · have hf := if_f q hf
      rcases ite_or hf with ⟨q, hf⟩ | ⟨q, hf⟩
      · have hf := if_t q hf
        obtain ⟨c0, cf⟩ := mX12_readsRun_b120 hf
        exact ⟨fun z e => eqz_rt (c0 z (e)) hle, fun z e => eqz_rt (cf z (e)) hle⟩
      · have hf := if_f q hf
        rcases ite_or hf with ⟨q, hf⟩ | ⟨q, hf⟩
        · have hf := if_t q hf
          obtain ⟨a23, e24, hf⟩ := gs_some hf
          obtain ⟨⟨hk26, hb25⟩, hf⟩ := gd_some hf
          obtain ⟨c0, cf⟩ := mX12_readsRun_b117 hf
          exact ⟨fun z e => eqz_rt (c0 z (e)) hle, fun z e => eqz_rt (cf z (e)) hle⟩
        · have hf := if_f q hf
          obtain ⟨a31, e32, hf⟩ := gs_some hf
          obtain ⟨⟨hk34, hb33⟩, hf⟩ := gd_some hf
          obtain ⟨c0, cf⟩ := mX12_readsRun_b117 hf
          exact ⟨fun z e => eqz_rt (c0 z (e)) hle, fun z e => eqz_rt (cf z (e)) hle⟩
set_option maxRecDepth 100000 in
theorem wX12_readsRun_c32 {E : PE} {p : Program} {l : Launch} {e : Env} {s : State} {m : MethodId} {args : Array Value} {below : List Frame} {meth : Method} {c : Code} (X : Cx E p l e (rmv 1 0 0) s m args below meth c RX12 cX12_readsRun 6 (none)) (hG : Gs E l) (hnm : meth.name = yX12_readsRun.name) {v0 : Nat} {v1 : Int32} {v2 : Int32} {v3 : Int32} {v4 : Int32} {v5 : Int32} {h : PH} {r : PH} {x : ((Int32 × PH) ⊕ PH)} (hf : fX12_readsRun_c32 v0 v1 v2 v3 v4 v5 h = some x) (k0 : ∀ z : (Int32 × PH), x = .inl z → PW E p l e (rmv 1 0 0) s m args below meth c 6 0 0 (MQ below (QG E (fun v u => v = none ∧ u = r)) args s 0 0 (pA E)) (z.2) 32 [(0, some (.ref v0)), (1, some (.int v1)), (2, some (.int v2)), (3, some (.int v3)), (4, some (.int v4)), (5, some (.int (z.1)))] []) (kf : ∀ z : PH, x = .inr z → z = r) : PW E p l e (rmv 1 0 0) s m args below meth c 6 0 0 (MQ below (QG E (fun v u => v = none ∧ u = r)) args s 0 0 (pA E)) h 32 [(0, some (.ref v0)), (1, some (.int v1)), (2, some (.int v2)), (3, some (.int v3)), (4, some (.int v4)), (5, some (.int v5))] [] := by
  unfold fX12_readsRun_c32 at hf
  refine p_aload_n X (dcg dc_X12_readsRun 18 rfl) rfl rfl ?_
  obtain ⟨hk3, hf⟩ := gd_some hf
  refine p_getI X fl_X12_261 rfl (by decide) (dcg dc_X12_readsRun 19 rfl) hk3 ?_
  refine p_aload_n X (dcg dc_X12_readsRun 20 rfl) rfl rfl ?_
  refine p_getI X fl_X12_163 rfl (by decide) (dcg dc_X12_readsRun 21 rfl) hk3 ?_
  refine p_icmp_ge (tgt := 136) X (dcg dc_X12_readsRun 22 rfl) (by decide) (fun q => ?_) (fun q => ?_)
  · have hf := if_t q hf
    obtain ⟨y12, hf, hy13⟩ := mr_some hf
    have hy13f := kf y12 hy13
    subst hy13f
    refine p_pick [0, 3, 4, 5] ?_
    exact wX12_readsRun_b136 X hG hnm hf 
  · have hf := if_f q hf
    refine p_aload_n X (dcg dc_X12_readsRun 23 rfl) rfl rfl ?_
    refine p_getR X fl_X12_13 rfl (by decide) (dcg dc_X12_readsRun 24 rfl) hk3 ?_
    refine p_aload_n X (dcg dc_X12_readsRun 25 rfl) rfl rfl ?_
    refine p_getI X fl_X12_261 rfl (by decide) (dcg dc_X12_readsRun 26 rfl) hk3 ?_
    obtain ⟨a14, e15, hf⟩ := gs_some hf
    first | subst e15 | (try rw [e15])
    obtain ⟨⟨hk17, hb16⟩, hf⟩ := gd_some hf
    refine p_iald X (dcg dc_X12_readsRun 27 rfl) hk17 (vp_of_inb hb16) ?_
    refine p_iload_n X (dcg dc_X12_readsRun 28 rfl) rfl rfl ?_
    refine p_iload_n X (dcg dc_X12_readsRun 29 rfl) rfl rfl ?_
    obtain ⟨z18, hz18, hf⟩ := bd_some hf
    refine p_callS (As := [_, _, _]) X ml_X12_148 (dcg dc_X12_readsRun 30 rfl) rfl rfl  (wX12_in hG hz18) (by decide) (room4 (Nat.le_of_ble_eq_true rfl)) (Nat.le_refl _) (Nat.le_refl _) ?_
    rintro _ u9 ⟨rfl, e9⟩; have e9 := e9.symm; subst e9
    refine p_if_eq (tgt := 136) X (dcg dc_X12_readsRun 31 rfl) (by decide) (fun q => ?_) (fun q => ?_)
    · have hf := if_t q hf
      obtain ⟨y19, hf, hy20⟩ := mr_some hf
      have hy20f := kf y19 hy20
      subst hy20f
      refine p_pick [0, 3, 4, 5] ?_
      exact wX12_readsRun_b136 X hG hnm hf 
    · have hf := if_f q hf
      refine p_iload X (dcg dc_X12_readsRun 32 rfl) rfl ?_
      refine p_iload X (dcg dc_X12_readsRun 33 rfl) rfl ?_
      refine p_icmp_ge (tgt := 120) X (dcg dc_X12_readsRun 34 rfl) (by decide) (fun q => ?_) (fun q => ?_)
      · have hf := if_t q hf
        refine p_pick [0, 1, 2, 3, 4, 5] ?_
        exact wX12_readsRun_b120 X hG hnm hf k0 kf
      · have hf := if_f q hf
        refine p_aload_n X (dcg dc_X12_readsRun 35 rfl) rfl rfl ?_
        refine p_iload_n X (dcg dc_X12_readsRun 36 rfl) rfl rfl ?_
        refine p_if_eq (tgt := 95) X (dcg dc_X12_readsRun 37 rfl) (by decide) (fun q => ?_) (fun q => ?_)
        · have hf := if_t q hf
          refine p_bipush (v := 27) X (dcg dc_X12_readsRun 51 rfl) (by decide) ?_
          refine p_aload_n X (dcg dc_X12_readsRun 52 rfl) rfl rfl ?_
          refine p_getI X fl_X12_258 rfl (by decide) (dcg dc_X12_readsRun 53 rfl) hk3 ?_
          refine p_imul X (dcg dc_X12_readsRun 54 rfl) ?_
          refine p_aload_n X (dcg dc_X12_readsRun 55 rfl) rfl rfl ?_
          refine p_getR X fl_X12_13 rfl (by decide) (dcg dc_X12_readsRun 56 rfl) hk3 ?_
          refine p_aload_n X (dcg dc_X12_readsRun 57 rfl) rfl rfl ?_
          refine p_getI X fl_X12_261 rfl (by decide) (dcg dc_X12_readsRun 58 rfl) hk3 ?_
          obtain ⟨a23, e24, hf⟩ := gs_some hf
          first | subst e24 | (try rw [e24])
          obtain ⟨⟨hk26, hb25⟩, hf⟩ := gd_some hf
          refine p_iald X (dcg dc_X12_readsRun 59 rfl) hk26 (vp_of_inb hb25) ?_
          refine p_iadd X (dcg dc_X12_readsRun 60 rfl) ?_
          refine p_bipush (v := 97) X (dcg dc_X12_readsRun 61 rfl) (by decide) ?_
          refine p_isub X (dcg dc_X12_readsRun 62 rfl) ?_
          refine p_iconst (v := 1) X (dcg dc_X12_readsRun 63 rfl) (by decide) ?_
          refine p_iadd X (dcg dc_X12_readsRun 64 rfl) ?_
          refine p_pick [0, 1, 2, 3, 4, 5] ?_
          exact wX12_readsRun_b117 X hG hnm hf k0 kf
        · have hf := if_f q hf
          refine p_bipush (v := 10) X (dcg dc_X12_readsRun 38 rfl) (by decide) ?_
          refine p_aload_n X (dcg dc_X12_readsRun 39 rfl) rfl rfl ?_
          refine p_getI X fl_X12_258 rfl (by decide) (dcg dc_X12_readsRun 40 rfl) hk3 ?_
          refine p_imul X (dcg dc_X12_readsRun 41 rfl) ?_
          refine p_aload_n X (dcg dc_X12_readsRun 42 rfl) rfl rfl ?_
          refine p_getR X fl_X12_13 rfl (by decide) (dcg dc_X12_readsRun 43 rfl) hk3 ?_
          refine p_aload_n X (dcg dc_X12_readsRun 44 rfl) rfl rfl ?_
          refine p_getI X fl_X12_261 rfl (by decide) (dcg dc_X12_readsRun 45 rfl) hk3 ?_
          obtain ⟨a31, e32, hf⟩ := gs_some hf
          first | subst e32 | (try rw [e32])
          obtain ⟨⟨hk34, hb33⟩, hf⟩ := gd_some hf
          refine p_iald X (dcg dc_X12_readsRun 46 rfl) hk34 (vp_of_inb hb33) ?_
          refine p_iadd X (dcg dc_X12_readsRun 47 rfl) ?_
          refine p_bipush (v := 48) X (dcg dc_X12_readsRun 48 rfl) (by decide) ?_
          refine p_isub X (dcg dc_X12_readsRun 49 rfl) ?_
          refine p_goto (tgt := 117) X (dcg dc_X12_readsRun 50 rfl) (by decide) ?_
          refine p_pick [0, 1, 2, 3, 4, 5] ?_
          exact wX12_readsRun_b117 X hG hnm hf k0 kf
noncomputable def fX12_readsRun_l32 (v0 : Nat) (v1 : Int32) (v2 : Int32) (v3 : Int32) (v4 : Int32) (v5 : Int32) (h : PH) : Option PH := wh (fun z : (Int32 × PH) => fX12_readsRun_c32 v0 v1 v2 v3 v4 (z.1) (z.2)) (v5, h)
set_option maxRecDepth 100000 in
theorem mX12_readsRun_l32 {v0 : Nat} {v1 : Int32} {v2 : Int32} {v3 : Int32} {v4 : Int32} {v5 : Int32} {h : PH} {r : PH} (hf : fX12_readsRun_l32 v0 v1 v2 v3 v4 v5 h = some r) : eqz h (hX r) (hV r) := by
  unfold fX12_readsRun_l32 at hf
  refine wh_ind (P := fun z => eqz (z.2) (hX r) (hV r)) (fun z x0 hs i1 i2 => ?_) _ hf
  obtain ⟨c0, cf⟩ := mX12_readsRun_c32 (v0 := v0) (v1 := v1) (v2 := v2) (v3 := v3) (v4 := v4) (v5 := z.1) (h := z.2) hs
  rcases hxx : x0 with zz | zz
  · exact eqz_tr (c0 zz hxx) (i1 zz hxx)
  · have ee := i2 zz hxx; subst ee; exact cf zz hxx
set_option maxRecDepth 100000 in
theorem wX12_readsRun_l32 {E : PE} {p : Program} {l : Launch} {e : Env} {s : State} {m : MethodId} {args : Array Value} {below : List Frame} {meth : Method} {c : Code} (X : Cx E p l e (rmv 1 0 0) s m args below meth c RX12 cX12_readsRun 6 (none)) (hG : Gs E l) (hnm : meth.name = yX12_readsRun.name) {v0 : Nat} {v1 : Int32} {v2 : Int32} {v3 : Int32} {v4 : Int32} {v5 : Int32} {h : PH} {r : PH} (hf : fX12_readsRun_l32 v0 v1 v2 v3 v4 v5 h = some r)  : PW E p l e (rmv 1 0 0) s m args below meth c 6 0 0 (MQ below (QG E (fun v u => v = none ∧ u = r)) args s 0 0 (pA E)) h 32 [(0, some (.ref v0)), (1, some (.int v1)), (2, some (.int v2)), (3, some (.int v3)), (4, some (.int v4)), (5, some (.int v5))] [] := by
  unfold fX12_readsRun_l32 at hf
  refine wh_ind (P := fun z => PW E p l e (rmv 1 0 0) s m args below meth c 6 0 0 (MQ below (QG E (fun v u => v = none ∧ u = r)) args s 0 0 (pA E)) (z.2) 32 [(0, some (.ref v0)), (1, some (.int v1)), (2, some (.int v2)), (3, some (.int v3)), (4, some (.int v4)), (5, some (.int (z.1)))] []) (fun z x0 hs i1 i2 => ?_) _ hf
  exact wX12_readsRun_c32 (r := r) (v0 := v0) (v1 := v1) (v2 := v2) (v3 := v3) (v4 := v4) (v5 := z.1) (h := z.2) X hG hnm hs i1  i2
noncomputable def fX12_readsRun_b22 (v0 : Nat) (v1 : Int32) (v2 : Int32) (v3 : Int32) (t0 : Int32) (h : PH) : Option PH :=
  gd (hK h v0 = 12) (lt (sI h 12 v0 23 (0 : Int32)) (fun h2 =>
  fX12_readsRun_l32 v0 v1 v2 v3 t0 (0 : Int32) h2))
set_option maxRecDepth 100000 in
theorem mX12_readsRun_b22 {v0 : Nat} {v1 : Int32} {v2 : Int32} {v3 : Int32} {t0 : Int32} {h : PH} {r : PH} (hf : fX12_readsRun_b22 v0 v1 v2 v3 t0 h = some r) : eqz h (hX r) (hV r) := by
  unfold fX12_readsRun_b22 at hf
  have hle := eqz_rf h
  obtain ⟨hk1, hf⟩ := gd_some hf
  obtain ⟨h2, rfl, hf⟩ := lt_some hf
  exact eqz_rt (mX12_readsRun_l32 hf) hle
set_option maxRecDepth 100000 in
theorem wX12_readsRun_b22 {E : PE} {p : Program} {l : Launch} {e : Env} {s : State} {m : MethodId} {args : Array Value} {below : List Frame} {meth : Method} {c : Code} (X : Cx E p l e (rmv 1 0 0) s m args below meth c RX12 cX12_readsRun 6 (none)) (hG : Gs E l) (hnm : meth.name = yX12_readsRun.name) {v0 : Nat} {v1 : Int32} {v2 : Int32} {v3 : Int32} {t0 : Int32} {h : PH} {r : PH} (hf : fX12_readsRun_b22 v0 v1 v2 v3 t0 h = some r)  : PW E p l e (rmv 1 0 0) s m args below meth c 6 0 0 (MQ below (QG E (fun v u => v = none ∧ u = r)) args s 0 0 (pA E)) h 22 [(0, some (.ref v0)), (1, some (.int v1)), (2, some (.int v2)), (3, some (.int v3))] [.int t0] := by
  unfold fX12_readsRun_b22 at hf
  refine p_istore X (dcg dc_X12_readsRun 12 rfl) (by decide) rfl ?_
  refine p_iconst (v := 0) X (dcg dc_X12_readsRun 13 rfl) (by decide) ?_
  refine p_istore X (dcg dc_X12_readsRun 14 rfl) (by decide) rfl ?_
  refine p_aload_n X (dcg dc_X12_readsRun 15 rfl) rfl rfl ?_
  refine p_iconst (v := 0) X (dcg dc_X12_readsRun 16 rfl) (by decide) ?_
  obtain ⟨hk1, hf⟩ := gd_some hf
  refine p_putI X fl_X12_258 rfl (by decide) (fun q hq => by cases hq; rfl) rfl rfl (dcg dc_X12_readsRun 17 rfl) hk1 ?_
  obtain ⟨h2, rfl, hf⟩ := lt_some hf
  refine p_pick [0, 1, 2, 3, 4, 5] ?_
  exact wX12_readsRun_l32 X hG hnm hf 
noncomputable def fX12_readsRun_b11 (v0 : Nat) (v1 : Int32) (v2 : Int32) (t0 : Int32) (h : PH) : Option PH :=
  if (t0 = 0) then (fX12_readsRun_b22 v0 v1 v2 t0 (6 : Int32) h) else
  fX12_readsRun_b22 v0 v1 v2 t0 (2 : Int32) h
set_option maxRecDepth 100000 in
theorem mX12_readsRun_b11 {v0 : Nat} {v1 : Int32} {v2 : Int32} {t0 : Int32} {h : PH} {r : PH} (hf : fX12_readsRun_b11 v0 v1 v2 t0 h = some r) : eqz h (hX r) (hV r) := by
  unfold fX12_readsRun_b11 at hf
  have hle := eqz_rf h
  rcases ite_or hf with ⟨q, hf⟩ | ⟨q, hf⟩
  · have hf := if_t q hf
    exact eqz_rt (mX12_readsRun_b22 hf) hle
  · have hf := if_f q hf
    exact eqz_rt (mX12_readsRun_b22 hf) hle
set_option maxRecDepth 100000 in
theorem wX12_readsRun_b11 {E : PE} {p : Program} {l : Launch} {e : Env} {s : State} {m : MethodId} {args : Array Value} {below : List Frame} {meth : Method} {c : Code} (X : Cx E p l e (rmv 1 0 0) s m args below meth c RX12 cX12_readsRun 6 (none)) (hG : Gs E l) (hnm : meth.name = yX12_readsRun.name) {v0 : Nat} {v1 : Int32} {v2 : Int32} {t0 : Int32} {h : PH} {r : PH} (hf : fX12_readsRun_b11 v0 v1 v2 t0 h = some r)  : PW E p l e (rmv 1 0 0) s m args below meth c 6 0 0 (MQ below (QG E (fun v u => v = none ∧ u = r)) args s 0 0 (pA E)) h 11 [(0, some (.ref v0)), (1, some (.int v1)), (2, some (.int v2))] [.int t0] := by
  unfold fX12_readsRun_b11 at hf
  refine p_istore_n X (dcg dc_X12_readsRun 6 rfl) rfl (by decide) rfl ?_
  refine p_iload_n X (dcg dc_X12_readsRun 7 rfl) rfl rfl ?_
  refine p_if_eq (tgt := 20) X (dcg dc_X12_readsRun 8 rfl) (by decide) (fun q => ?_) (fun q => ?_)
  · have hf := if_t q hf
    refine p_bipush (v := 6) X (dcg dc_X12_readsRun 11 rfl) (by decide) ?_
    refine p_pick [0, 1, 2, 3] ?_
    exact wX12_readsRun_b22 X hG hnm hf 
  · have hf := if_f q hf
    refine p_iconst (v := 2) X (dcg dc_X12_readsRun 9 rfl) (by decide) ?_
    refine p_goto (tgt := 22) X (dcg dc_X12_readsRun 10 rfl) (by decide) ?_
    refine p_pick [0, 1, 2, 3] ?_
    exact wX12_readsRun_b22 X hG hnm hf 
noncomputable def fX12_readsRun (v0 : Nat) (v1 : Int32) (v2 : Int32) (h : PH) : Option PH :=
  if (¬ v1 = (48 : Int32)) then (fX12_readsRun_b11 v0 v1 v2 (0 : Int32) h) else
  fX12_readsRun_b11 v0 v1 v2 (1 : Int32) h
set_option maxRecDepth 100000 in
theorem mX12_readsRun {v0 : Nat} {v1 : Int32} {v2 : Int32} {h : PH} {r : PH} (hf : fX12_readsRun v0 v1 v2 h = some r) : eqz h (hX r) (hV r) := by
  unfold fX12_readsRun at hf
  have hle := eqz_rf h
  rcases ite_or hf with ⟨q, hf⟩ | ⟨q, hf⟩
  · have hf := if_t q hf
    exact eqz_rt (mX12_readsRun_b11 hf) hle
  · have hf := if_f q hf
    exact eqz_rt (mX12_readsRun_b11 hf) hle
set_option maxRecDepth 100000 in
theorem wX12_readsRun {E : PE} {l : Launch} (hG : Gs E l) {v0 : Nat} {v1 : Int32} {v2 : Int32} {h : PH} {r : PH} (hf : fX12_readsRun v0 v1 v2 h = some r) : Ct E l 1 0 0 yX12_readsRun cX12_readsRun 6 (none) [.ref v0, .int v1, .int v2] h (fun v u => v = none ∧ u = r) := by
  refine ct_of hG (by decide) (Nat.le_of_ble_eq_true rfl) ?_
  intro p e s m args below meth c X hnm
  show PW E p l e _ s m args below meth c _ 0 0 _ h 0 [(0, some (.ref v0)), (1, some (.int v1)), (2, some (.int v2))] []
  unfold fX12_readsRun at hf
  refine p_iload_n X (dcg dc_X12_readsRun 0 rfl) rfl rfl ?_
  refine p_bipush (v := 48) X (dcg dc_X12_readsRun 1 rfl) (by decide) ?_
  refine p_icmp_ne (tgt := 10) X (dcg dc_X12_readsRun 2 rfl) (by decide) (fun q => ?_) (fun q => ?_)
  · have hf := if_t q hf
    refine p_iconst (v := 0) X (dcg dc_X12_readsRun 5 rfl) (by decide) ?_
    refine p_pick [0, 1, 2] ?_
    exact wX12_readsRun_b11 X hG hnm hf 
  · have hf := if_f q hf
    refine p_iconst (v := 1) X (dcg dc_X12_readsRun 3 rfl) (by decide) ?_
    refine p_goto (tgt := 11) X (dcg dc_X12_readsRun 4 rfl) (by decide) ?_
    refine p_pick [0, 1, 2] ?_
    exact wX12_readsRun_b11 X hG hnm hf 
theorem dc_X12_reads : decs cX12_reads [(0, .aload_n 0, 1), (1, .getfield 261, 3), (4, .aload_n 0, 1), (5, .getfield 163, 3), (8, .if_icmp .ge 44, 3), (11, .aload_n 0, 1), (12, .getfield 13, 3), (15, .aload_n 0, 1), (16, .getfield 261, 3), (19, .iaload, 1), (20, .bipush 32, 2), (22, .if_icmp .eq 17, 3), (25, .aload_n 0, 1), (26, .getfield 13, 3), (29, .aload_n 0, 1), (30, .getfield 261, 3), (33, .iaload, 1), (34, .bipush 10, 2), (36, .if_icmp .ne 16, 3), (39, .aload_n 0, 1), (40, .dup, 1), (41, .getfield 261, 3), (44, .iconst 1, 1), (45, .iadd, 1), (46, .putfield 261, 3), (49, .goto (-49), 3), (52, .aload_n 0, 1), (53, .aload_n 0, 1), (54, .getfield 261, 3), (57, .putfield 267, 3), (60, .aload_n 0, 1), (61, .iconst 0, 1), (62, .putfield 264, 3), (65, .aload_n 0, 1), (66, .getfield 261, 3), (69, .aload_n 0, 1), (70, .getfield 163, 3), (73, .if_icmp .ne 4, 3), (76, .return_, 1), (77, .aload_n 0, 1), (78, .getfield 13, 3), (81, .aload_n 0, 1), (82, .getfield 261, 3), (85, .iaload, 1), (86, .bipush 97, 2), (88, .bipush 122, 2), (90, .invokestatic 148, 3), (93, .ifCond .eq 14, 3), (96, .aload_n 0, 1), (97, .bipush 97, 2), (99, .bipush 122, 2), (101, .invokevirtual 270, 3), (104, .goto 75, 3), (107, .aload_n 0, 1), (108, .getfield 13, 3), (111, .aload_n 0, 1), (112, .getfield 261, 3), (115, .iaload, 1), (116, .bipush 48, 2), (118, .bipush 57, 2), (120, .invokestatic 148, 3), (123, .ifCond .eq 14, 3), (126, .aload_n 0, 1), (127, .bipush 48, 2), (129, .bipush 57, 2), (131, .invokevirtual 270, 3), (134, .goto 45, 3), (137, .aload_n 0, 1), (138, .aload_n 0, 1), (139, .getfield 13, 3), (142, .aload_n 0, 1), (143, .getfield 261, 3), (146, .iaload, 1), (147, .putfield 258, 3), (150, .aload_n 0, 1), (151, .aload_n 0, 1), (152, .getfield 258, 3), (155, .invokestatic 274, 3), (158, .ifCond .eq 7, 3), (161, .iconst 1, 1), (162, .goto 4, 3), (165, .iconst 4, 1), (166, .putfield 264, 3), (169, .aload_n 0, 1), (170, .dup, 1), (171, .getfield 261, 3), (174, .iconst 1, 1), (175, .iadd, 1), (176, .putfield 261, 3), (179, .return_, 1)] = true := by decide +kernel
noncomputable def fX12_reads_b179  (h : PH) : Option PH :=
  some (h)
set_option maxRecDepth 100000 in
theorem mX12_reads_b179  {h : PH} {r : PH} (hf : fX12_reads_b179  h = some r) : eqz h (hX r) (hV r) := by
  unfold fX12_reads_b179 at hf
  have hle := eqz_rf h
  have ee := Option.some.inj hf; subst ee; exact hle
set_option maxRecDepth 100000 in
theorem wX12_reads_b179 {E : PE} {p : Program} {l : Launch} {e : Env} {s : State} {m : MethodId} {args : Array Value} {below : List Frame} {meth : Method} {c : Code} (X : Cx E p l e (rmv 2 0 0) s m args below meth c RX12 cX12_reads 1 (none)) (hG : Gs E l) (hnm : meth.name = yX12_reads.name)  {h : PH} {r : PH} (hf : fX12_reads_b179  h = some r)  : PW E p l e (rmv 2 0 0) s m args below meth c 1 0 0 (MQ below (QG E (fun v u => v = none ∧ u = r)) args s 0 0 (pA E)) h 179 [] [] := by
  unfold fX12_reads_b179 at hf
  have er := Option.some.inj hf
  subst er
  exact p_vret X rfl (dcg dc_X12_reads 89 rfl) ⟨rfl, rfl⟩ (Nat.le_refl _) (Nat.le_refl _)
noncomputable def fX12_reads_b166 (v0 : Nat) (t0 : Option Nat) (t1 : Int32) (h : PH) : Option PH :=
  gs t0 (fun a21 =>
  gd (hK h a21 = 12) (lt (sI h 12 a21 21 t1) (fun h24 =>
  gd (hK h24 v0 = 12) (lt (sI h24 12 v0 24 ((hI h24 12 v0 24) + (1 : Int32))) (fun h26 =>
  fX12_reads_b179  h26)))))
set_option maxRecDepth 100000 in
theorem mX12_reads_b166 {v0 : Nat} {t0 : Option Nat} {t1 : Int32} {h : PH} {r : PH} (hf : fX12_reads_b166 v0 t0 t1 h = some r) : eqz h (hX r) (hV r) := by
  unfold fX12_reads_b166 at hf
  have hle := eqz_rf h
  obtain ⟨a21, e22, hf⟩ := gs_some hf
  obtain ⟨hk23, hf⟩ := gd_some hf
  obtain ⟨h24, rfl, hf⟩ := lt_some hf
  obtain ⟨hk25, hf⟩ := gd_some hf
  obtain ⟨h26, rfl, hf⟩ := lt_some hf
  exact eqz_rt (mX12_reads_b179 hf) hle
set_option maxRecDepth 100000 in
theorem wX12_reads_b166 {E : PE} {p : Program} {l : Launch} {e : Env} {s : State} {m : MethodId} {args : Array Value} {below : List Frame} {meth : Method} {c : Code} (X : Cx E p l e (rmv 2 0 0) s m args below meth c RX12 cX12_reads 1 (none)) (hG : Gs E l) (hnm : meth.name = yX12_reads.name) {v0 : Nat} {t0 : Option Nat} {t1 : Int32} {h : PH} {r : PH} (hf : fX12_reads_b166 v0 t0 t1 h = some r)  : PW E p l e (rmv 2 0 0) s m args below meth c 1 0 0 (MQ below (QG E (fun v u => v = none ∧ u = r)) args s 0 0 (pA E)) h 166 [(0, some (.ref v0))] [.int t1, va_rf t0] := by
  unfold fX12_reads_b166 at hf
  obtain ⟨a21, e22, hf⟩ := gs_some hf
  first | subst e22 | (try rw [e22])
  obtain ⟨hk23, hf⟩ := gd_some hf
  refine p_putI X fl_X12_264 rfl (by decide) (fun q hq => by cases hq; rfl) rfl rfl (dcg dc_X12_reads 82 rfl) hk23 ?_
  obtain ⟨h24, rfl, hf⟩ := lt_some hf
  refine p_aload_n X (dcg dc_X12_reads 83 rfl) rfl rfl ?_
  refine p_dup X (dcg dc_X12_reads 84 rfl) rfl ?_
  obtain ⟨hk25, hf⟩ := gd_some hf
  refine p_getI X fl_X12_261 rfl (by decide) (dcg dc_X12_reads 85 rfl) hk25 ?_
  refine p_iconst (v := 1) X (dcg dc_X12_reads 86 rfl) (by decide) ?_
  refine p_iadd X (dcg dc_X12_reads 87 rfl) ?_
  refine p_putI X fl_X12_261 rfl (by decide) (fun q hq => by cases hq; rfl) rfl rfl (dcg dc_X12_reads 88 rfl) hk25 ?_
  obtain ⟨h26, rfl, hf⟩ := lt_some hf
  refine p_pick [] ?_
  exact wX12_reads_b179 X hG hnm hf 
noncomputable def fX12_reads_b52 (v0 : Nat) (h : PH) : Option PH :=
  gd (hK h v0 = 12) (lt (sI h 12 v0 22 (hI h 12 v0 24)) (fun h3 =>
  lt (sI h3 12 v0 21 (0 : Int32)) (fun h4 =>
  if (¬ (hI h4 12 v0 24) = (hI h4 12 v0 2)) then (gs (hR h4 12 v0 1) (fun a5 =>
  gd (hK h4 a5 = 20 ∧ inb (hI h4 12 v0 24) (hN h4 a5)) (bd (fX12_in (hI h4 20 a5 (Int32.toNatClampNeg (hI h4 12 v0 24))) (97 : Int32) (122 : Int32)) (fun z9 =>
  if (z9 = 0) then (gs (hR h4 12 v0 1) (fun a10 =>
  gd (hK h4 a10 = 20 ∧ inb (hI h4 12 v0 24) (hN h4 a10)) (bd (fX12_in (hI h4 20 a10 (Int32.toNatClampNeg (hI h4 12 v0 24))) (48 : Int32) (57 : Int32)) (fun z14 =>
  if (z14 = 0) then (gs (hR h4 12 v0 1) (fun a15 =>
  gd (hK h4 a15 = 20 ∧ inb (hI h4 12 v0 24) (hN h4 a15)) (lt (sI h4 12 v0 23 (hI h4 20 a15 (Int32.toNatClampNeg (hI h4 12 v0 24)))) (fun h19 =>
  bd (fX12_isSign (hI h19 12 v0 23)) (fun z20 =>
  if (z20 = 0) then (fX12_reads_b166 v0 (some v0) (4 : Int32) h19) else
  fX12_reads_b166 v0 (some v0) (1 : Int32) h19))))) else
  bd (fX12_readsRun v0 (48 : Int32) (57 : Int32) h4) (fun z27 =>
  fX12_reads_b179  z27))))) else
  bd (fX12_readsRun v0 (97 : Int32) (122 : Int32) h4) (fun z28 =>
  fX12_reads_b179  z28))))) else
  some (h4))))
set_option maxRecDepth 100000 in
theorem mX12_reads_b52 {v0 : Nat} {h : PH} {r : PH} (hf : fX12_reads_b52 v0 h = some r) : eqz h (hX r) (hV r) := by
  unfold fX12_reads_b52 at hf
  have hle := eqz_rf h
  obtain ⟨hk2, hf⟩ := gd_some hf
  obtain ⟨h3, rfl, hf⟩ := lt_some hf
  obtain ⟨h4, rfl, hf⟩ := lt_some hf
  rcases ite_or hf with ⟨q, hf⟩ | ⟨q, hf⟩
  · have hf := if_t q hf
    obtain ⟨a5, e6, hf⟩ := gs_some hf
    obtain ⟨⟨hk8, hb7⟩, hf⟩ := gd_some hf
    obtain ⟨z9, hz9, hf⟩ := bd_some hf
    rcases ite_or hf with ⟨q, hf⟩ | ⟨q, hf⟩
    · have hf := if_t q hf
      obtain ⟨a10, e11, hf⟩ := gs_some hf
      obtain ⟨⟨hk13, hb12⟩, hf⟩ := gd_some hf
      obtain ⟨z14, hz14, hf⟩ := bd_some hf
      rcases ite_or hf with ⟨q, hf⟩ | ⟨q, hf⟩
      · have hf := if_t q hf
        obtain ⟨a15, e16, hf⟩ := gs_some hf
        obtain ⟨⟨hk18, hb17⟩, hf⟩ := gd_some hf
        obtain ⟨h19, rfl, hf⟩ := lt_some hf
        obtain ⟨z20, hz20, hf⟩ := bd_some hf
        rcases ite_or hf with ⟨q, hf⟩ | ⟨q, hf⟩
        · have hf := if_t q hf
          exact eqz_rt (mX12_reads_b166 hf) hle
        · have hf := if_f q hf
          exact eqz_rt (mX12_reads_b166 hf) hle
      · have hf := if_f q hf
        obtain ⟨z27, hz27, hf⟩ := bd_some hf
        have hle := eqz_rt (mX12_readsRun hz27) hle
        exact eqz_rt (mX12_reads_b179 hf) hle
    · have hf := if_f q hf
      obtain ⟨z28, hz28, hf⟩ := bd_some hf
      have hle := eqz_rt (mX12_readsRun hz28) hle
      exact eqz_rt (mX12_reads_b179 hf) hle
  · have hf := if_f q hf
    have ee := Option.some.inj hf; subst ee; exact hle
set_option maxRecDepth 100000 in
theorem wX12_reads_b52 {E : PE} {p : Program} {l : Launch} {e : Env} {s : State} {m : MethodId} {args : Array Value} {below : List Frame} {meth : Method} {c : Code} (X : Cx E p l e (rmv 2 0 0) s m args below meth c RX12 cX12_reads 1 (none)) (hG : Gs E l) (hnm : meth.name = yX12_reads.name) {v0 : Nat} {h : PH} {r : PH} (hf : fX12_reads_b52 v0 h = some r)  : PW E p l e (rmv 2 0 0) s m args below meth c 1 0 0 (MQ below (QG E (fun v u => v = none ∧ u = r)) args s 0 0 (pA E)) h 52 [(0, some (.ref v0))] [] := by
  unfold fX12_reads_b52 at hf
  refine p_aload_n X (dcg dc_X12_reads 26 rfl) rfl rfl ?_
  refine p_aload_n X (dcg dc_X12_reads 27 rfl) rfl rfl ?_
  obtain ⟨hk2, hf⟩ := gd_some hf
  refine p_getI X fl_X12_261 rfl (by decide) (dcg dc_X12_reads 28 rfl) hk2 ?_
  refine p_putI X fl_X12_267 rfl (by decide) (fun q hq => by cases hq; rfl) rfl rfl (dcg dc_X12_reads 29 rfl) hk2 ?_
  obtain ⟨h3, rfl, hf⟩ := lt_some hf
  refine p_aload_n X (dcg dc_X12_reads 30 rfl) rfl rfl ?_
  refine p_iconst (v := 0) X (dcg dc_X12_reads 31 rfl) (by decide) ?_
  refine p_putI X fl_X12_264 rfl (by decide) (fun q hq => by cases hq; rfl) rfl rfl (dcg dc_X12_reads 32 rfl) hk2 ?_
  obtain ⟨h4, rfl, hf⟩ := lt_some hf
  refine p_aload_n X (dcg dc_X12_reads 33 rfl) rfl rfl ?_
  refine p_getI X fl_X12_261 rfl (by decide) (dcg dc_X12_reads 34 rfl) hk2 ?_
  refine p_aload_n X (dcg dc_X12_reads 35 rfl) rfl rfl ?_
  refine p_getI X fl_X12_163 rfl (by decide) (dcg dc_X12_reads 36 rfl) hk2 ?_
  refine p_icmp_ne (tgt := 77) X (dcg dc_X12_reads 37 rfl) (by decide) (fun q => ?_) (fun q => ?_)
  · have hf := if_t q hf
    refine p_aload_n X (dcg dc_X12_reads 39 rfl) rfl rfl ?_
    refine p_getR X fl_X12_13 rfl (by decide) (dcg dc_X12_reads 40 rfl) hk2 ?_
    refine p_aload_n X (dcg dc_X12_reads 41 rfl) rfl rfl ?_
    refine p_getI X fl_X12_261 rfl (by decide) (dcg dc_X12_reads 42 rfl) hk2 ?_
    obtain ⟨a5, e6, hf⟩ := gs_some hf
    first | subst e6 | (try rw [e6])
    obtain ⟨⟨hk8, hb7⟩, hf⟩ := gd_some hf
    refine p_iald X (dcg dc_X12_reads 43 rfl) hk8 (vp_of_inb hb7) ?_
    refine p_bipush (v := 97) X (dcg dc_X12_reads 44 rfl) (by decide) ?_
    refine p_bipush (v := 122) X (dcg dc_X12_reads 45 rfl) (by decide) ?_
    obtain ⟨z9, hz9, hf⟩ := bd_some hf
    refine p_callS (As := [_, _, _]) X ml_X12_148 (dcg dc_X12_reads 46 rfl) rfl rfl  (wX12_in hG hz9) (by decide) (room4 (Nat.le_of_ble_eq_true rfl)) (Nat.le_refl _) (Nat.le_refl _) ?_
    rintro _ u9 ⟨rfl, e9⟩; have e9 := e9.symm; subst e9
    refine p_if_eq (tgt := 107) X (dcg dc_X12_reads 47 rfl) (by decide) (fun q => ?_) (fun q => ?_)
    · have hf := if_t q hf
      refine p_aload_n X (dcg dc_X12_reads 53 rfl) rfl rfl ?_
      refine p_getR X fl_X12_13 rfl (by decide) (dcg dc_X12_reads 54 rfl) hk2 ?_
      refine p_aload_n X (dcg dc_X12_reads 55 rfl) rfl rfl ?_
      refine p_getI X fl_X12_261 rfl (by decide) (dcg dc_X12_reads 56 rfl) hk2 ?_
      obtain ⟨a10, e11, hf⟩ := gs_some hf
      first | subst e11 | (try rw [e11])
      obtain ⟨⟨hk13, hb12⟩, hf⟩ := gd_some hf
      refine p_iald X (dcg dc_X12_reads 57 rfl) hk13 (vp_of_inb hb12) ?_
      refine p_bipush (v := 48) X (dcg dc_X12_reads 58 rfl) (by decide) ?_
      refine p_bipush (v := 57) X (dcg dc_X12_reads 59 rfl) (by decide) ?_
      obtain ⟨z14, hz14, hf⟩ := bd_some hf
      refine p_callS (As := [_, _, _]) X ml_X12_148 (dcg dc_X12_reads 60 rfl) rfl rfl  (wX12_in hG hz14) (by decide) (room4 (Nat.le_of_ble_eq_true rfl)) (Nat.le_refl _) (Nat.le_refl _) ?_
      rintro _ u9 ⟨rfl, e9⟩; have e9 := e9.symm; subst e9
      refine p_if_eq (tgt := 137) X (dcg dc_X12_reads 61 rfl) (by decide) (fun q => ?_) (fun q => ?_)
      · have hf := if_t q hf
        refine p_aload_n X (dcg dc_X12_reads 67 rfl) rfl rfl ?_
        refine p_aload_n X (dcg dc_X12_reads 68 rfl) rfl rfl ?_
        refine p_getR X fl_X12_13 rfl (by decide) (dcg dc_X12_reads 69 rfl) hk2 ?_
        refine p_aload_n X (dcg dc_X12_reads 70 rfl) rfl rfl ?_
        refine p_getI X fl_X12_261 rfl (by decide) (dcg dc_X12_reads 71 rfl) hk2 ?_
        obtain ⟨a15, e16, hf⟩ := gs_some hf
        first | subst e16 | (try rw [e16])
        obtain ⟨⟨hk18, hb17⟩, hf⟩ := gd_some hf
        refine p_iald X (dcg dc_X12_reads 72 rfl) hk18 (vp_of_inb hb17) ?_
        refine p_putI X fl_X12_258 rfl (by decide) (fun q hq => by cases hq; rfl) rfl rfl (dcg dc_X12_reads 73 rfl) hk2 ?_
        obtain ⟨h19, rfl, hf⟩ := lt_some hf
        refine p_aload_n X (dcg dc_X12_reads 74 rfl) rfl rfl ?_
        refine p_aload_n X (dcg dc_X12_reads 75 rfl) rfl rfl ?_
        refine p_getI X fl_X12_258 rfl (by decide) (dcg dc_X12_reads 76 rfl) hk2 ?_
        obtain ⟨z20, hz20, hf⟩ := bd_some hf
        refine p_callS (As := [_]) X ml_X12_274 (dcg dc_X12_reads 77 rfl) rfl rfl  (wX12_isSign hG hz20) (by decide) (room4 (Nat.le_of_ble_eq_true rfl)) (Nat.le_refl _) (Nat.le_refl _) ?_
        rintro _ u9 ⟨rfl, e9⟩; have e9 := e9.symm; subst e9
        refine p_if_eq (tgt := 165) X (dcg dc_X12_reads 78 rfl) (by decide) (fun q => ?_) (fun q => ?_)
        · have hf := if_t q hf
          refine p_iconst (v := 4) X (dcg dc_X12_reads 81 rfl) (by decide) ?_
          refine p_pick [0] ?_
          exact wX12_reads_b166 X hG hnm hf 
        · have hf := if_f q hf
          refine p_iconst (v := 1) X (dcg dc_X12_reads 79 rfl) (by decide) ?_
          refine p_goto (tgt := 166) X (dcg dc_X12_reads 80 rfl) (by decide) ?_
          refine p_pick [0] ?_
          exact wX12_reads_b166 X hG hnm hf 
      · have hf := if_f q hf
        refine p_aload_n X (dcg dc_X12_reads 62 rfl) rfl rfl ?_
        refine p_bipush (v := 48) X (dcg dc_X12_reads 63 rfl) (by decide) ?_
        refine p_bipush (v := 57) X (dcg dc_X12_reads 64 rfl) (by decide) ?_
        obtain ⟨z27, hz27, hf⟩ := bd_some hf
        refine p_callV (As := [_, _]) X ml_X12_270 (dcg dc_X12_reads 65 rfl) rfl rfl hk2 (wX12_readsRun hG hz27) (by decide) (room4 (Nat.le_of_ble_eq_true rfl)) (Nat.le_refl _) (Nat.le_refl _) ?_
        rintro _ u9 ⟨rfl, e9⟩; have e9 := e9.symm; subst e9
        refine p_goto (tgt := 179) X (dcg dc_X12_reads 66 rfl) (by decide) ?_
        refine p_pick [] ?_
        exact wX12_reads_b179 X hG hnm hf 
    · have hf := if_f q hf
      refine p_aload_n X (dcg dc_X12_reads 48 rfl) rfl rfl ?_
      refine p_bipush (v := 97) X (dcg dc_X12_reads 49 rfl) (by decide) ?_
      refine p_bipush (v := 122) X (dcg dc_X12_reads 50 rfl) (by decide) ?_
      obtain ⟨z28, hz28, hf⟩ := bd_some hf
      refine p_callV (As := [_, _]) X ml_X12_270 (dcg dc_X12_reads 51 rfl) rfl rfl hk2 (wX12_readsRun hG hz28) (by decide) (room4 (Nat.le_of_ble_eq_true rfl)) (Nat.le_refl _) (Nat.le_refl _) ?_
      rintro _ u9 ⟨rfl, e9⟩; have e9 := e9.symm; subst e9
      refine p_goto (tgt := 179) X (dcg dc_X12_reads 52 rfl) (by decide) ?_
      refine p_pick [] ?_
      exact wX12_reads_b179 X hG hnm hf 
  · have hf := if_f q hf
    have er := Option.some.inj hf
    subst er
    exact p_vret X rfl (dcg dc_X12_reads 38 rfl) ⟨rfl, rfl⟩ (Nat.le_refl _) (Nat.le_refl _)
noncomputable def fX12_reads_b39 (v0 : Nat) (h : PH) : Option ((PH) ⊕ PH) :=
  gd (hK h v0 = 12) (lt (sI h 12 v0 24 ((hI h 12 v0 24) + (1 : Int32))) (fun h36 =>
  some (.inl (h36))))
set_option maxRecDepth 100000 in
theorem mX12_reads_b39 {v0 : Nat} {h : PH} {x : ((PH) ⊕ PH)} (hf : fX12_reads_b39 v0 h = some x) : (∀ w9 : (PH), x = .inl w9 → eqz h (hX (w9)) (hV (w9))) ∧ (∀ w9 : PH, x = .inr w9 → eqz h (hX w9) (hV w9)) := by
  unfold fX12_reads_b39 at hf
  have hle := eqz_rf h
  obtain ⟨hk35, hf⟩ := gd_some hf
  obtain ⟨h36, rfl, hf⟩ := lt_some hf
  have ee := Option.some.inj hf; subst ee
  exact ⟨(fun z e => by have ee := Sum.inl.inj (e); subst ee; exact hle), (fun z e => nomatch e)⟩
set_option maxRecDepth 100000 in
theorem wX12_reads_b39 {E : PE} {p : Program} {l : Launch} {e : Env} {s : State} {m : MethodId} {args : Array Value} {below : List Frame} {meth : Method} {c : Code} (X : Cx E p l e (rmv 2 0 0) s m args below meth c RX12 cX12_reads 1 (none)) (hG : Gs E l) (hnm : meth.name = yX12_reads.name) {v0 : Nat} {h : PH} {r : PH} {x : ((PH) ⊕ PH)} (hf : fX12_reads_b39 v0 h = some x) (k0 : ∀ z : (PH), x = .inl z → PW E p l e (rmv 2 0 0) s m args below meth c 1 0 0 (MQ below (QG E (fun v u => v = none ∧ u = r)) args s 0 0 (pA E)) (z) 0 [(0, some (.ref v0))] []) (kf : ∀ z : PH, x = .inr z → z = r) : PW E p l e (rmv 2 0 0) s m args below meth c 1 0 0 (MQ below (QG E (fun v u => v = none ∧ u = r)) args s 0 0 (pA E)) h 39 [(0, some (.ref v0))] [] := by
  unfold fX12_reads_b39 at hf
  refine p_aload_n X (dcg dc_X12_reads 19 rfl) rfl rfl ?_
  refine p_dup X (dcg dc_X12_reads 20 rfl) rfl ?_
  obtain ⟨hk35, hf⟩ := gd_some hf
  refine p_getI X fl_X12_261 rfl (by decide) (dcg dc_X12_reads 21 rfl) hk35 ?_
  refine p_iconst (v := 1) X (dcg dc_X12_reads 22 rfl) (by decide) ?_
  refine p_iadd X (dcg dc_X12_reads 23 rfl) ?_
  refine p_putI X fl_X12_261 rfl (by decide) (fun q hq => by cases hq; rfl) rfl rfl (dcg dc_X12_reads 24 rfl) hk35 ?_
  obtain ⟨h36, rfl, hf⟩ := lt_some hf
  refine p_goto (tgt := 0) X (dcg dc_X12_reads 25 rfl) (by decide) ?_
  refine p_pick [0] ?_
  exact k0 _ (Option.some.inj hf).symm
noncomputable def fX12_reads_c0 (v0 : Nat) (h : PH) : Option ((PH) ⊕ PH) :=
  gd (hK h v0 = 12) (if ((hI h 12 v0 2) ≤ (hI h 12 v0 24)) then (mr (fX12_reads_b52 v0 h)) else
  gs (hR h 12 v0 1) (fun a31 =>
  gd (hK h a31 = 20 ∧ inb (hI h 12 v0 24) (hN h a31)) (if ((hI h 20 a31 (Int32.toNatClampNeg (hI h 12 v0 24))) = (32 : Int32)) then (fX12_reads_b39 v0 h) else
  gs (hR h 12 v0 1) (fun a37 =>
  gd (hK h a37 = 20 ∧ inb (hI h 12 v0 24) (hN h a37)) (if (¬ (hI h 20 a37 (Int32.toNatClampNeg (hI h 12 v0 24))) = (10 : Int32)) then (mr (fX12_reads_b52 v0 h)) else
  fX12_reads_b39 v0 h)))))
set_option maxRecDepth 100000 in
theorem mX12_reads_c0 {v0 : Nat} {h : PH} {x : ((PH) ⊕ PH)} (hf : fX12_reads_c0 v0 h = some x) : (∀ w9 : (PH), x = .inl w9 → eqz h (hX (w9)) (hV (w9))) ∧ (∀ w9 : PH, x = .inr w9 → eqz h (hX w9) (hV w9)) := by
  unfold fX12_reads_c0 at hf
  have hle := eqz_rf h
  obtain ⟨hk1, hf⟩ := gd_some hf
  rcases ite_or hf with ⟨q, hf⟩ | ⟨q, hf⟩
  · have hf := if_t q hf
    obtain ⟨y29, hfm, rfl⟩ := mr_some hf; have hf := hfm; clear hfm
    have cf := mX12_reads_b52 hf
    exact ⟨(fun z e => nomatch e), (fun z e => by cases e <;> exact eqz_rt cf hle)⟩
  · have hf := if_f q hf
    obtain ⟨a31, e32, hf⟩ := gs_some hf
    obtain ⟨⟨hk34, hb33⟩, hf⟩ := gd_some hf
    rcases ite_or hf with ⟨q, hf⟩ | ⟨q, hf⟩
    · have hf := if_t q hf
      obtain ⟨c0, cf⟩ := mX12_reads_b39 hf
      exact ⟨fun z e => eqz_rt (c0 z (e)) hle, fun z e => eqz_rt (cf z (e)) hle⟩
    · have hf := if_f q hf
      obtain ⟨a37, e38, hf⟩ := gs_some hf
      obtain ⟨⟨hk40, hb39⟩, hf⟩ := gd_some hf
      rcases ite_or hf with ⟨q, hf⟩ | ⟨q, hf⟩
      · have hf := if_t q hf
        obtain ⟨y41, hfm, rfl⟩ := mr_some hf; have hf := hfm; clear hfm
        have cf := mX12_reads_b52 hf
        exact ⟨(fun z e => nomatch e), (fun z e => by cases e <;> exact eqz_rt cf hle)⟩
      · have hf := if_f q hf
        obtain ⟨c0, cf⟩ := mX12_reads_b39 hf
        exact ⟨fun z e => eqz_rt (c0 z (e)) hle, fun z e => eqz_rt (cf z (e)) hle⟩
set_option maxRecDepth 100000 in
theorem wX12_reads_c0 {E : PE} {p : Program} {l : Launch} {e : Env} {s : State} {m : MethodId} {args : Array Value} {below : List Frame} {meth : Method} {c : Code} (X : Cx E p l e (rmv 2 0 0) s m args below meth c RX12 cX12_reads 1 (none)) (hG : Gs E l) (hnm : meth.name = yX12_reads.name) {v0 : Nat} {h : PH} {r : PH} {x : ((PH) ⊕ PH)} (hf : fX12_reads_c0 v0 h = some x) (k0 : ∀ z : (PH), x = .inl z → PW E p l e (rmv 2 0 0) s m args below meth c 1 0 0 (MQ below (QG E (fun v u => v = none ∧ u = r)) args s 0 0 (pA E)) (z) 0 [(0, some (.ref v0))] []) (kf : ∀ z : PH, x = .inr z → z = r) : PW E p l e (rmv 2 0 0) s m args below meth c 1 0 0 (MQ below (QG E (fun v u => v = none ∧ u = r)) args s 0 0 (pA E)) h 0 [(0, some (.ref v0))] [] := by
  unfold fX12_reads_c0 at hf
  refine p_aload_n X (dcg dc_X12_reads 0 rfl) rfl rfl ?_
  obtain ⟨hk1, hf⟩ := gd_some hf
  refine p_getI X fl_X12_261 rfl (by decide) (dcg dc_X12_reads 1 rfl) hk1 ?_
  refine p_aload_n X (dcg dc_X12_reads 2 rfl) rfl rfl ?_
  refine p_getI X fl_X12_163 rfl (by decide) (dcg dc_X12_reads 3 rfl) hk1 ?_
  refine p_icmp_ge (tgt := 52) X (dcg dc_X12_reads 4 rfl) (by decide) (fun q => ?_) (fun q => ?_)
  · have hf := if_t q hf
    obtain ⟨y29, hf, hy30⟩ := mr_some hf
    have hy30f := kf y29 hy30
    subst hy30f
    refine p_pick [0] ?_
    exact wX12_reads_b52 X hG hnm hf 
  · have hf := if_f q hf
    refine p_aload_n X (dcg dc_X12_reads 5 rfl) rfl rfl ?_
    refine p_getR X fl_X12_13 rfl (by decide) (dcg dc_X12_reads 6 rfl) hk1 ?_
    refine p_aload_n X (dcg dc_X12_reads 7 rfl) rfl rfl ?_
    refine p_getI X fl_X12_261 rfl (by decide) (dcg dc_X12_reads 8 rfl) hk1 ?_
    obtain ⟨a31, e32, hf⟩ := gs_some hf
    first | subst e32 | (try rw [e32])
    obtain ⟨⟨hk34, hb33⟩, hf⟩ := gd_some hf
    refine p_iald X (dcg dc_X12_reads 9 rfl) hk34 (vp_of_inb hb33) ?_
    refine p_bipush (v := 32) X (dcg dc_X12_reads 10 rfl) (by decide) ?_
    refine p_icmp_eq (tgt := 39) X (dcg dc_X12_reads 11 rfl) (by decide) (fun q => ?_) (fun q => ?_)
    · have hf := if_t q hf
      refine p_pick [0] ?_
      exact wX12_reads_b39 X hG hnm hf k0 kf
    · have hf := if_f q hf
      refine p_aload_n X (dcg dc_X12_reads 12 rfl) rfl rfl ?_
      refine p_getR X fl_X12_13 rfl (by decide) (dcg dc_X12_reads 13 rfl) hk1 ?_
      refine p_aload_n X (dcg dc_X12_reads 14 rfl) rfl rfl ?_
      refine p_getI X fl_X12_261 rfl (by decide) (dcg dc_X12_reads 15 rfl) hk1 ?_
      obtain ⟨a37, e38, hf⟩ := gs_some hf
      first | subst e38 | (try rw [e38])
      obtain ⟨⟨hk40, hb39⟩, hf⟩ := gd_some hf
      refine p_iald X (dcg dc_X12_reads 16 rfl) hk40 (vp_of_inb hb39) ?_
      refine p_bipush (v := 10) X (dcg dc_X12_reads 17 rfl) (by decide) ?_
      refine p_icmp_ne (tgt := 52) X (dcg dc_X12_reads 18 rfl) (by decide) (fun q => ?_) (fun q => ?_)
      · have hf := if_t q hf
        obtain ⟨y41, hf, hy42⟩ := mr_some hf
        have hy42f := kf y41 hy42
        subst hy42f
        refine p_pick [0] ?_
        exact wX12_reads_b52 X hG hnm hf 
      · have hf := if_f q hf
        refine p_pick [0] ?_
        exact wX12_reads_b39 X hG hnm hf k0 kf
noncomputable def fX12_reads_l0 (v0 : Nat) (h : PH) : Option PH := wh (fun z : (PH) => fX12_reads_c0 v0 (z)) (h)
set_option maxRecDepth 100000 in
theorem mX12_reads_l0 {v0 : Nat} {h : PH} {r : PH} (hf : fX12_reads_l0 v0 h = some r) : eqz h (hX r) (hV r) := by
  unfold fX12_reads_l0 at hf
  refine wh_ind (P := fun z => eqz (z) (hX r) (hV r)) (fun z x0 hs i1 i2 => ?_) _ hf
  obtain ⟨c0, cf⟩ := mX12_reads_c0 (v0 := v0) (h := z) hs
  rcases hxx : x0 with zz | zz
  · exact eqz_tr (c0 zz hxx) (i1 zz hxx)
  · have ee := i2 zz hxx; subst ee; exact cf zz hxx
set_option maxRecDepth 100000 in
theorem wX12_reads_l0 {E : PE} {p : Program} {l : Launch} {e : Env} {s : State} {m : MethodId} {args : Array Value} {below : List Frame} {meth : Method} {c : Code} (X : Cx E p l e (rmv 2 0 0) s m args below meth c RX12 cX12_reads 1 (none)) (hG : Gs E l) (hnm : meth.name = yX12_reads.name) {v0 : Nat} {h : PH} {r : PH} (hf : fX12_reads_l0 v0 h = some r)  : PW E p l e (rmv 2 0 0) s m args below meth c 1 0 0 (MQ below (QG E (fun v u => v = none ∧ u = r)) args s 0 0 (pA E)) h 0 [(0, some (.ref v0))] [] := by
  unfold fX12_reads_l0 at hf
  refine wh_ind (P := fun z => PW E p l e (rmv 2 0 0) s m args below meth c 1 0 0 (MQ below (QG E (fun v u => v = none ∧ u = r)) args s 0 0 (pA E)) (z) 0 [(0, some (.ref v0))] []) (fun z x0 hs i1 i2 => ?_) _ hf
  exact wX12_reads_c0 (r := r) (v0 := v0) (h := z) X hG hnm hs i1  i2
noncomputable def fX12_reads (v0 : Nat) (h : PH) : Option PH :=
  fX12_reads_l0 v0 h
set_option maxRecDepth 100000 in
theorem mX12_reads {v0 : Nat} {h : PH} {r : PH} (hf : fX12_reads v0 h = some r) : eqz h (hX r) (hV r) := by
  unfold fX12_reads at hf
  have hle := eqz_rf h
  exact eqz_rt (mX12_reads_l0 hf) hle
set_option maxRecDepth 100000 in
theorem wX12_reads {E : PE} {l : Launch} (hG : Gs E l) {v0 : Nat} {h : PH} {r : PH} (hf : fX12_reads v0 h = some r) : Ct E l 2 0 0 yX12_reads cX12_reads 1 (none) [.ref v0] h (fun v u => v = none ∧ u = r) := by
  refine ct_of hG (by decide) (Nat.le_of_ble_eq_true rfl) ?_
  intro p e s m args below meth c X hnm
  show PW E p l e _ s m args below meth c _ 0 0 _ h 0 [(0, some (.ref v0))] []
  unfold fX12_reads at hf
  refine p_pick [0] ?_
  exact wX12_reads_l0 X hG hnm hf
