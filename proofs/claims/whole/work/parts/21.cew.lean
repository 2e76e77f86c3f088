/-! methods of the program (by program: wip/whole/gen2.py) -/
theorem dc_X3_neighbourOf : decs cX3_neighbourOf [(0, .iload_n 2, 1), (1, .istore_n 3, 1), (2, .iconst 0, 1), (3, .istore 4, 2), (5, .iload 4, 2), (7, .aload_n 0, 1), (8, .getfield 12, 3), (11, .invokevirtual 22, 3), (14, .if_icmp .ge 58, 3), (17, .iload_n 3, 1), (18, .ifCond .lt 54, 3), (21, .iload_n 1, 1), (22, .aload_n 0, 1), (23, .getfield 12, 3), (26, .iload 4, 2), (28, .invokevirtual 26, 3), (31, .checkcast 30, 3), (34, .getfield 32, 3), (37, .invokestatic 97, 3), (40, .ifCond .eq 26, 3), (43, .iload_n 3, 1), (44, .ifCond .ne 19, 3), (47, .aload_n 0, 1), (48, .getfield 12, 3), (51, .iload 4, 2), (53, .invokevirtual 26, 3), (56, .checkcast 30, 3), (59, .getfield 32, 3), (62, .ireturn, 1), (63, .iinc 3 (-1), 3), (66, .iinc 4 1, 3), (69, .goto (-64), 3), (72, .iconst (-1), 1), (73, .ireturn, 1)] = true := by decide +kernel
noncomputable def fX3_neighbourOf_b72  (h : PH) : Option Int32 :=
  some ((-1 : Int32))
set_option maxRecDepth 100000 in
theorem wX3_neighbourOf_b72 {E : PE} {p : Program} {l : Launch} {e : Env} {s : State} {m : MethodId} {args : Array Value} {below : List Frame} {meth : Method} {c : Code} (X : Cx E p l e (rmv 3 0 0) s m args below meth c RX3 cX3_neighbourOf 5 (some .int)) (hG : Gs E l) (hnm : meth.name = yX3_neighbourOf.name)  {h : PH} {r : Int32} (hf : fX3_neighbourOf_b72  h = some r)  : PW E p l e (rmv 3 0 0) s m args below meth c 5 0 0 (MQ below (QG E (fun v u => v = some (.int r) ∧ u = h)) args s 0 0 (pA E)) h 72 [] [] := by
  unfold fX3_neighbourOf_b72 at hf
  refine p_iconst (v := -1) X (dcg dc_X3_neighbourOf 32 rfl) (by decide) ?_
  have er := Option.some.inj hf
  subst er
  exact p_iret X rfl (dcg dc_X3_neighbourOf 33 rfl) ⟨rfl, rfl⟩ (Nat.le_refl _) (Nat.le_refl _)
noncomputable def fX3_neighbourOf_b66 (v0 : Nat) (v1 : Int32) (v3 : Int32) (v4 : Int32) (h : PH) : Option ((Int32 × Int32) ⊕ Int32) :=
  some (.inl (v3, (v4 + 1)))
set_option maxRecDepth 100000 in
theorem wX3_neighbourOf_b66 {E : PE} {p : Program} {l : Launch} {e : Env} {s : State} {m : MethodId} {args : Array Value} {below : List Frame} {meth : Method} {c : Code} (X : Cx E p l e (rmv 3 0 0) s m args below meth c RX3 cX3_neighbourOf 5 (some .int)) (hG : Gs E l) (hnm : meth.name = yX3_neighbourOf.name) {v0 : Nat} {v1 : Int32} {v3 : Int32} {v4 : Int32} {h : PH} {r : Int32} {x : ((Int32 × Int32) ⊕ Int32)} (hf : fX3_neighbourOf_b66 v0 v1 v3 v4 h = some x) (k0 : ∀ z : (Int32 × Int32), x = .inl z → PW E p l e (rmv 3 0 0) s m args below meth c 5 0 0 (MQ below (QG E (fun v u => v = some (.int r) ∧ u = h)) args s 0 0 (pA E)) h 5 [(0, some (.ref v0)), (1, some (.int v1)), (3, some (.int (z.1))), (4, some (.int (z.2)))] []) (kf : ∀ z : Int32, x = .inr z → z = r) : PW E p l e (rmv 3 0 0) s m args below meth c 5 0 0 (MQ below (QG E (fun v u => v = some (.int r) ∧ u = h)) args s 0 0 (pA E)) h 66 [(0, some (.ref v0)), (1, some (.int v1)), (3, some (.int v3)), (4, some (.int v4))] [] := by
  unfold fX3_neighbourOf_b66 at hf
  refine p_iinc (v := 1) X (dcg dc_X3_neighbourOf 30 rfl) rfl (by decide) (by decide) rfl ?_
  refine p_goto (tgt := 5) X (dcg dc_X3_neighbourOf 31 rfl) (by decide) ?_
  refine p_pick [0, 1, 3, 4] ?_
  exact k0 _ (Option.some.inj hf).symm
noncomputable def fX3_neighbourOf_c5 (v0 : Nat) (v1 : Int32) (v3 : Int32) (v4 : Int32) (h : PH) : Option ((Int32 × Int32) ⊕ Int32) :=
  gd (hK h v0 = 3) (gs (hR h 3 v0 0) (fun a2 =>
  gd (hK h a2 = 14) (bd (fJx4a65c_size_8abf5 a2 h) (fun z5 =>
  if (z5 ≤ v4) then (mr (fX3_neighbourOf_b72  h)) else
  if (v3 < 0) then (mr (fX3_neighbourOf_b72  h)) else
  gs (hR h 3 v0 0) (fun a10 =>
  gd (hK h a10 = 14) (bd (fJx4a65c_get_915e3 a10 v4 h) (fun z13 =>
  gs z13 (fun a14 =>
  gd (hK h a14 = 10) (bd (fX10_isNeighbour v1 (hI h 10 a14 0)) (fun z17 =>
  if (z17 = 0) then (fX3_neighbourOf_b66 v0 v1 v3 v4 h) else
  if (¬ v3 = 0) then (fX3_neighbourOf_b66 v0 v1 (v3 + (-1)) v4 h) else
  mr (gs (hR h 3 v0 0) (fun a20 =>
  gd (hK h a20 = 14) (bd (fJx4a65c_get_915e3 a20 v4 h) (fun z23 =>
  gs z23 (fun a24 =>
  gd (hK h a24 = 10) (some ((hI h 10 a24 0))))))))))))))))))
set_option maxRecDepth 100000 in
theorem wX3_neighbourOf_c5 {E : PE} {p : Program} {l : Launch} {e : Env} {s : State} {m : MethodId} {args : Array Value} {below : List Frame} {meth : Method} {c : Code} (X : Cx E p l e (rmv 3 0 0) s m args below meth c RX3 cX3_neighbourOf 5 (some .int)) (hG : Gs E l) (hnm : meth.name = yX3_neighbourOf.name) {v0 : Nat} {v1 : Int32} {v3 : Int32} {v4 : Int32} {h : PH} {r : Int32} {x : ((Int32 × Int32) ⊕ Int32)} (hf : fX3_neighbourOf_c5 v0 v1 v3 v4 h = some x) (k0 : ∀ z : (Int32 × Int32), x = .inl z → PW E p l e (rmv 3 0 0) s m args below meth c 5 0 0 (MQ below (QG E (fun v u => v = some (.int r) ∧ u = h)) args s 0 0 (pA E)) h 5 [(0, some (.ref v0)), (1, some (.int v1)), (3, some (.int (z.1))), (4, some (.int (z.2)))] []) (kf : ∀ z : Int32, x = .inr z → z = r) : PW E p l e (rmv 3 0 0) s m args below meth c 5 0 0 (MQ below (QG E (fun v u => v = some (.int r) ∧ u = h)) args s 0 0 (pA E)) h 5 [(0, some (.ref v0)), (1, some (.int v1)), (3, some (.int v3)), (4, some (.int v4))] [] := by
  unfold fX3_neighbourOf_c5 at hf
  refine p_iload X (dcg dc_X3_neighbourOf 4 rfl) rfl ?_
  refine p_aload_n X (dcg dc_X3_neighbourOf 5 rfl) rfl rfl ?_
  obtain ⟨hk1, hf⟩ := gd_some hf
  refine p_getR X fl_X3_12 rfl (by decide) (dcg dc_X3_neighbourOf 6 rfl) hk1 ?_
  obtain ⟨a2, e3, hf⟩ := gs_some hf
  first | subst e3 | (try rw [e3])
  obtain ⟨hk4, hf⟩ := gd_some hf
  obtain ⟨z5, hz5, hf⟩ := bd_some hf
  refine p_callV (As := []) X ml_X3_22 (dcg dc_X3_neighbourOf 7 rfl) rfl rfl hk4 (wJx4a65c_size_8abf5 hG hz5) (by decide) (room4 (Nat.le_of_ble_eq_true rfl)) (Nat.le_refl _) (Nat.le_refl _) ?_
  rintro _ u9 ⟨rfl, e9⟩; have e9 := e9.symm; subst e9
  refine p_icmp_ge (tgt := 72) X (dcg dc_X3_neighbourOf 8 rfl) (by decide) (fun q => ?_) (fun q => ?_)
  · have hf := if_t q hf
    obtain ⟨y6, hf, hy7⟩ := mr_some hf
    have hy7f := kf y6 hy7
    subst hy7f
    refine p_pick [] ?_
    exact wX3_neighbourOf_b72 X hG hnm hf 
  · have hf := if_f q hf
    refine p_iload_n X (dcg dc_X3_neighbourOf 9 rfl) rfl rfl ?_
    refine p_if_lt (tgt := 72) X (dcg dc_X3_neighbourOf 10 rfl) (by decide) (fun q => ?_) (fun q => ?_)
    · have hf := if_t q hf
      obtain ⟨y8, hf, hy9⟩ := mr_some hf
      have hy9f := kf y8 hy9
      subst hy9f
      refine p_pick [] ?_
      exact wX3_neighbourOf_b72 X hG hnm hf 
    · have hf := if_f q hf
      refine p_iload_n X (dcg dc_X3_neighbourOf 11 rfl) rfl rfl ?_
      refine p_aload_n X (dcg dc_X3_neighbourOf 12 rfl) rfl rfl ?_
      refine p_getR X fl_X3_12 rfl (by decide) (dcg dc_X3_neighbourOf 13 rfl) hk1 ?_
      refine p_iload X (dcg dc_X3_neighbourOf 14 rfl) rfl ?_
      obtain ⟨a10, e11, hf⟩ := gs_some hf
      first | subst e11 | (try rw [e11])
      obtain ⟨hk12, hf⟩ := gd_some hf
      obtain ⟨z13, hz13, hf⟩ := bd_some hf
      refine p_callV (As := [_]) X ml_X3_26 (dcg dc_X3_neighbourOf 15 rfl) rfl rfl hk12 (wJx4a65c_get_915e3 hG hz13) (by decide) (room4 (Nat.le_of_ble_eq_true rfl)) (Nat.le_refl _) (Nat.le_refl _) ?_
      rintro _ u9 ⟨rfl, e9⟩; have e9 := e9.symm; subst e9
      obtain ⟨a14, e15, hf⟩ := gs_some hf
      first | subst e15 | (try rw [e15])
      obtain ⟨hk16, hf⟩ := gd_some hf
      refine p_cast (q := (RX10, TX10, 3)) X rfl tw_505 (dcg dc_X3_neighbourOf 16 rfl) hk16 ?_
      refine p_getIn X fl_X3_32 rfl (by decide) (dcg dc_X3_neighbourOf 17 rfl) hk16 ?_
      obtain ⟨z17, hz17, hf⟩ := bd_some hf
      refine p_callS (As := [_, _]) X ml_X3_97 (dcg dc_X3_neighbourOf 18 rfl) rfl rfl  (wX10_isNeighbour hG hz17) (by decide) (room4 (Nat.le_of_ble_eq_true rfl)) (Nat.le_refl _) (Nat.le_refl _) ?_
      rintro _ u9 ⟨rfl, e9⟩; have e9 := e9.symm; subst e9
      refine p_if_eq (tgt := 66) X (dcg dc_X3_neighbourOf 19 rfl) (by decide) (fun q => ?_) (fun q => ?_)
      · have hf := if_t q hf
        refine p_pick [0, 1, 3, 4] ?_
        exact wX3_neighbourOf_b66 X hG hnm hf k0 kf
      · have hf := if_f q hf
        refine p_iload_n X (dcg dc_X3_neighbourOf 20 rfl) rfl rfl ?_
        refine p_if_ne (tgt := 63) X (dcg dc_X3_neighbourOf 21 rfl) (by decide) (fun q => ?_) (fun q => ?_)
        · have hf := if_t q hf
          refine p_iinc (v := -1) X (dcg dc_X3_neighbourOf 29 rfl) rfl (by decide) (by decide) rfl ?_
          refine p_pick [0, 1, 3, 4] ?_
          exact wX3_neighbourOf_b66 X hG hnm hf k0 kf
        · have hf := if_f q hf
          obtain ⟨y18, hf, hy19⟩ := mr_some hf
          have hy19f := kf y18 hy19
          subst hy19f
          refine p_aload_n X (dcg dc_X3_neighbourOf 22 rfl) rfl rfl ?_
          refine p_getR X fl_X3_12 rfl (by decide) (dcg dc_X3_neighbourOf 23 rfl) hk1 ?_
          refine p_iload X (dcg dc_X3_neighbourOf 24 rfl) rfl ?_
          obtain ⟨a20, e21, hf⟩ := gs_some hf
          first | subst e21 | (try rw [e21])
          obtain ⟨hk22, hf⟩ := gd_some hf
          obtain ⟨z23, hz23, hf⟩ := bd_some hf
          refine p_callV (As := [_]) X ml_X3_26 (dcg dc_X3_neighbourOf 25 rfl) rfl rfl hk22 (wJx4a65c_get_915e3 hG hz23) (by decide) (room4 (Nat.le_of_ble_eq_true rfl)) (Nat.le_refl _) (Nat.le_refl _) ?_
          rintro _ u9 ⟨rfl, e9⟩; have e9 := e9.symm; subst e9
          obtain ⟨a24, e25, hf⟩ := gs_some hf
          first | subst e25 | (try rw [e25])
          obtain ⟨hk26, hf⟩ := gd_some hf
          refine p_cast (q := (RX10, TX10, 3)) X rfl tw_505 (dcg dc_X3_neighbourOf 26 rfl) hk26 ?_
          refine p_getIn X fl_X3_32 rfl (by decide) (dcg dc_X3_neighbourOf 27 rfl) hk26 ?_
          have er := Option.some.inj hf
          subst er
          exact p_iret X rfl (dcg dc_X3_neighbourOf 28 rfl) ⟨rfl, rfl⟩ (Nat.le_refl _) (Nat.le_refl _)
noncomputable def fX3_neighbourOf_l5 (v0 : Nat) (v1 : Int32) (v3 : Int32) (v4 : Int32) (h : PH) : Option Int32 := wh (fun z : (Int32 × Int32) => fX3_neighbourOf_c5 v0 v1 (z.1) (z.2) h) (v3, v4)
set_option maxRecDepth 100000 in
theorem wX3_neighbourOf_l5 {E : PE} {p : Program} {l : Launch} {e : Env} {s : State} {m : MethodId} {args : Array Value} {below : List Frame} {meth : Method} {c : Code} (X : Cx E p l e (rmv 3 0 0) s m args below meth c RX3 cX3_neighbourOf 5 (some .int)) (hG : Gs E l) (hnm : meth.name = yX3_neighbourOf.name) {v0 : Nat} {v1 : Int32} {v3 : Int32} {v4 : Int32} {h : PH} {r : Int32} (hf : fX3_neighbourOf_l5 v0 v1 v3 v4 h = some r)  : PW E p l e (rmv 3 0 0) s m args below meth c 5 0 0 (MQ below (QG E (fun v u => v = some (.int r) ∧ u = h)) args s 0 0 (pA E)) h 5 [(0, some (.ref v0)), (1, some (.int v1)), (3, some (.int v3)), (4, some (.int v4))] [] := by
  unfold fX3_neighbourOf_l5 at hf
  refine wh_ind (P := fun z => PW E p l e (rmv 3 0 0) s m args below meth c 5 0 0 (MQ below (QG E (fun v u => v = some (.int r) ∧ u = h)) args s 0 0 (pA E)) h 5 [(0, some (.ref v0)), (1, some (.int v1)), (3, some (.int (z.1))), (4, some (.int (z.2)))] []) (fun z x0 hs i1 i2 => ?_) _ hf
  exact wX3_neighbourOf_c5 (r := r) (v0 := v0) (v1 := v1) (v3 := z.1) (v4 := z.2) (h := h) X hG hnm hs i1  i2
noncomputable def fX3_neighbourOf (v0 : Nat) (v1 : Int32) (v2 : Int32) (h : PH) : Option Int32 :=
  fX3_neighbourOf_l5 v0 v1 v2 (0 : Int32) h
set_option maxRecDepth 100000 in
theorem wX3_neighbourOf {E : PE} {l : Launch} (hG : Gs E l) {v0 : Nat} {v1 : Int32} {v2 : Int32} {h : PH} {r : Int32} (hf : fX3_neighbourOf v0 v1 v2 h = some r) : Ct E l 3 0 0 yX3_neighbourOf cX3_neighbourOf 5 (some .int) [.ref v0, .int v1, .int v2] h (fun v u => v = some (.int r) ∧ u = h) := by
  refine ct_of hG (by decide) (Nat.le_of_ble_eq_true rfl) ?_
  intro p e s m args below meth c X hnm
  show PW E p l e _ s m args below meth c _ 0 0 _ h 0 [(0, some (.ref v0)), (1, some (.int v1)), (2, some (.int v2))] []
  unfold fX3_neighbourOf at hf
  refine p_iload_n X (dcg dc_X3_neighbourOf 0 rfl) rfl rfl ?_
  refine p_istore_n X (dcg dc_X3_neighbourOf 1 rfl) rfl (by decide) rfl ?_
  refine p_iconst (v := 0) X (dcg dc_X3_neighbourOf 2 rfl) (by decide) ?_
  refine p_istore X (dcg dc_X3_neighbourOf 3 rfl) (by decide) rfl ?_
  refine p_pick [0, 1, 3, 4] ?_
  exact wX3_neighbourOf_l5 X hG hnm hf 
theorem dc_X9_has : decs cX9_has [(0, .iload_n 1, 1), (1, .ifCond .lt 9, 3), (4, .iload_n 1, 1), (5, .bipush 100, 2), (7, .if_icmp .lt 5, 3), (10, .iconst 0, 1), (11, .ireturn, 1), (12, .iload_n 1, 1), (13, .bipush 64, 2), (15, .if_icmp .ge 10, 3), (18, .aload_n 0, 1), (19, .getfield 11, 3), (22, .goto 7, 3), (25, .aload_n 0, 1), (26, .getfield 15, 3), (29, .lstore_n 2, 1), (30, .lload_n 2, 1), (31, .iload_n 1, 1), (32, .bipush 64, 2), (34, .irem, 1), (35, .lushr, 1), (36, .lconst 1, 1), (37, .land, 1), (38, .lconst 0, 1), (39, .lcmp, 1), (40, .ifCond .eq 7, 3), (43, .iconst 1, 1), (44, .goto 4, 3), (47, .iconst 0, 1), (48, .ireturn, 1)] = true := by decide +kernel
noncomputable def fX9_has_b10  (h : PH) : Option Int32 :=
  some ((0 : Int32))
set_option maxRecDepth 100000 in
theorem wX9_has_b10 {E : PE} {p : Program} {l : Launch} {e : Env} {s : State} {m : MethodId} {args : Array Value} {below : List Frame} {meth : Method} {c : Code} (X : Cx E p l e (rmv 0 0 0) s m args below meth c RX9 cX9_has 4 (some .boolean)) (hG : Gs E l) (hnm : meth.name = yX9_has.name)  {h : PH} {r : Int32} (hf : fX9_has_b10  h = some r)  : PW E p l e (rmv 0 0 0) s m args below meth c 4 0 0 (MQ below (QG E (fun v u => v = some (.int r) ∧ u = h)) args s 0 0 (pA E)) h 10 [] [] := by
  unfold fX9_has_b10 at hf
  refine p_iconst (v := 0) X (dcg dc_X9_has 5 rfl) (by decide) ?_
  have er := Option.some.inj hf
  subst er
  exact p_zret X rfl rfl (dcg dc_X9_has 6 rfl) ⟨rfl, rfl⟩ (Nat.le_refl _) (Nat.le_refl _)
noncomputable def fX9_has_b48 (t0 : Int32) (h : PH) : Option Int32 :=
  gd (t0 &&& 1 = t0) (some (t0))
set_option maxRecDepth 100000 in
theorem wX9_has_b48 {E : PE} {p : Program} {l : Launch} {e : Env} {s : State} {m : MethodId} {args : Array Value} {below : List Frame} {meth : Method} {c : Code} (X : Cx E p l e (rmv 0 0 0) s m args below meth c RX9 cX9_has 4 (some .boolean)) (hG : Gs E l) (hnm : meth.name = yX9_has.name) {t0 : Int32} {h : PH} {r : Int32} (hf : fX9_has_b48 t0 h = some r)  : PW E p l e (rmv 0 0 0) s m args below meth c 4 0 0 (MQ below (QG E (fun v u => v = some (.int r) ∧ u = h)) args s 0 0 (pA E)) h 48 [] [.int t0] := by
  unfold fX9_has_b48 at hf
  obtain ⟨hg2, hf⟩ := gd_some hf
  have er := Option.some.inj hf
  subst er
  exact p_zret X rfl (congrArg Value.int hg2) (dcg dc_X9_has 29 rfl) ⟨rfl, rfl⟩ (Nat.le_refl _) (Nat.le_refl _)
noncomputable def fX9_has_b29 (v1 : Int32) (t0 : Int64) (h : PH) : Option Int32 :=
  if ((lg_cmp ((Int64.toUInt64 t0 >>> ((Int32.toInt64 (v1 - v1 / (64 : Int32) * (64 : Int32))).toUInt64 &&& Int64.toUInt64 63)).toInt64 &&& (1 : Int64)) (0 : Int64)) = 0) then (fX9_has_b48 (0 : Int32) h) else
  fX9_has_b48 (1 : Int32) h
set_option maxRecDepth 100000 in
theorem wX9_has_b29 {E : PE} {p : Program} {l : Launch} {e : Env} {s : State} {m : MethodId} {args : Array Value} {below : List Frame} {meth : Method} {c : Code} (X : Cx E p l e (rmv 0 0 0) s m args below meth c RX9 cX9_has 4 (some .boolean)) (hG : Gs E l) (hnm : meth.name = yX9_has.name) {v1 : Int32} {t0 : Int64} {h : PH} {r : Int32} (hf : fX9_has_b29 v1 t0 h = some r)  : PW E p l e (rmv 0 0 0) s m args below meth c 4 0 0 (MQ below (QG E (fun v u => v = some (.int r) ∧ u = h)) args s 0 0 (pA E)) h 29 [(1, some (.int v1))] [.long t0] := by
  unfold fX9_has_b29 at hf
  refine p_lstore_n X (dcg dc_X9_has 15 rfl) rfl (by decide) rfl ?_
  refine p_lload_n X (dcg dc_X9_has 16 rfl) rfl rfl ?_
  refine p_iload_n X (dcg dc_X9_has 17 rfl) rfl rfl ?_
  refine p_bipush (v := 64) X (dcg dc_X9_has 18 rfl) (by decide) ?_
  refine p_irem X (dcg dc_X9_has 19 rfl) (by decide) ?_
  refine p_lushr X (dcg dc_X9_has 20 rfl) ?_
  refine p_lconst (v := 1) X (dcg dc_X9_has 21 rfl) (by decide) ?_
  refine p_land X (dcg dc_X9_has 22 rfl) ?_
  refine p_lconst (v := 0) X (dcg dc_X9_has 23 rfl) (by decide) ?_
  refine p_lcmp X (dcg dc_X9_has 24 rfl) ?_
  refine p_if_eq (tgt := 47) X (dcg dc_X9_has 25 rfl) (by decide) (fun q => ?_) (fun q => ?_)
  · have hf := if_t q hf
    refine p_iconst (v := 0) X (dcg dc_X9_has 28 rfl) (by decide) ?_
    refine p_pick [] ?_
    exact wX9_has_b48 X hG hnm hf 
  · have hf := if_f q hf
    refine p_iconst (v := 1) X (dcg dc_X9_has 26 rfl) (by decide) ?_
    refine p_goto (tgt := 48) X (dcg dc_X9_has 27 rfl) (by decide) ?_
    refine p_pick [] ?_
    exact wX9_has_b48 X hG hnm hf 
noncomputable def fX9_has (v0 : Nat) (v1 : Int32) (h : PH) : Option Int32 :=
  if (v1 < 0) then (fX9_has_b10  h) else
  if (v1 < (100 : Int32)) then (if ((64 : Int32) ≤ v1) then (gd (hK h v0 = 9) (fX9_has_b29 v1 (hL h 9 v0 1) h)) else
  gd (hK h v0 = 9) (fX9_has_b29 v1 (hL h 9 v0 0) h)) else
  fX9_has_b10  h
set_option maxRecDepth 100000 in
theorem wX9_has {E : PE} {l : Launch} (hG : Gs E l) {v0 : Nat} {v1 : Int32} {h : PH} {r : Int32} (hf : fX9_has v0 v1 h = some r) : Ct E l 0 0 0 yX9_has cX9_has 4 (some .boolean) [.ref v0, .int v1] h (fun v u => v = some (.int r) ∧ u = h) := by
  refine ct_of hG (by decide) (Nat.le_of_ble_eq_true rfl) ?_
  intro p e s m args below meth c X hnm
  show PW E p l e _ s m args below meth c _ 0 0 _ h 0 [(0, some (.ref v0)), (1, some (.int v1))] []
  unfold fX9_has at hf
  refine p_iload_n X (dcg dc_X9_has 0 rfl) rfl rfl ?_
  refine p_if_lt (tgt := 10) X (dcg dc_X9_has 1 rfl) (by decide) (fun q => ?_) (fun q => ?_)
  · have hf := if_t q hf
    refine p_pick [] ?_
    exact wX9_has_b10 X hG hnm hf 
  · have hf := if_f q hf
    refine p_iload_n X (dcg dc_X9_has 2 rfl) rfl rfl ?_
    refine p_bipush (v := 100) X (dcg dc_X9_has 3 rfl) (by decide) ?_
    refine p_icmp_lt (tgt := 12) X (dcg dc_X9_has 4 rfl) (by decide) (fun q => ?_) (fun q => ?_)
    · have hf := if_t q hf
      refine p_iload_n X (dcg dc_X9_has 7 rfl) rfl rfl ?_
      refine p_bipush (v := 64) X (dcg dc_X9_has 8 rfl) (by decide) ?_
      refine p_icmp_ge (tgt := 25) X (dcg dc_X9_has 9 rfl) (by decide) (fun q => ?_) (fun q => ?_)
      · have hf := if_t q hf
        refine p_aload_n X (dcg dc_X9_has 13 rfl) rfl rfl ?_
        obtain ⟨hk1, hf⟩ := gd_some hf
        refine p_getL X fl_X9_15 rfl (by decide) (dcg dc_X9_has 14 rfl) hk1 ?_
        refine p_pick [1] ?_
        exact wX9_has_b29 X hG hnm hf 
      · have hf := if_f q hf
        refine p_aload_n X (dcg dc_X9_has 10 rfl) rfl rfl ?_
        obtain ⟨hk3, hf⟩ := gd_some hf
        refine p_getL X fl_X9_11 rfl (by decide) (dcg dc_X9_has 11 rfl) hk3 ?_
        refine p_goto (tgt := 29) X (dcg dc_X9_has 12 rfl) (by decide) ?_
        refine p_pick [1] ?_
        exact wX9_has_b29 X hG hnm hf 
    · have hf := if_f q hf
      refine p_pick [] ?_
      exact wX9_has_b10 X hG hnm hf 
theorem dc_X3_tellsTooMuch : decs cX3_tellsTooMuch [(0, .iconst 0, 1), (1, .istore_n 2, 1), (2, .iload_n 2, 1), (3, .aload_n 1, 1), (4, .arraylength, 1), (5, .if_icmp .ge 41, 3), (8, .aload_n 0, 1), (9, .getfield 69, 3), (12, .iload_n 2, 1), (13, .invokevirtual 113, 3), (16, .ifCond .eq 24, 3), (19, .aload_n 1, 1), (20, .iload_n 2, 1), (21, .aaload, 1), (22, .ifnull 16, 3), (25, .aload_n 1, 1), (26, .iload_n 2, 1), (27, .aaload, 1), (28, .aload_n 0, 1), (29, .getfield 32, 3), (32, .invokevirtual 56, 3), (35, .ifCond .ne 5, 3), (38, .iconst 1, 1), (39, .ireturn, 1), (40, .iinc 2 1, 3), (43, .goto (-41), 3), (46, .aload_n 0, 1), (47, .getfield 69, 3), (50, .invokevirtual 82, 3), (53, .ifCond .ne 7, 3), (56, .iconst 1, 1), (57, .goto 4, 3), (60, .iconst 0, 1), (61, .ireturn, 1)] = true := by decide +kernel
noncomputable def fX3_tellsTooMuch_b61 (t0 : Int32) (h : PH) : Option Int32 :=
  gd (t0 &&& 1 = t0) (some (t0))
set_option maxRecDepth 100000 in
theorem wX3_tellsTooMuch_b61 {E : PE} {p : Program} {l : Launch} {e : Env} {s : State} {m : MethodId} {args : Array Value} {below : List Frame} {meth : Method} {c : Code} (X : Cx E p l e (rmv 2 0 0) s m args below meth c RX3 cX3_tellsTooMuch 3 (some .boolean)) (hG : Gs E l) (hnm : meth.name = yX3_tellsTooMuch.name) {t0 : Int32} {h : PH} {r : Int32} (hf : fX3_tellsTooMuch_b61 t0 h = some r)  : PW E p l e (rmv 2 0 0) s m args below meth c 3 0 0 (MQ below (QG E (fun v u => v = some (.int r) ∧ u = h)) args s 0 0 (pA E)) h 61 [] [.int t0] := by
  unfold fX3_tellsTooMuch_b61 at hf
  obtain ⟨hg13, hf⟩ := gd_some hf
  have er := Option.some.inj hf
  subst er
  exact p_zret X rfl (congrArg Value.int hg13) (dcg dc_X3_tellsTooMuch 33 rfl) ⟨rfl, rfl⟩ (Nat.le_refl _) (Nat.le_refl _)
noncomputable def fX3_tellsTooMuch_b40 (v0 : Option Nat) (v1 : Option Nat) (v2 : Int32) (h : PH) : Option ((Int32) ⊕ Int32) :=
  some (.inl ((v2 + 1)))
set_option maxRecDepth 100000 in
theorem wX3_tellsTooMuch_b40 {E : PE} {p : Program} {l : Launch} {e : Env} {s : State} {m : MethodId} {args : Array Value} {below : List Frame} {meth : Method} {c : Code} (X : Cx E p l e (rmv 2 0 0) s m args below meth c RX3 cX3_tellsTooMuch 3 (some .boolean)) (hG : Gs E l) (hnm : meth.name = yX3_tellsTooMuch.name) {v0 : Option Nat} {v1 : Option Nat} {v2 : Int32} {h : PH} {r : Int32} {x : ((Int32) ⊕ Int32)} (hf : fX3_tellsTooMuch_b40 v0 v1 v2 h = some x) (k0 : ∀ z : (Int32), x = .inl z → PW E p l e (rmv 2 0 0) s m args below meth c 3 0 0 (MQ below (QG E (fun v u => v = some (.int r) ∧ u = h)) args s 0 0 (pA E)) h 2 [(0, some (va_rf v0)), (1, some (va_rf v1)), (2, some (.int (z)))] []) (kf : ∀ z : Int32, x = .inr z → z = r) : PW E p l e (rmv 2 0 0) s m args below meth c 3 0 0 (MQ below (QG E (fun v u => v = some (.int r) ∧ u = h)) args s 0 0 (pA E)) h 40 [(0, some (va_rf v0)), (1, some (va_rf v1)), (2, some (.int v2))] [] := by
  unfold fX3_tellsTooMuch_b40 at hf
  refine p_iinc (v := 1) X (dcg dc_X3_tellsTooMuch 24 rfl) rfl (by decide) (by decide) (nwq (k := 1) rfl) ?_
  refine p_goto (tgt := 2) X (dcg dc_X3_tellsTooMuch 25 rfl) (by decide) ?_
  refine p_pick [0, 1, 2] ?_
  exact k0 _ (Option.some.inj hf).symm
noncomputable def fX3_tellsTooMuch_b38  (h : PH) : Option Int32 :=
  some ((1 : Int32))
set_option maxRecDepth 100000 in
theorem wX3_tellsTooMuch_b38 {E : PE} {p : Program} {l : Launch} {e : Env} {s : State} {m : MethodId} {args : Array Value} {below : List Frame} {meth : Method} {c : Code} (X : Cx E p l e (rmv 2 0 0) s m args below meth c RX3 cX3_tellsTooMuch 3 (some .boolean)) (hG : Gs E l) (hnm : meth.name = yX3_tellsTooMuch.name)  {h : PH} {r : Int32} (hf : fX3_tellsTooMuch_b38  h = some r)  : PW E p l e (rmv 2 0 0) s m args below meth c 3 0 0 (MQ below (QG E (fun v u => v = some (.int r) ∧ u = h)) args s 0 0 (pA E)) h 38 [] [] := by
  unfold fX3_tellsTooMuch_b38 at hf
  refine p_iconst (v := 1) X (dcg dc_X3_tellsTooMuch 22 rfl) (by decide) ?_
  have er := Option.some.inj hf
  subst er
  exact p_zret X rfl rfl (dcg dc_X3_tellsTooMuch 23 rfl) ⟨rfl, rfl⟩ (Nat.le_refl _) (Nat.le_refl _)
noncomputable def fX3_tellsTooMuch_c2 (v0 : Option Nat) (v1 : Option Nat) (v2 : Int32) (h : PH) : Option ((Int32) ⊕ Int32) :=
  gs v1 (fun a1 =>
  gd (hK h a1 = 26) (if ((nI (hN h a1)) ≤ v2) then (mr (gs v0 (fun a6 =>
  gd (hK h a6 = 10) (gs (hR h 10 a6 2) (fun a9 =>
  gd (hK h a9 = 9) (bd (fX9_size a9 h) (fun z12 =>
  if (¬ z12 = 0) then (fX3_tellsTooMuch_b61 (0 : Int32) h) else
  fX3_tellsTooMuch_b61 (1 : Int32) h))))))) else
  gs v0 (fun a14 =>
  gd (hK h a14 = 10) (gs (hR h 10 a14 2) (fun a17 =>
  gd (hK h a17 = 9) (bd (fX9_has a17 v2 h) (fun z20 =>
  if (z20 = 0) then (fX3_tellsTooMuch_b40 (some a14) (some a1) v2 h) else
  gd (inb v2 (hN h a1)) (mq (hR h 26 a1 (Int32.toNatClampNeg v2)) (mr (fX3_tellsTooMuch_b38  h)) (fun a22 =>
  gd (inb v2 (hN h a1)) (gs (hR h 26 a1 (Int32.toNatClampNeg v2)) (fun a26 =>
  gd (hK h a26 = 8) (bd (fX8_has a26 (hI h 10 a14 0) h) (fun z29 =>
  if (¬ z29 = 0) then (fX3_tellsTooMuch_b40 (some a14) (some a1) v2 h) else
  mr (fX3_tellsTooMuch_b38  h))))))))))))))
set_option maxRecDepth 100000 in
theorem wX3_tellsTooMuch_c2 {E : PE} {p : Program} {l : Launch} {e : Env} {s : State} {m : MethodId} {args : Array Value} {below : List Frame} {meth : Method} {c : Code} (X : Cx E p l e (rmv 2 0 0) s m args below meth c RX3 cX3_tellsTooMuch 3 (some .boolean)) (hG : Gs E l) (hnm : meth.name = yX3_tellsTooMuch.name) {v0 : Option Nat} {v1 : Option Nat} {v2 : Int32} {h : PH} {r : Int32} {x : ((Int32) ⊕ Int32)} (hf : fX3_tellsTooMuch_c2 v0 v1 v2 h = some x) (k0 : ∀ z : (Int32), x = .inl z → PW E p l e (rmv 2 0 0) s m args below meth c 3 0 0 (MQ below (QG E (fun v u => v = some (.int r) ∧ u = h)) args s 0 0 (pA E)) h 2 [(0, some (va_rf v0)), (1, some (va_rf v1)), (2, some (.int (z)))] []) (kf : ∀ z : Int32, x = .inr z → z = r) : PW E p l e (rmv 2 0 0) s m args below meth c 3 0 0 (MQ below (QG E (fun v u => v = some (.int r) ∧ u = h)) args s 0 0 (pA E)) h 2 [(0, some (va_rf v0)), (1, some (va_rf v1)), (2, some (.int v2))] [] := by
  unfold fX3_tellsTooMuch_c2 at hf
  refine p_iload_n X (dcg dc_X3_tellsTooMuch 2 rfl) rfl rfl ?_
  refine p_aloadq_n X (dcg dc_X3_tellsTooMuch 3 rfl) rfl rfl ?_
  obtain ⟨a1, e2, hf⟩ := gs_some hf
  first | subst e2 | (try rw [e2])
  obtain ⟨hk3, hf⟩ := gd_some hf
  refine p_alen26 X (dcg dc_X3_tellsTooMuch 4 rfl) hk3 ?_
  refine p_icmp_ge (tgt := 46) X (dcg dc_X3_tellsTooMuch 5 rfl) (by decide) (fun q => ?_) (fun q => ?_)
  · have hf := if_t q hf
    obtain ⟨y4, hf, hy5⟩ := mr_some hf
    have hy5f := kf y4 hy5
    subst hy5f
    refine p_aloadq_n X (dcg dc_X3_tellsTooMuch 26 rfl) rfl rfl ?_
    obtain ⟨a6, e7, hf⟩ := gs_some hf
    first | subst e7 | (try rw [e7])
    obtain ⟨hk8, hf⟩ := gd_some hf
    refine p_getRn X fl_X3_69 rfl (by decide) (dcg dc_X3_tellsTooMuch 27 rfl) hk8 ?_
    obtain ⟨a9, e10, hf⟩ := gs_some hf
    first | subst e10 | (try rw [e10])
    obtain ⟨hk11, hf⟩ := gd_some hf
    obtain ⟨z12, hz12, hf⟩ := bd_some hf
    refine p_callV (As := []) X ml_X3_82 (dcg dc_X3_tellsTooMuch 28 rfl) rfl rfl hk11 (wX9_size hG hz12) (by decide) (room4 (Nat.le_of_ble_eq_true rfl)) (Nat.le_refl _) (Nat.le_refl _) ?_
    rintro _ u9 ⟨rfl, e9⟩; have e9 := e9.symm; subst e9
    refine p_if_ne (tgt := 60) X (dcg dc_X3_tellsTooMuch 29 rfl) (by decide) (fun q => ?_) (fun q => ?_)
    · have hf := if_t q hf
      refine p_iconst (v := 0) X (dcg dc_X3_tellsTooMuch 32 rfl) (by decide) ?_
      refine p_pick [] ?_
      exact wX3_tellsTooMuch_b61 X hG hnm hf 
    · have hf := if_f q hf
      refine p_iconst (v := 1) X (dcg dc_X3_tellsTooMuch 30 rfl) (by decide) ?_
      refine p_goto (tgt := 61) X (dcg dc_X3_tellsTooMuch 31 rfl) (by decide) ?_
      refine p_pick [] ?_
      exact wX3_tellsTooMuch_b61 X hG hnm hf 
  · have hf := if_f q hf
    refine p_aloadq_n X (dcg dc_X3_tellsTooMuch 6 rfl) rfl rfl ?_
    obtain ⟨a14, e15, hf⟩ := gs_some hf
    first | subst e15 | (try rw [e15])
    obtain ⟨hk16, hf⟩ := gd_some hf
    refine p_getRn X fl_X3_69 rfl (by decide) (dcg dc_X3_tellsTooMuch 7 rfl) hk16 ?_
    refine p_iload_n X (dcg dc_X3_tellsTooMuch 8 rfl) rfl rfl ?_
    obtain ⟨a17, e18, hf⟩ := gs_some hf
    first | subst e18 | (try rw [e18])
    obtain ⟨hk19, hf⟩ := gd_some hf
    obtain ⟨z20, hz20, hf⟩ := bd_some hf
    refine p_callV (As := [_]) X ml_X3_113 (dcg dc_X3_tellsTooMuch 9 rfl) rfl rfl hk19 (wX9_has hG hz20) (by decide) (room4 (Nat.le_of_ble_eq_true rfl)) (Nat.le_refl _) (Nat.le_refl _) ?_
    rintro _ u9 ⟨rfl, e9⟩; have e9 := e9.symm; subst e9
    refine p_if_eq (tgt := 40) X (dcg dc_X3_tellsTooMuch 10 rfl) (by decide) (fun q => ?_) (fun q => ?_)
    · have hf := if_t q hf
      refine p_pick [0, 1, 2] ?_
      exact wX3_tellsTooMuch_b40 X hG hnm hf k0 kf
    · have hf := if_f q hf
      refine p_aload_n X (dcg dc_X3_tellsTooMuch 11 rfl) rfl rfl ?_
      refine p_iload_n X (dcg dc_X3_tellsTooMuch 12 rfl) rfl rfl ?_
      obtain ⟨hb21, hf⟩ := gd_some hf
      refine p_aald26 X (dcg dc_X3_tellsTooMuch 13 rfl) hk3 (vp_of_inb hb21) ?_
      refine p_ifnull (tgt := 38) X (dcg dc_X3_tellsTooMuch 14 rfl) (by decide) (fun q => ?_) (fun a22 q => ?_)
      · have hk32 := mq_n q hf
        first | subst q | (try rw [q])
        have hf := hk32
        obtain ⟨y23, hf, hy24⟩ := mr_some hf
        have hy24f := kf y23 hy24
        subst hy24f
        refine p_pick [] ?_
        exact wX3_tellsTooMuch_b38 X hG hnm hf 
      · have hk32 := mq_s q hf
        first | subst q | (try rw [q])
        have hf := hk32
        refine p_aload_n X (dcg dc_X3_tellsTooMuch 15 rfl) rfl rfl ?_
        refine p_iload_n X (dcg dc_X3_tellsTooMuch 16 rfl) rfl rfl ?_
        obtain ⟨hb25, hf⟩ := gd_some hf
        refine p_aald26 X (dcg dc_X3_tellsTooMuch 17 rfl) hk3 (vp_of_inb hb25) ?_
        refine p_aload_n X (dcg dc_X3_tellsTooMuch 18 rfl) rfl rfl ?_
        refine p_getIn X fl_X3_32 rfl (by decide) (dcg dc_X3_tellsTooMuch 19 rfl) hk16 ?_
        obtain ⟨a26, e27, hf⟩ := gs_some hf
        first | subst e27 | (try rw [e27])
        obtain ⟨hk28, hf⟩ := gd_some hf
        obtain ⟨z29, hz29, hf⟩ := bd_some hf
        refine p_callV (As := [_]) X ml_X3_56 (dcg dc_X3_tellsTooMuch 20 rfl) rfl rfl hk28 (wX8_has hG hz29) (by decide) (room4 (Nat.le_of_ble_eq_true rfl)) (Nat.le_refl _) (Nat.le_refl _) ?_
        rintro _ u9 ⟨rfl, e9⟩; have e9 := e9.symm; subst e9
        refine p_if_ne (tgt := 40) X (dcg dc_X3_tellsTooMuch 21 rfl) (by decide) (fun q => ?_) (fun q => ?_)
        · have hf := if_t q hf
          refine p_pick [0, 1, 2] ?_
          exact wX3_tellsTooMuch_b40 X hG hnm hf k0 kf
        · have hf := if_f q hf
          obtain ⟨y30, hf, hy31⟩ := mr_some hf
          have hy31f := kf y30 hy31
          subst hy31f
          refine p_pick [] ?_
          exact wX3_tellsTooMuch_b38 X hG hnm hf 
noncomputable def fX3_tellsTooMuch_l2 (v0 : Option Nat) (v1 : Option Nat) (v2 : Int32) (h : PH) : Option Int32 := wh (fun z : (Int32) => fX3_tellsTooMuch_c2 v0 v1 (z) h) (v2)
set_option maxRecDepth 100000 in
theorem wX3_tellsTooMuch_l2 {E : PE} {p : Program} {l : Launch} {e : Env} {s : State} {m : MethodId} {args : Array Value} {below : List Frame} {meth : Method} {c : Code} (X : Cx E p l e (rmv 2 0 0) s m args below meth c RX3 cX3_tellsTooMuch 3 (some .boolean)) (hG : Gs E l) (hnm : meth.name = yX3_tellsTooMuch.name) {v0 : Option Nat} {v1 : Option Nat} {v2 : Int32} {h : PH} {r : Int32} (hf : fX3_tellsTooMuch_l2 v0 v1 v2 h = some r)  : PW E p l e (rmv 2 0 0) s m args below meth c 3 0 0 (MQ below (QG E (fun v u => v = some (.int r) ∧ u = h)) args s 0 0 (pA E)) h 2 [(0, some (va_rf v0)), (1, some (va_rf v1)), (2, some (.int v2))] [] := by
  unfold fX3_tellsTooMuch_l2 at hf
  refine wh_ind (P := fun z => PW E p l e (rmv 2 0 0) s m args below meth c 3 0 0 (MQ below (QG E (fun v u => v = some (.int r) ∧ u = h)) args s 0 0 (pA E)) h 2 [(0, some (va_rf v0)), (1, some (va_rf v1)), (2, some (.int (z)))] []) (fun z x0 hs i1 i2 => ?_) _ hf
  exact wX3_tellsTooMuch_c2 (r := r) (v0 := v0) (v1 := v1) (v2 := z) (h := h) X hG hnm hs i1  i2
noncomputable def fX3_tellsTooMuch (v0 : Option Nat) (v1 : Option Nat) (h : PH) : Option Int32 :=
  fX3_tellsTooMuch_l2 v0 v1 (0 : Int32) h
set_option maxRecDepth 100000 in
theorem wX3_tellsTooMuch {E : PE} {l : Launch} (hG : Gs E l) {v0 : Option Nat} {v1 : Option Nat} {h : PH} {r : Int32} (hf : fX3_tellsTooMuch v0 v1 h = some r) : Ct E l 2 0 0 yX3_tellsTooMuch cX3_tellsTooMuch 3 (some .boolean) [va_rf v0, va_rf v1] h (fun v u => v = some (.int r) ∧ u = h) := by
  refine ct_of hG (by decide) (by simp [lg_sl, cat_rf, cat_r, cat_i, cat_l, cat_d, cat_f]) ?_
  intro p e s m args below meth c X hnm
  rw [show pargs 0 [va_rf v0, va_rf v1] = [(0, some (va_rf v0)), (1, some (va_rf v1))] from by simp [pargs, cat_rf, cat_r, cat_i, cat_l, cat_d, cat_f]]
  unfold fX3_tellsTooMuch at hf
  refine p_iconst (v := 0) X (dcg dc_X3_tellsTooMuch 0 rfl) (by decide) ?_
  refine p_istore_n X (dcg dc_X3_tellsTooMuch 1 rfl) rfl (by decide) (nwq (k := 1) rfl) ?_
  refine p_pick [0, 1, 2] ?_
  exact wX3_tellsTooMuch_l2 X hG hnm hf 
theorem dc_X3_addOnce : decs cX3_addOnce [(0, .iconst 0, 1), (1, .istore_n 2, 1), (2, .iload_n 2, 1), (3, .aload_n 0, 1), (4, .invokevirtual 22, 3), (7, .if_icmp .ge 27, 3), (10, .aload_n 0, 1), (11, .iload_n 2, 1), (12, .invokevirtual 26, 3), (15, .checkcast 114, 3), (18, .invokevirtual 116, 3), (21, .istore_n 3, 1), (22, .iload_n 3, 1), (23, .iload_n 1, 1), (24, .if_icmp .ne 4, 3), (27, .return_, 1), (28, .iinc 2 1, 3), (31, .goto (-29), 3), (34, .aload_n 0, 1), (35, .iload_n 1, 1), (36, .invokestatic 119, 3), (39, .invokevirtual 123, 3), (42, .pop, 1), (43, .return_, 1)] = true := by decide +kernel
noncomputable def fX3_addOnce (v0 : Option Nat) (v1 : Int32) (h : PH) : Option Unit :=
  gs v0 (fun a1 =>
  gd (hK h a1 = 14) (bd (fJx4a65c_size_8abf5 a1 h) (fun z4 =>
  if (z4 ≤ (0 : Int32)) then (none) else
  bd (fJx4a65c_get_915e3 a1 (0 : Int32) h) (fun z5 =>
  none))))
set_option maxRecDepth 100000 in
theorem wX3_addOnce {E : PE} {l : Launch} (hG : Gs E l) {v0 : Option Nat} {v1 : Int32} {h : PH} {r : Unit} (hf : fX3_addOnce v0 v1 h = some r) : Ct E l 3 0 0 yX3_addOnce cX3_addOnce 4 (none) [va_rf v0, .int v1] h (fun v u => v = none ∧ u = h) := by
  refine ct_of hG (by decide) (by simp [lg_sl, cat_rf, cat_r, cat_i, cat_l, cat_d, cat_f]) ?_
  intro p e s m args below meth c X hnm
  rw [show pargs 0 [va_rf v0, .int v1] = [(0, some (va_rf v0)), (1, some (.int v1))] from by simp [pargs, cat_rf, cat_r, cat_i, cat_l, cat_d, cat_f]]
  unfold fX3_addOnce at hf
  refine p_iconst (v := 0) X (dcg dc_X3_addOnce 0 rfl) (by decide) ?_
  refine p_istore_n X (dcg dc_X3_addOnce 1 rfl) rfl (by decide) rfl ?_
  refine p_iload_n X (dcg dc_X3_addOnce 2 rfl) rfl rfl ?_
  refine p_aloadq_n X (dcg dc_X3_addOnce 3 rfl) rfl rfl ?_
  obtain ⟨a1, e2, hf⟩ := gs_some hf
  first | subst e2 | (try rw [e2])
  obtain ⟨hk3, hf⟩ := gd_some hf
  obtain ⟨z4, hz4, hf⟩ := bd_some hf
  refine p_callV (As := []) X ml_X3_22 (dcg dc_X3_addOnce 4 rfl) rfl rfl hk3 (wJx4a65c_size_8abf5 hG hz4) (by decide) (room4 (Nat.le_of_ble_eq_true rfl)) (Nat.le_refl _) (Nat.le_refl _) ?_
  rintro _ u9 ⟨rfl, e9⟩; have e9 := e9.symm; subst e9
  refine p_icmp_ge (tgt := 34) X (dcg dc_X3_addOnce 5 rfl) (by decide) (fun q => ?_) (fun q => ?_)
  · have hf := if_t q hf
    refine p_aload_n X (dcg dc_X3_addOnce 18 rfl) rfl rfl ?_
    refine p_iload_n X (dcg dc_X3_addOnce 19 rfl) rfl rfl ?_
    cases hf
  · have hf := if_f q hf
    refine p_aload_n X (dcg dc_X3_addOnce 6 rfl) rfl rfl ?_
    refine p_iload_n X (dcg dc_X3_addOnce 7 rfl) rfl rfl ?_
    obtain ⟨z5, hz5, hf⟩ := bd_some hf
    refine p_callV (As := [_]) X ml_X3_26 (dcg dc_X3_addOnce 8 rfl) rfl rfl hk3 (wJx4a65c_get_915e3 hG hz5) (by decide) (room4 (Nat.le_of_ble_eq_true rfl)) (Nat.le_refl _) (Nat.le_refl _) ?_
    rintro _ u9 ⟨rfl, e9⟩; have e9 := e9.symm; subst e9
    cases hf
theorem dc_X3_addMissing : decs cX3_addMissing [(0, .iconst 0, 1), (1, .istore 4, 2), (3, .iload 4, 2), (5, .aload_n 2, 1), (6, .invokevirtual 46, 3), (9, .if_icmp .ge 48, 3), (12, .aload_n 0, 1), (13, .aload_n 2, 1), (14, .iload 4, 2), (16, .invokevirtual 49, 3), (19, .invokevirtual 89, 3), (22, .astore 5, 2), (24, .aload 5, 2), (26, .ifnull 15, 3), (29, .aload 5, 2), (31, .getfield 69, 3), (34, .iload_n 3, 1), (35, .invokevirtual 113, 3), (38, .ifCond .ne 13, 3), (41, .aload_n 1, 1), (42, .aload_n 2, 1), (43, .iload 4, 2), (45, .invokevirtual 49, 3), (48, .invokestatic 105, 3), (51, .iinc 4 1, 3), (54, .goto (-51), 3), (57, .return_, 1)] = true := by decide +kernel
noncomputable def fX3_addMissing_b51 (v0 : Nat) (v1 : Option Nat) (v2 : Option Nat) (v3 : Int32) (v4 : Int32) (h : PH) : Option ((Int32) ⊕ Unit) :=
  some (.inl ((v4 + 1)))
set_option maxRecDepth 100000 in
theorem wX3_addMissing_b51 {E : PE} {p : Program} {l : Launch} {e : Env} {s : State} {m : MethodId} {args : Array Value} {below : List Frame} {meth : Method} {c : Code} (X : Cx E p l e (rmv 5 0 0) s m args below meth c RX3 cX3_addMissing 6 (none)) (hG : Gs E l) (hnm : meth.name = yX3_addMissing.name) {v0 : Nat} {v1 : Option Nat} {v2 : Option Nat} {v3 : Int32} {v4 : Int32} {h : PH} {r : Unit} {x : ((Int32) ⊕ Unit)} (hf : fX3_addMissing_b51 v0 v1 v2 v3 v4 h = some x) (k0 : ∀ z : (Int32), x = .inl z → PW E p l e (rmv 5 0 0) s m args below meth c 6 0 0 (MQ below (QG E (fun v u => v = none ∧ u = h)) args s 0 0 (pA E)) h 3 [(0, some (.ref v0)), (1, some (va_rf v1)), (2, some (va_rf v2)), (3, some (.int v3)), (4, some (.int (z)))] []) (kf : ∀ z : Unit, x = .inr z → z = r) : PW E p l e (rmv 5 0 0) s m args below meth c 6 0 0 (MQ below (QG E (fun v u => v = none ∧ u = h)) args s 0 0 (pA E)) h 51 [(0, some (.ref v0)), (1, some (va_rf v1)), (2, some (va_rf v2)), (3, some (.int v3)), (4, some (.int v4))] [] := by
  unfold fX3_addMissing_b51 at hf
  refine p_iinc (v := 1) X (dcg dc_X3_addMissing 24 rfl) rfl (by decide) (by decide) rfl ?_
  refine p_goto (tgt := 3) X (dcg dc_X3_addMissing 25 rfl) (by decide) ?_
  refine p_pick [0, 1, 2, 3, 4] ?_
  exact k0 _ (Option.some.inj hf).symm
noncomputable def fX3_addMissing_b41 (v0 : Nat) (v1 : Option Nat) (v2 : Option Nat) (v3 : Int32) (v4 : Int32) (h : PH) : Option ((Int32) ⊕ Unit) :=
  gs v2 (fun a11 =>
  gd (hK h a11 = 8) (bd (fX8_at a11 v4 h) (fun z14 =>
  bd (fX3_addOnce v1 z14 h) (fun z15 =>
  fX3_addMissing_b51 v0 v1 (some a11) v3 v4 h))))
set_option maxRecDepth 100000 in
theorem wX3_addMissing_b41 {E : PE} {p : Program} {l : Launch} {e : Env} {s : State} {m : MethodId} {args : Array Value} {below : List Frame} {meth : Method} {c : Code} (X : Cx E p l e (rmv 5 0 0) s m args below meth c RX3 cX3_addMissing 6 (none)) (hG : Gs E l) (hnm : meth.name = yX3_addMissing.name) {v0 : Nat} {v1 : Option Nat} {v2 : Option Nat} {v3 : Int32} {v4 : Int32} {h : PH} {r : Unit} {x : ((Int32) ⊕ Unit)} (hf : fX3_addMissing_b41 v0 v1 v2 v3 v4 h = some x) (k0 : ∀ z : (Int32), x = .inl z → PW E p l e (rmv 5 0 0) s m args below meth c 6 0 0 (MQ below (QG E (fun v u => v = none ∧ u = h)) args s 0 0 (pA E)) h 3 [(0, some (.ref v0)), (1, some (va_rf v1)), (2, some (va_rf v2)), (3, some (.int v3)), (4, some (.int (z)))] []) (kf : ∀ z : Unit, x = .inr z → z = r) : PW E p l e (rmv 5 0 0) s m args below meth c 6 0 0 (MQ below (QG E (fun v u => v = none ∧ u = h)) args s 0 0 (pA E)) h 41 [(0, some (.ref v0)), (1, some (va_rf v1)), (2, some (va_rf v2)), (3, some (.int v3)), (4, some (.int v4))] [] := by
  unfold fX3_addMissing_b41 at hf
  refine p_aloadq_n X (dcg dc_X3_addMissing 19 rfl) rfl rfl ?_
  refine p_aloadq_n X (dcg dc_X3_addMissing 20 rfl) rfl rfl ?_
  refine p_iload X (dcg dc_X3_addMissing 21 rfl) rfl ?_
  obtain ⟨a11, e12, hf⟩ := gs_some hf
  first | subst e12 | (try rw [e12])
  obtain ⟨hk13, hf⟩ := gd_some hf
  obtain ⟨z14, hz14, hf⟩ := bd_some hf
  refine p_callV (As := [_]) X ml_X3_49 (dcg dc_X3_addMissing 22 rfl) rfl rfl hk13 (wX8_at hG hz14) (by decide) (room4 (Nat.le_of_ble_eq_true rfl)) (Nat.le_refl _) (Nat.le_refl _) ?_
  rintro _ u9 ⟨rfl, e9⟩; have e9 := e9.symm; subst e9
  obtain ⟨z15, hz15, hf⟩ := bd_some hf
  refine p_callS (As := [va_rf _, _]) X ml_X3_105 (dcg dc_X3_addMissing 23 rfl) rfl rfl  (wX3_addOnce hG hz15) (by decide) (room4 (Nat.le_of_ble_eq_true rfl)) (Nat.le_refl _) (Nat.le_refl _) ?_
  rintro _ u9 ⟨rfl, e9⟩; have e9 := e9.symm; subst e9
  refine p_pick [0, 1, 2, 3, 4] ?_
  exact wX3_addMissing_b51 X hG hnm hf k0 kf
noncomputable def fX3_addMissing_c3 (v0 : Nat) (v1 : Option Nat) (v2 : Option Nat) (v3 : Int32) (v4 : Int32) (h : PH) : Option ((Int32) ⊕ Unit) :=
  gs v2 (fun a1 =>
  gd (hK h a1 = 8) (bd (fX8_size a1 h) (fun z4 =>
  if (z4 ≤ v4) then (mr (some (()))) else
  bd (fX8_at a1 v4 h) (fun z7 =>
  gd (hK h v0 = 3) (bd (fX3_find v0 z7 h) (fun z9 =>
  mq z9 (fX3_addMissing_b41 v0 v1 (some a1) v3 v4 h) (fun a10 =>
  gd (hK h a10 = 10) (gs (hR h 10 a10 2) (fun a17 =>
  gd (hK h a17 = 9) (bd (fX9_has a17 v3 h) (fun z20 =>
  if (¬ z20 = 0) then (fX3_addMissing_b51 v0 v1 (some a1) v3 v4 h) else
  fX3_addMissing_b41 v0 v1 (some a1) v3 v4 h)))))))))))
set_option maxRecDepth 100000 in
theorem wX3_addMissing_c3 {E : PE} {p : Program} {l : Launch} {e : Env} {s : State} {m : MethodId} {args : Array Value} {below : List Frame} {meth : Method} {c : Code} (X : Cx E p l e (rmv 5 0 0) s m args below meth c RX3 cX3_addMissing 6 (none)) (hG : Gs E l) (hnm : meth.name = yX3_addMissing.name) {v0 : Nat} {v1 : Option Nat} {v2 : Option Nat} {v3 : Int32} {v4 : Int32} {h : PH} {r : Unit} {x : ((Int32) ⊕ Unit)} (hf : fX3_addMissing_c3 v0 v1 v2 v3 v4 h = some x) (k0 : ∀ z : (Int32), x = .inl z → PW E p l e (rmv 5 0 0) s m args below meth c 6 0 0 (MQ below (QG E (fun v u => v = none ∧ u = h)) args s 0 0 (pA E)) h 3 [(0, some (.ref v0)), (1, some (va_rf v1)), (2, some (va_rf v2)), (3, some (.int v3)), (4, some (.int (z)))] []) (kf : ∀ z : Unit, x = .inr z → z = r) : PW E p l e (rmv 5 0 0) s m args below meth c 6 0 0 (MQ below (QG E (fun v u => v = none ∧ u = h)) args s 0 0 (pA E)) h 3 [(0, some (.ref v0)), (1, some (va_rf v1)), (2, some (va_rf v2)), (3, some (.int v3)), (4, some (.int v4))] [] := by
  unfold fX3_addMissing_c3 at hf
  refine p_iload X (dcg dc_X3_addMissing 2 rfl) rfl ?_
  refine p_aloadq_n X (dcg dc_X3_addMissing 3 rfl) rfl rfl ?_
  obtain ⟨a1, e2, hf⟩ := gs_some hf
  first | subst e2 | (try rw [e2])
  obtain ⟨hk3, hf⟩ := gd_some hf
  obtain ⟨z4, hz4, hf⟩ := bd_some hf
  refine p_callV (As := []) X ml_X3_46 (dcg dc_X3_addMissing 4 rfl) rfl rfl hk3 (wX8_size hG hz4) (by decide) (room4 (Nat.le_of_ble_eq_true rfl)) (Nat.le_refl _) (Nat.le_refl _) ?_
  rintro _ u9 ⟨rfl, e9⟩; have e9 := e9.symm; subst e9
  refine p_icmp_ge (tgt := 57) X (dcg dc_X3_addMissing 5 rfl) (by decide) (fun q => ?_) (fun q => ?_)
  · have hf := if_t q hf
    obtain ⟨y5, hf, hy6⟩ := mr_some hf
    have hy6f := kf y5 hy6
    subst hy6f
    have er := Option.some.inj hf
    subst er
    exact p_vret X rfl (dcg dc_X3_addMissing 26 rfl) ⟨rfl, rfl⟩ (Nat.le_refl _) (Nat.le_refl _)
  · have hf := if_f q hf
    refine p_aload_n X (dcg dc_X3_addMissing 6 rfl) rfl rfl ?_
    refine p_aload_n X (dcg dc_X3_addMissing 7 rfl) rfl rfl ?_
    refine p_iload X (dcg dc_X3_addMissing 8 rfl) rfl ?_
    obtain ⟨z7, hz7, hf⟩ := bd_some hf
    refine p_callV (As := [_]) X ml_X3_49 (dcg dc_X3_addMissing 9 rfl) rfl rfl hk3 (wX8_at hG hz7) (by decide) (room4 (Nat.le_of_ble_eq_true rfl)) (Nat.le_refl _) (Nat.le_refl _) ?_
    rintro _ u9 ⟨rfl, e9⟩; have e9 := e9.symm; subst e9
    obtain ⟨hk8, hf⟩ := gd_some hf
    obtain ⟨z9, hz9, hf⟩ := bd_some hf
    refine p_callV (As := [_]) X ml_X3_89 (dcg dc_X3_addMissing 10 rfl) rfl rfl hk8 (wX3_find hG hz9) (by decide) (room4 (Nat.le_of_ble_eq_true rfl)) (Nat.le_refl _) (Nat.le_refl _) ?_
    rintro _ u9 ⟨rfl, e9⟩; have e9 := e9.symm; subst e9
    refine p_astoreq X (dcg dc_X3_addMissing 11 rfl) (by decide) rfl ?_
    refine p_aloadq X (dcg dc_X3_addMissing 12 rfl) rfl ?_
    refine p_ifnull (tgt := 41) X (dcg dc_X3_addMissing 13 rfl) (by decide) (fun q => ?_) (fun a10 q => ?_)
    · have hk21 := mq_n q hf
      first | subst q | (try rw [q])
      have hf := hk21
      refine p_pick [0, 1, 2, 3, 4] ?_
      exact wX3_addMissing_b41 X hG hnm hf k0 kf
    · have hk21 := mq_s q hf
      first | subst q | (try rw [q])
      have hf := hk21
      refine p_aload X (dcg dc_X3_addMissing 14 rfl) rfl ?_
      obtain ⟨hk16, hf⟩ := gd_some hf
      refine p_getRn X fl_X3_69 rfl (by decide) (dcg dc_X3_addMissing 15 rfl) hk16 ?_
      refine p_iload_n X (dcg dc_X3_addMissing 16 rfl) rfl rfl ?_
      obtain ⟨a17, e18, hf⟩ := gs_some hf
      first | subst e18 | (try rw [e18])
      obtain ⟨hk19, hf⟩ := gd_some hf
      obtain ⟨z20, hz20, hf⟩ := bd_some hf
      refine p_callV (As := [_]) X ml_X3_113 (dcg dc_X3_addMissing 17 rfl) rfl rfl hk19 (wX9_has hG hz20) (by decide) (room4 (Nat.le_of_ble_eq_true rfl)) (Nat.le_refl _) (Nat.le_refl _) ?_
      rintro _ u9 ⟨rfl, e9⟩; have e9 := e9.symm; subst e9
      refine p_if_ne (tgt := 51) X (dcg dc_X3_addMissing 18 rfl) (by decide) (fun q => ?_) (fun q => ?_)
      · have hf := if_t q hf
        refine p_pick [0, 1, 2, 3, 4] ?_
        exact wX3_addMissing_b51 X hG hnm hf k0 kf
      · have hf := if_f q hf
        refine p_pick [0, 1, 2, 3, 4] ?_
        exact wX3_addMissing_b41 X hG hnm hf k0 kf
noncomputable def fX3_addMissing_l3 (v0 : Nat) (v1 : Option Nat) (v2 : Option Nat) (v3 : Int32) (v4 : Int32) (h : PH) : Option Unit := wh (fun z : (Int32) => fX3_addMissing_c3 v0 v1 v2 v3 (z) h) (v4)
set_option maxRecDepth 100000 in
theorem wX3_addMissing_l3 {E : PE} {p : Program} {l : Launch} {e : Env} {s : State} {m : MethodId} {args : Array Value} {below : List Frame} {meth : Method} {c : Code} (X : Cx E p l e (rmv 5 0 0) s m args below meth c RX3 cX3_addMissing 6 (none)) (hG : Gs E l) (hnm : meth.name = yX3_addMissing.name) {v0 : Nat} {v1 : Option Nat} {v2 : Option Nat} {v3 : Int32} {v4 : Int32} {h : PH} {r : Unit} (hf : fX3_addMissing_l3 v0 v1 v2 v3 v4 h = some r)  : PW E p l e (rmv 5 0 0) s m args below meth c 6 0 0 (MQ below (QG E (fun v u => v = none ∧ u = h)) args s 0 0 (pA E)) h 3 [(0, some (.ref v0)), (1, some (va_rf v1)), (2, some (va_rf v2)), (3, some (.int v3)), (4, some (.int v4))] [] := by
  unfold fX3_addMissing_l3 at hf
  refine wh_ind (P := fun z => PW E p l e (rmv 5 0 0) s m args below meth c 6 0 0 (MQ below (QG E (fun v u => v = none ∧ u = h)) args s 0 0 (pA E)) h 3 [(0, some (.ref v0)), (1, some (va_rf v1)), (2, some (va_rf v2)), (3, some (.int v3)), (4, some (.int (z)))] []) (fun z x0 hs i1 i2 => ?_) _ hf
  exact wX3_addMissing_c3 (r := r) (v0 := v0) (v1 := v1) (v2 := v2) (v3 := v3) (v4 := z) (h := h) X hG hnm hs i1  i2
noncomputable def fX3_addMissing (v0 : Nat) (v1 : Option Nat) (v2 : Option Nat) (v3 : Int32) (h : PH) : Option Unit :=
  fX3_addMissing_l3 v0 v1 v2 v3 (0 : Int32) h
set_option maxRecDepth 100000 in
theorem wX3_addMissing {E : PE} {l : Launch} (hG : Gs E l) {v0 : Nat} {v1 : Option Nat} {v2 : Option Nat} {v3 : Int32} {h : PH} {r : Unit} (hf : fX3_addMissing v0 v1 v2 v3 h = some r) : Ct E l 5 0 0 yX3_addMissing cX3_addMissing 6 (none) [.ref v0, va_rf v1, va_rf v2, .int v3] h (fun v u => v = none ∧ u = h) := by
  refine ct_of hG (by decide) (by simp [lg_sl, cat_rf, cat_r, cat_i, cat_l, cat_d, cat_f]) ?_
  intro p e s m args below meth c X hnm
  rw [show pargs 0 [.ref v0, va_rf v1, va_rf v2, .int v3] = [(0, some (.ref v0)), (1, some (va_rf v1)), (2, some (va_rf v2)), (3, some (.int v3))] from by simp [pargs, cat_rf, cat_r, cat_i, cat_l, cat_d, cat_f]]
  unfold fX3_addMissing at hf
  refine p_iconst (v := 0) X (dcg dc_X3_addMissing 0 rfl) (by decide) ?_
  refine p_istore X (dcg dc_X3_addMissing 1 rfl) (by decide) rfl ?_
  refine p_pick [0, 1, 2, 3, 4] ?_
  exact wX3_addMissing_l3 X hG hnm hf 
theorem dc_X3_countWrongWords : decs cX3_countWrongWords [(0, .new 9, 3), (3, .dup, 1), (4, .invokespecial 11, 3), (7, .astore_n 2, 1), (8, .iconst 0, 1), (9, .istore_n 3, 1), (10, .iload_n 3, 1), (11, .aload_n 0, 1), (12, .getfield 12, 3), (15, .invokevirtual 22, 3), (18, .if_icmp .ge 45, 3), (21, .aload_n 0, 1), (22, .getfield 12, 3), (25, .iload_n 3, 1), (26, .invokevirtual 26, 3), (29, .checkcast 30, 3), (32, .aload_n 1, 1), (33, .invokestatic 101, 3), (36, .ifCond .eq 21, 3), (39, .aload_n 2, 1), (40, .aload_n 0, 1), (41, .getfield 12, 3), (44, .iload_n 3, 1), (45, .invokevirtual 26, 3), (48, .checkcast 30, 3), (51, .getfield 32, 3), (54, .invokestatic 105, 3), (57, .iinc 3 1, 3), (60, .goto (-50), 3), (63, .iconst 0, 1), (64, .istore_n 3, 1), (65, .iload_n 3, 1), (66, .aload_n 1, 1), (67, .arraylength, 1), (68, .if_icmp .ge 24, 3), (71, .aload_n 1, 1), (72, .iload_n 3, 1), (73, .aaload, 1), (74, .ifnull 12, 3), (77, .aload_n 0, 1), (78, .aload_n 2, 1), (79, .aload_n 1, 1), (80, .iload_n 3, 1), (81, .aaload, 1), (82, .iload_n 3, 1), (83, .invokevirtual 109, 3), (86, .iinc 3 1, 3), (89, .goto (-24), 3), (92, .aload_n 2, 1), (93, .invokevirtual 22, 3), (96, .ireturn, 1)] = true := by decide +kernel
noncomputable def fX3_countWrongWords_b86 (v0 : Nat) (v1 : Option Nat) (v2 : Option Nat) (v3 : Int32) (h : PH) : Option ((Int32) ⊕ (Int32 × PH)) :=
  some (.inl ((v3 + 1)))
set_option maxRecDepth 100000 in
theorem mX3_countWrongWords_b86 {v0 : Nat} {v1 : Option Nat} {v2 : Option Nat} {v3 : Int32} {h : PH} {x : ((Int32) ⊕ (Int32 × PH))} (hf : fX3_countWrongWords_b86 v0 v1 v2 v3 h = some x) : (∀ w9 : (Int32 × PH), x = .inr w9 → lez h (hX w9.2) (hV w9.2)) := by
  unfold fX3_countWrongWords_b86 at hf
  have hle := lez_rf h
  have ee := Option.some.inj hf; subst ee
  exact (fun z e => nomatch e)
set_option maxRecDepth 100000 in
theorem wX3_countWrongWords_b86 {E : PE} {p : Program} {l : Launch} {e : Env} {s : State} {m : MethodId} {args : Array Value} {below : List Frame} {meth : Method} {c : Code} {X0 V0 MC MS uc us : Nat} (X : Cx E p l e (rmv 6 MC MS) s m args below meth c RX3 cX3_countWrongWords 4 (some .int)) (hG : Gs E l) (hnm : meth.name = yX3_countWrongWords.name) {v0 : Nat} {v1 : Option Nat} {v2 : Option Nat} {v3 : Int32} {h : PH} {r : (Int32 × PH)} {x : ((Int32) ⊕ (Int32 × PH))} (hM : MC + X0 = (hX r.2)) (hN : MS + V0 = (hV r.2)) (hu : uc + X0 = hX h) (hv : us + V0 = hV h) (hf : fX3_countWrongWords_b86 v0 v1 v2 v3 h = some x) (k0 : ∀ (z : (Int32)) (uc us : Nat), x = .inl z → uc + X0 = hX h → us + V0 = hV h → PW E p l e (rmv 6 MC MS) s m args below meth c 4 uc us (MQ below (QG E (fun v u => v = some (.int r.1) ∧ u = r.2)) args s MC MS (pA E)) h 65 [(0, some (.ref v0)), (1, some (va_rf v1)), (2, some (va_rf v2)), (3, some (.int (z)))] []) (kl0 : ∀ z : (Int32), x = .inl z → lez h (hX r.2) (hV r.2)) (kf : ∀ z : (Int32 × PH), x = .inr z → z = r) : PW E p l e (rmv 6 MC MS) s m args below meth c 4 uc us (MQ below (QG E (fun v u => v = some (.int r.1) ∧ u = r.2)) args s MC MS (pA E)) h 86 [(0, some (.ref v0)), (1, some (va_rf v1)), (2, some (va_rf v2)), (3, some (.int v3))] [] := by
  have hm1 : lez h (hX r.2) (hV r.2) := by
    obtain cf := mX3_countWrongWords_b86 hf
    rcases hxx : x with zz | zz
    · exact kl0 zz hxx
    · have ee := kf zz hxx; subst ee; exact cf zz hxx
  have hcm : uc ≤ MC := (by have o0 := hm1.1; have o1 := hM; have o2 := hu; (try simp only [hX_sI, hX_sR, hX_sL, hX_sD, hX_sIa, hX_sRa, hV_sI, hV_sR, hV_sL, hV_sD, hV_sIa, hV_sRa, hX_new, hV_new] at o0 o1 o2 ⊢); omega)
  have hsm : us ≤ MS := (by have o0 := hm1.2; have o1 := hN; have o2 := hv; (try simp only [hX_sI, hX_sR, hX_sL, hX_sD, hX_sIa, hX_sRa, hV_sI, hV_sR, hV_sL, hV_sD, hV_sIa, hV_sRa, hX_new, hV_new] at o0 o1 o2 ⊢); omega)
  clear hm1
  unfold fX3_countWrongWords_b86 at hf
  refine p_iinc (v := 1) X (dcg dc_X3_countWrongWords 46 rfl) rfl (by decide) (by decide) (nwq (k := 2) rfl) ?_
  refine p_goto (tgt := 65) X (dcg dc_X3_countWrongWords 47 rfl) (by decide) ?_
  refine p_pick [0, 1, 2, 3] ?_
  exact k0 _ _ _ (Option.some.inj hf).symm hu hv
noncomputable def fX3_countWrongWords_c65 (v0 : Nat) (v1 : Option Nat) (v2 : Option Nat) (v3 : Int32) (h : PH) : Option ((Int32) ⊕ (Int32 × PH)) :=
  gs v1 (fun a9 =>
  gd (hK h a9 = 26) (if ((nI (hN h a9)) ≤ v3) then (mr (gs v2 (fun a14 =>
  gd (hK h a14 = 14) (bd (fJx4a65c_size_8abf5 a14 h) (fun z17 =>
  some ((z17, h))))))) else
  gd (inb v3 (hN h a9)) (mq (hR h 26 a9 (Int32.toNatClampNeg v3)) (fX3_countWrongWords_b86 v0 (some a9) v2 v3 h) (fun a19 =>
  gd (inb v3 (hN h a9)) (gd (hK h v0 = 3) (bd (fX3_addMissing v0 v2 (hR h 26 a9 (Int32.toNatClampNeg v3)) v3 h) (fun z22 =>
  fX3_countWrongWords_b86 v0 (some a9) v2 v3 h)))))))
set_option maxRecDepth 100000 in
theorem mX3_countWrongWords_c65 {v0 : Nat} {v1 : Option Nat} {v2 : Option Nat} {v3 : Int32} {h : PH} {x : ((Int32) ⊕ (Int32 × PH))} (hf : fX3_countWrongWords_c65 v0 v1 v2 v3 h = some x) : (∀ w9 : (Int32 × PH), x = .inr w9 → lez h (hX w9.2) (hV w9.2)) := by
  unfold fX3_countWrongWords_c65 at hf
  have hle := lez_rf h
  obtain ⟨a9, e10, hf⟩ := gs_some hf
  obtain ⟨hk11, hf⟩ := gd_some hf
  rcases ite_or hf with ⟨q, hf⟩ | ⟨q, hf⟩
  · have hf := if_t q hf
    obtain ⟨y12, hfm, rfl⟩ := mr_some hf; have hf := hfm; clear hfm
    obtain ⟨a14, e15, hf⟩ := gs_some hf
    obtain ⟨hk16, hf⟩ := gd_some hf
    obtain ⟨z17, hz17, hf⟩ := bd_some hf
    have ee := Option.some.inj hf; subst ee
    exact (fun z e => by have ee := Sum.inr.inj (e); subst ee; exact hle)
  · have hf := if_f q hf
    obtain ⟨hb18, hf⟩ := gd_some hf
    rcases mq_or hf with ⟨q, hf⟩ | ⟨a19, q, hf⟩
    · have hf := mq_n q hf
      obtain cf := mX3_countWrongWords_b86 hf
      exact fun z e => lez_rt (cf z (e)) hle
    · have hk23 := mq_s q hf
      first | subst q | skip
      have hf := hk23
      obtain ⟨hb20, hf⟩ := gd_some hf
      obtain ⟨hk21, hf⟩ := gd_some hf
      obtain ⟨z22, hz22, hf⟩ := bd_some hf
      obtain cf := mX3_countWrongWords_b86 hf
      exact fun z e => lez_rt (cf z (e)) hle
set_option maxRecDepth 100000 in
theorem wX3_countWrongWords_c65 {E : PE} {p : Program} {l : Launch} {e : Env} {s : State} {m : MethodId} {args : Array Value} {below : List Frame} {meth : Method} {c : Code} {X0 V0 MC MS uc us : Nat} (X : Cx E p l e (rmv 6 MC MS) s m args below meth c RX3 cX3_countWrongWords 4 (some .int)) (hG : Gs E l) (hnm : meth.name = yX3_countWrongWords.name) {v0 : Nat} {v1 : Option Nat} {v2 : Option Nat} {v3 : Int32} {h : PH} {r : (Int32 × PH)} {x : ((Int32) ⊕ (Int32 × PH))} (hM : MC + X0 = (hX r.2)) (hN : MS + V0 = (hV r.2)) (hu : uc + X0 = hX h) (hv : us + V0 = hV h) (hf : fX3_countWrongWords_c65 v0 v1 v2 v3 h = some x) (k0 : ∀ (z : (Int32)) (uc us : Nat), x = .inl z → uc + X0 = hX h → us + V0 = hV h → PW E p l e (rmv 6 MC MS) s m args below meth c 4 uc us (MQ below (QG E (fun v u => v = some (.int r.1) ∧ u = r.2)) args s MC MS (pA E)) h 65 [(0, some (.ref v0)), (1, some (va_rf v1)), (2, some (va_rf v2)), (3, some (.int (z)))] []) (kl0 : ∀ z : (Int32), x = .inl z → lez h (hX r.2) (hV r.2)) (kf : ∀ z : (Int32 × PH), x = .inr z → z = r) : PW E p l e (rmv 6 MC MS) s m args below meth c 4 uc us (MQ below (QG E (fun v u => v = some (.int r.1) ∧ u = r.2)) args s MC MS (pA E)) h 65 [(0, some (.ref v0)), (1, some (va_rf v1)), (2, some (va_rf v2)), (3, some (.int v3))] [] := by
  have hm1 : lez h (hX r.2) (hV r.2) := by
    obtain cf := mX3_countWrongWords_c65 hf
    rcases hxx : x with zz | zz
    · exact kl0 zz hxx
    · have ee := kf zz hxx; subst ee; exact cf zz hxx
  have hcm : uc ≤ MC := (by have o0 := hm1.1; have o1 := hM; have o2 := hu; (try simp only [hX_sI, hX_sR, hX_sL, hX_sD, hX_sIa, hX_sRa, hV_sI, hV_sR, hV_sL, hV_sD, hV_sIa, hV_sRa, hX_new, hV_new] at o0 o1 o2 ⊢); omega)
  have hsm : us ≤ MS := (by have o0 := hm1.2; have o1 := hN; have o2 := hv; (try simp only [hX_sI, hX_sR, hX_sL, hX_sD, hX_sIa, hX_sRa, hV_sI, hV_sR, hV_sL, hV_sD, hV_sIa, hV_sRa, hX_new, hV_new] at o0 o1 o2 ⊢); omega)
  clear hm1
  unfold fX3_countWrongWords_c65 at hf
  refine p_iload_n X (dcg dc_X3_countWrongWords 31 rfl) rfl rfl ?_
  refine p_aloadq_n X (dcg dc_X3_countWrongWords 32 rfl) rfl rfl ?_
  obtain ⟨a9, e10, hf⟩ := gs_some hf
  first | subst e10 | (try rw [e10])
  obtain ⟨hk11, hf⟩ := gd_some hf
  refine p_alen26 X (dcg dc_X3_countWrongWords 33 rfl) hk11 ?_
  refine p_icmp_ge (tgt := 92) X (dcg dc_X3_countWrongWords 34 rfl) (by decide) (fun q => ?_) (fun q => ?_)
  · have hf := if_t q hf
    obtain ⟨y12, hf, hy13⟩ := mr_some hf
    have hy13f := kf y12 hy13
    subst hy13f
    refine p_aloadq_n X (dcg dc_X3_countWrongWords 48 rfl) rfl rfl ?_
    obtain ⟨a14, e15, hf⟩ := gs_some hf
    first | subst e15 | (try rw [e15])
    obtain ⟨hk16, hf⟩ := gd_some hf
    obtain ⟨z17, hz17, hf⟩ := bd_some hf
    refine p_callV (As := []) X ml_X3_22 (dcg dc_X3_countWrongWords 49 rfl) rfl rfl hk16 (wJx4a65c_size_8abf5 hG hz17) (by decide) (room4 (Nat.le_of_ble_eq_true rfl)) hcm hsm ?_
    rintro _ u9 ⟨rfl, e9⟩; have e9 := e9.symm; subst e9
    have er := Option.some.inj hf
    subst er
    exact p_iret X rfl (dcg dc_X3_countWrongWords 50 rfl) ⟨rfl, rfl⟩ hcm hsm
  · have hf := if_f q hf
    refine p_aload_n X (dcg dc_X3_countWrongWords 35 rfl) rfl rfl ?_
    refine p_iload_n X (dcg dc_X3_countWrongWords 36 rfl) rfl rfl ?_
    obtain ⟨hb18, hf⟩ := gd_some hf
    refine p_aald26 X (dcg dc_X3_countWrongWords 37 rfl) hk11 (vp_of_inb hb18) ?_
    refine p_ifnull (tgt := 86) X (dcg dc_X3_countWrongWords 38 rfl) (by decide) (fun q => ?_) (fun a19 q => ?_)
    · have hk23 := mq_n q hf
      first | subst q | (try rw [q])
      have hf := hk23
      refine p_pick [0, 1, 2, 3] ?_
      exact wX3_countWrongWords_b86 X hG hnm hM hN hu hv hf k0 kl0 kf
    · have hk23 := mq_s q hf
      first | subst q | (try rw [q])
      have hf := hk23
      refine p_aload_n X (dcg dc_X3_countWrongWords 39 rfl) rfl rfl ?_
      refine p_aloadq_n X (dcg dc_X3_countWrongWords 40 rfl) rfl rfl ?_
      refine p_aload_n X (dcg dc_X3_countWrongWords 41 rfl) rfl rfl ?_
      refine p_iload_n X (dcg dc_X3_countWrongWords 42 rfl) rfl rfl ?_
      obtain ⟨hb20, hf⟩ := gd_some hf
      refine p_aald26 X (dcg dc_X3_countWrongWords 43 rfl) hk11 (vp_of_inb hb20) ?_
      refine p_iload_n X (dcg dc_X3_countWrongWords 44 rfl) rfl rfl ?_
      obtain ⟨hk21, hf⟩ := gd_some hf
      obtain ⟨z22, hz22, hf⟩ := bd_some hf
      refine p_callV (As := [va_rf _, va_rf _, _]) X ml_X3_109 (dcg dc_X3_countWrongWords 45 rfl) rfl rfl hk21 (wX3_addMissing hG hz22) (by decide) (room4 (Nat.le_of_ble_eq_true rfl)) hcm hsm ?_
      rintro _ u9 ⟨rfl, e9⟩; have e9 := e9.symm; subst e9
      refine p_pick [0, 1, 2, 3] ?_
      exact wX3_countWrongWords_b86 X hG hnm hM hN hu hv hf k0 kl0 kf
noncomputable def fX3_countWrongWords_l65 (v0 : Nat) (v1 : Option Nat) (v2 : Option Nat) (v3 : Int32) (h : PH) : Option (Int32 × PH) := wh (fun z : (Int32) => fX3_countWrongWords_c65 v0 v1 v2 (z) h) (v3)
set_option maxRecDepth 100000 in
theorem mX3_countWrongWords_l65 {v0 : Nat} {v1 : Option Nat} {v2 : Option Nat} {v3 : Int32} {h : PH} {r : (Int32 × PH)} (hf : fX3_countWrongWords_l65 v0 v1 v2 v3 h = some r) : lez h (hX r.2) (hV r.2) := by
  unfold fX3_countWrongWords_l65 at hf
  refine wh_ind (P := fun z => lez h (hX r.2) (hV r.2)) (fun z x0 hs i1 i2 => ?_) _ hf
  obtain cf := mX3_countWrongWords_c65 (v0 := v0) (v1 := v1) (v2 := v2) (v3 := z) (h := h) hs
  rcases hxx : x0 with zz | zz
  · exact (i1 zz hxx)
  · have ee := i2 zz hxx; subst ee; exact cf zz hxx
set_option maxRecDepth 100000 in
theorem wX3_countWrongWords_l65 {E : PE} {p : Program} {l : Launch} {e : Env} {s : State} {m : MethodId} {args : Array Value} {below : List Frame} {meth : Method} {c : Code} {X0 V0 MC MS uc us : Nat} (X : Cx E p l e (rmv 6 MC MS) s m args below meth c RX3 cX3_countWrongWords 4 (some .int)) (hG : Gs E l) (hnm : meth.name = yX3_countWrongWords.name) {v0 : Nat} {v1 : Option Nat} {v2 : Option Nat} {v3 : Int32} {h : PH} {r : (Int32 × PH)} (hM : MC + X0 = (hX r.2)) (hN : MS + V0 = (hV r.2)) (hu : uc + X0 = hX h) (hv : us + V0 = hV h) (hf : fX3_countWrongWords_l65 v0 v1 v2 v3 h = some r)  : PW E p l e (rmv 6 MC MS) s m args below meth c 4 uc us (MQ below (QG E (fun v u => v = some (.int r.1) ∧ u = r.2)) args s MC MS (pA E)) h 65 [(0, some (.ref v0)), (1, some (va_rf v1)), (2, some (va_rf v2)), (3, some (.int v3))] [] := by
  unfold fX3_countWrongWords_l65 at hf
  refine wh_ind2 (P := fun z => ∀ uc us : Nat, uc + X0 = hX h → us + V0 = hV h → PW E p l e (rmv 6 MC MS) s m args below meth c 4 uc us (MQ below (QG E (fun v u => v = some (.int r.1) ∧ u = r.2)) args s MC MS (pA E)) h 65 [(0, some (.ref v0)), (1, some (va_rf v1)), (2, some (va_rf v2)), (3, some (.int (z)))] []) (fun z x0 hs i1 i2 uc us hu hv => ?_) _ hf uc us hu hv
  exact wX3_countWrongWords_c65 (r := r) (v0 := v0) (v1 := v1) (v2 := v2) (v3 := z) (h := h) X hG hnm hM hN hu hv hs (fun z1 uc1 us1 e1 e2 e3 => (i1 z1 e1).1 uc1 us1 e2 e3) (fun z1 e1 => mX3_countWrongWords_l65 (v0 := v0) (v1 := v1) (v2 := v2) (v3 := z1) (h := h) (by unfold fX3_countWrongWords_l65; exact (i1 z1 e1).2))  i2
noncomputable def fX3_countWrongWords_b57 (v0 : Nat) (v1 : Option Nat) (v2 : Option Nat) (v3 : Int32) (h : PH) : Option ((Int32) ⊕ (Int32 × PH)) :=
  some (.inl ((v3 + 1)))
set_option maxRecDepth 100000 in
theorem mX3_countWrongWords_b57 {v0 : Nat} {v1 : Option Nat} {v2 : Option Nat} {v3 : Int32} {h : PH} {x : ((Int32) ⊕ (Int32 × PH))} (hf : fX3_countWrongWords_b57 v0 v1 v2 v3 h = some x) : (∀ w9 : (Int32 × PH), x = .inr w9 → lez h (hX w9.2) (hV w9.2)) := by
  unfold fX3_countWrongWords_b57 at hf
  have hle := lez_rf h
  have ee := Option.some.inj hf; subst ee
  exact (fun z e => nomatch e)
set_option maxRecDepth 100000 in
theorem wX3_countWrongWords_b57 {E : PE} {p : Program} {l : Launch} {e : Env} {s : State} {m : MethodId} {args : Array Value} {below : List Frame} {meth : Method} {c : Code} {X0 V0 MC MS uc us : Nat} (X : Cx E p l e (rmv 6 MC MS) s m args below meth c RX3 cX3_countWrongWords 4 (some .int)) (hG : Gs E l) (hnm : meth.name = yX3_countWrongWords.name) {v0 : Nat} {v1 : Option Nat} {v2 : Option Nat} {v3 : Int32} {h : PH} {r : (Int32 × PH)} {x : ((Int32) ⊕ (Int32 × PH))} (hM : MC + X0 = (hX r.2)) (hN : MS + V0 = (hV r.2)) (hu : uc + X0 = hX h) (hv : us + V0 = hV h) (hf : fX3_countWrongWords_b57 v0 v1 v2 v3 h = some x) (k0 : ∀ (z : (Int32)) (uc us : Nat), x = .inl z → uc + X0 = hX h → us + V0 = hV h → PW E p l e (rmv 6 MC MS) s m args below meth c 4 uc us (MQ below (QG E (fun v u => v = some (.int r.1) ∧ u = r.2)) args s MC MS (pA E)) h 10 [(0, some (.ref v0)), (1, some (va_rf v1)), (2, some (va_rf v2)), (3, some (.int (z)))] []) (kl0 : ∀ z : (Int32), x = .inl z → lez h (hX r.2) (hV r.2)) (kf : ∀ z : (Int32 × PH), x = .inr z → z = r) : PW E p l e (rmv 6 MC MS) s m args below meth c 4 uc us (MQ below (QG E (fun v u => v = some (.int r.1) ∧ u = r.2)) args s MC MS (pA E)) h 57 [(0, some (.ref v0)), (1, some (va_rf v1)), (2, some (va_rf v2)), (3, some (.int v3))] [] := by
  have hm1 : lez h (hX r.2) (hV r.2) := by
    obtain cf := mX3_countWrongWords_b57 hf
    rcases hxx : x with zz | zz
    · exact kl0 zz hxx
    · have ee := kf zz hxx; subst ee; exact cf zz hxx
  have hcm : uc ≤ MC := (by have o0 := hm1.1; have o1 := hM; have o2 := hu; (try simp only [hX_sI, hX_sR, hX_sL, hX_sD, hX_sIa, hX_sRa, hV_sI, hV_sR, hV_sL, hV_sD, hV_sIa, hV_sRa, hX_new, hV_new] at o0 o1 o2 ⊢); omega)
  have hsm : us ≤ MS := (by have o0 := hm1.2; have o1 := hN; have o2 := hv; (try simp only [hX_sI, hX_sR, hX_sL, hX_sD, hX_sIa, hX_sRa, hV_sI, hV_sR, hV_sL, hV_sD, hV_sIa, hV_sRa, hX_new, hV_new] at o0 o1 o2 ⊢); omega)
  clear hm1
  unfold fX3_countWrongWords_b57 at hf
  refine p_iinc (v := 1) X (dcg dc_X3_countWrongWords 27 rfl) rfl (by decide) (by decide) (nwq (k := 2) rfl) ?_
  refine p_goto (tgt := 10) X (dcg dc_X3_countWrongWords 28 rfl) (by decide) ?_
  refine p_pick [0, 1, 2, 3] ?_
  exact k0 _ _ _ (Option.some.inj hf).symm hu hv
noncomputable def fX3_countWrongWords_c10 (v0 : Nat) (v1 : Option Nat) (v2 : Option Nat) (v3 : Int32) (h : PH) : Option ((Int32) ⊕ (Int32 × PH)) :=
  gd (hK h v0 = 3) (gs (hR h 3 v0 0) (fun a3 =>
  gd (hK h a3 = 14) (bd (fJx4a65c_size_8abf5 a3 h) (fun z6 =>
  if (z6 ≤ v3) then (mr (fX3_countWrongWords_l65 v0 v1 v2 (0 : Int32) h)) else
  gs (hR h 3 v0 0) (fun a24 =>
  gd (hK h a24 = 14) (bd (fJx4a65c_get_915e3 a24 v3 h) (fun z27 =>
  gs z27 (fun a28 =>
  gd (hK h a28 = 10) (bd (fX3_tellsTooMuch (some a28) v1 h) (fun z31 =>
  if (z31 = 0) then (fX3_countWrongWords_b57 v0 v1 v2 v3 h) else
  gs (hR h 3 v0 0) (fun a32 =>
  gd (hK h a32 = 14) (bd (fJx4a65c_get_915e3 a32 v3 h) (fun z35 =>
  gs z35 (fun a36 =>
  gd (hK h a36 = 10) (bd (fX3_addOnce v2 (hI h 10 a36 0) h) (fun z39 =>
  fX3_countWrongWords_b57 v0 v1 v2 v3 h))))))))))))))))
set_option maxRecDepth 100000 in
theorem mX3_countWrongWords_c10 {v0 : Nat} {v1 : Option Nat} {v2 : Option Nat} {v3 : Int32} {h : PH} {x : ((Int32) ⊕ (Int32 × PH))} (hf : fX3_countWrongWords_c10 v0 v1 v2 v3 h = some x) : (∀ w9 : (Int32 × PH), x = .inr w9 → lez h (hX w9.2) (hV w9.2)) := by
  unfold fX3_countWrongWords_c10 at hf
  have hle := lez_rf h
  obtain ⟨hk2, hf⟩ := gd_some hf
  obtain ⟨a3, e4, hf⟩ := gs_some hf
  obtain ⟨hk5, hf⟩ := gd_some hf
  obtain ⟨z6, hz6, hf⟩ := bd_some hf
  rcases ite_or hf with ⟨q, hf⟩ | ⟨q, hf⟩
  · have hf := if_t q hf
    obtain ⟨y7, hfm, rfl⟩ := mr_some hf; have hf := hfm; clear hfm
    have cf := mX3_countWrongWords_l65 hf
    exact (fun z e => by cases e <;> exact lez_rt cf hle)
  · have hf := if_f q hf
    obtain ⟨a24, e25, hf⟩ := gs_some hf
    obtain ⟨hk26, hf⟩ := gd_some hf
    obtain ⟨z27, hz27, hf⟩ := bd_some hf
    obtain ⟨a28, e29, hf⟩ := gs_some hf
    obtain ⟨hk30, hf⟩ := gd_some hf
    obtain ⟨z31, hz31, hf⟩ := bd_some hf
    rcases ite_or hf with ⟨q, hf⟩ | ⟨q, hf⟩
    · have hf := if_t q hf
      obtain cf := mX3_countWrongWords_b57 hf
      exact fun z e => lez_rt (cf z (e)) hle
    · have hf := if_f q hf
      obtain ⟨a32, e33, hf⟩ := gs_some hf
      obtain ⟨hk34, hf⟩ := gd_some hf
      obtain ⟨z35, hz35, hf⟩ := bd_some hf
      obtain ⟨a36, e37, hf⟩ := gs_some hf
      obtain ⟨hk38, hf⟩ := gd_some hf
      obtain ⟨z39, hz39, hf⟩ := bd_some hf
      obtain cf := mX3_countWrongWords_b57 hf
      exact fun z e => lez_rt (cf z (e)) hle
set_option maxRecDepth 100000 in
theorem wX3_countWrongWords_c10 {E : PE} {p : Program} {l : Launch} {e : Env} {s : State} {m : MethodId} {args : Array Value} {below : List Frame} {meth : Method} {c : Code} {X0 V0 MC MS uc us : Nat} (X : Cx E p l e (rmv 6 MC MS) s m args below meth c RX3 cX3_countWrongWords 4 (some .int)) (hG : Gs E l) (hnm : meth.name = yX3_countWrongWords.name) {v0 : Nat} {v1 : Option Nat} {v2 : Option Nat} {v3 : Int32} {h : PH} {r : (Int32 × PH)} {x : ((Int32) ⊕ (Int32 × PH))} (hM : MC + X0 = (hX r.2)) (hN : MS + V0 = (hV r.2)) (hu : uc + X0 = hX h) (hv : us + V0 = hV h) (hf : fX3_countWrongWords_c10 v0 v1 v2 v3 h = some x) (k0 : ∀ (z : (Int32)) (uc us : Nat), x = .inl z → uc + X0 = hX h → us + V0 = hV h → PW E p l e (rmv 6 MC MS) s m args below meth c 4 uc us (MQ below (QG E (fun v u => v = some (.int r.1) ∧ u = r.2)) args s MC MS (pA E)) h 10 [(0, some (.ref v0)), (1, some (va_rf v1)), (2, some (va_rf v2)), (3, some (.int (z)))] []) (kl0 : ∀ z : (Int32), x = .inl z → lez h (hX r.2) (hV r.2)) (kf : ∀ z : (Int32 × PH), x = .inr z → z = r) : PW E p l e (rmv 6 MC MS) s m args below meth c 4 uc us (MQ below (QG E (fun v u => v = some (.int r.1) ∧ u = r.2)) args s MC MS (pA E)) h 10 [(0, some (.ref v0)), (1, some (va_rf v1)), (2, some (va_rf v2)), (3, some (.int v3))] [] := by
  have hm1 : lez h (hX r.2) (hV r.2) := by
    obtain cf := mX3_countWrongWords_c10 hf
    rcases hxx : x with zz | zz
    · exact kl0 zz hxx
    · have ee := kf zz hxx; subst ee; exact cf zz hxx
  have hcm : uc ≤ MC := (by have o0 := hm1.1; have o1 := hM; have o2 := hu; (try simp only [hX_sI, hX_sR, hX_sL, hX_sD, hX_sIa, hX_sRa, hV_sI, hV_sR, hV_sL, hV_sD, hV_sIa, hV_sRa, hX_new, hV_new] at o0 o1 o2 ⊢); omega)
  have hsm : us ≤ MS := (by have o0 := hm1.2; have o1 := hN; have o2 := hv; (try simp only [hX_sI, hX_sR, hX_sL, hX_sD, hX_sIa, hX_sRa, hV_sI, hV_sR, hV_sL, hV_sD, hV_sIa, hV_sRa, hX_new, hV_new] at o0 o1 o2 ⊢); omega)
  clear hm1
  unfold fX3_countWrongWords_c10 at hf
  refine p_iload_n X (dcg dc_X3_countWrongWords 6 rfl) rfl rfl ?_
  refine p_aload_n X (dcg dc_X3_countWrongWords 7 rfl) rfl rfl ?_
  obtain ⟨hk2, hf⟩ := gd_some hf
  refine p_getR X fl_X3_12 rfl (by decide) (dcg dc_X3_countWrongWords 8 rfl) hk2 ?_
  obtain ⟨a3, e4, hf⟩ := gs_some hf
  first | subst e4 | (try rw [e4])
  obtain ⟨hk5, hf⟩ := gd_some hf
  obtain ⟨z6, hz6, hf⟩ := bd_some hf
  refine p_callV (As := []) X ml_X3_22 (dcg dc_X3_countWrongWords 9 rfl) rfl rfl hk5 (wJx4a65c_size_8abf5 hG hz6) (by decide) (room4 (Nat.le_of_ble_eq_true rfl)) hcm hsm ?_
  rintro _ u9 ⟨rfl, e9⟩; have e9 := e9.symm; subst e9
  refine p_icmp_ge (tgt := 63) X (dcg dc_X3_countWrongWords 10 rfl) (by decide) (fun q => ?_) (fun q => ?_)
  · have hf := if_t q hf
    obtain ⟨y7, hf, hy8⟩ := mr_some hf
    have hy8f := kf y7 hy8
    subst hy8f
    refine p_iconst (v := 0) X (dcg dc_X3_countWrongWords 29 rfl) (by decide) ?_
    refine p_istore_n X (dcg dc_X3_countWrongWords 30 rfl) rfl (by decide) (nwq (k := 2) rfl) ?_
    refine p_pick [0, 1, 2, 3] ?_
    exact wX3_countWrongWords_l65 X hG hnm hM hN hu hv hf 
  · have hf := if_f q hf
    refine p_aload_n X (dcg dc_X3_countWrongWords 11 rfl) rfl rfl ?_
    refine p_getR X fl_X3_12 rfl (by decide) (dcg dc_X3_countWrongWords 12 rfl) hk2 ?_
    refine p_iload_n X (dcg dc_X3_countWrongWords 13 rfl) rfl rfl ?_
    obtain ⟨a24, e25, hf⟩ := gs_some hf
    first | subst e25 | (try rw [e25])
    obtain ⟨hk26, hf⟩ := gd_some hf
    obtain ⟨z27, hz27, hf⟩ := bd_some hf
    refine p_callV (As := [_]) X ml_X3_26 (dcg dc_X3_countWrongWords 14 rfl) rfl rfl hk26 (wJx4a65c_get_915e3 hG hz27) (by decide) (room4 (Nat.le_of_ble_eq_true rfl)) hcm hsm ?_
    rintro _ u9 ⟨rfl, e9⟩; have e9 := e9.symm; subst e9
    obtain ⟨a28, e29, hf⟩ := gs_some hf
    first | subst e29 | (try rw [e29])
    obtain ⟨hk30, hf⟩ := gd_some hf
    refine p_cast (q := (RX10, TX10, 3)) X rfl tw_505 (dcg dc_X3_countWrongWords 15 rfl) hk30 ?_
    refine p_aloadq_n X (dcg dc_X3_countWrongWords 16 rfl) rfl rfl ?_
    obtain ⟨z31, hz31, hf⟩ := bd_some hf
    refine p_callS (As := [va_rf (some _), va_rf _]) X ml_X3_101 (dcg dc_X3_countWrongWords 17 rfl) rfl rfl  (wX3_tellsTooMuch hG hz31) (by decide) (room4 (Nat.le_of_ble_eq_true rfl)) hcm hsm ?_
    rintro _ u9 ⟨rfl, e9⟩; have e9 := e9.symm; subst e9
    refine p_if_eq (tgt := 57) X (dcg dc_X3_countWrongWords 18 rfl) (by decide) (fun q => ?_) (fun q => ?_)
    · have hf := if_t q hf
      refine p_pick [0, 1, 2, 3] ?_
      exact wX3_countWrongWords_b57 X hG hnm hM hN hu hv hf k0 kl0 kf
    · have hf := if_f q hf
      refine p_aloadq_n X (dcg dc_X3_countWrongWords 19 rfl) rfl rfl ?_
      refine p_aload_n X (dcg dc_X3_countWrongWords 20 rfl) rfl rfl ?_
      refine p_getR X fl_X3_12 rfl (by decide) (dcg dc_X3_countWrongWords 21 rfl) hk2 ?_
      refine p_iload_n X (dcg dc_X3_countWrongWords 22 rfl) rfl rfl ?_
      obtain ⟨a32, e33, hf⟩ := gs_some hf
      first | subst e33 | (try rw [e33])
      obtain ⟨hk34, hf⟩ := gd_some hf
      obtain ⟨z35, hz35, hf⟩ := bd_some hf
      refine p_callV (As := [_]) X ml_X3_26 (dcg dc_X3_countWrongWords 23 rfl) rfl rfl hk34 (wJx4a65c_get_915e3 hG hz35) (by decide) (room4 (Nat.le_of_ble_eq_true rfl)) hcm hsm ?_
      rintro _ u9 ⟨rfl, e9⟩; have e9 := e9.symm; subst e9
      obtain ⟨a36, e37, hf⟩ := gs_some hf
      first | subst e37 | (try rw [e37])
      obtain ⟨hk38, hf⟩ := gd_some hf
      refine p_cast (q := (RX10, TX10, 3)) X rfl tw_505 (dcg dc_X3_countWrongWords 24 rfl) hk38 ?_
      refine p_getIn X fl_X3_32 rfl (by decide) (dcg dc_X3_countWrongWords 25 rfl) hk38 ?_
      obtain ⟨z39, hz39, hf⟩ := bd_some hf
      refine p_callS (As := [va_rf _, _]) X ml_X3_105 (dcg dc_X3_countWrongWords 26 rfl) rfl rfl  (wX3_addOnce hG hz39) (by decide) (room4 (Nat.le_of_ble_eq_true rfl)) hcm hsm ?_
      rintro _ u9 ⟨rfl, e9⟩; have e9 := e9.symm; subst e9
      refine p_pick [0, 1, 2, 3] ?_
      exact wX3_countWrongWords_b57 X hG hnm hM hN hu hv hf k0 kl0 kf
noncomputable def fX3_countWrongWords_l10 (v0 : Nat) (v1 : Option Nat) (v2 : Option Nat) (v3 : Int32) (h : PH) : Option (Int32 × PH) := wh (fun z : (Int32) => fX3_countWrongWords_c10 v0 v1 v2 (z) h) (v3)
set_option maxRecDepth 100000 in
theorem mX3_countWrongWords_l10 {v0 : Nat} {v1 : Option Nat} {v2 : Option Nat} {v3 : Int32} {h : PH} {r : (Int32 × PH)} (hf : fX3_countWrongWords_l10 v0 v1 v2 v3 h = some r) : lez h (hX r.2) (hV r.2) := by
  unfold fX3_countWrongWords_l10 at hf
  refine wh_ind (P := fun z => lez h (hX r.2) (hV r.2)) (fun z x0 hs i1 i2 => ?_) _ hf
  obtain cf := mX3_countWrongWords_c10 (v0 := v0) (v1 := v1) (v2 := v2) (v3 := z) (h := h) hs
  rcases hxx : x0 with zz | zz
  · exact (i1 zz hxx)
  · have ee := i2 zz hxx; subst ee; exact cf zz hxx
set_option maxRecDepth 100000 in
theorem wX3_countWrongWords_l10 {E : PE} {p : Program} {l : Launch} {e : Env} {s : State} {m : MethodId} {args : Array Value} {below : List Frame} {meth : Method} {c : Code} {X0 V0 MC MS uc us : Nat} (X : Cx E p l e (rmv 6 MC MS) s m args below meth c RX3 cX3_countWrongWords 4 (some .int)) (hG : Gs E l) (hnm : meth.name = yX3_countWrongWords.name) {v0 : Nat} {v1 : Option Nat} {v2 : Option Nat} {v3 : Int32} {h : PH} {r : (Int32 × PH)} (hM : MC + X0 = (hX r.2)) (hN : MS + V0 = (hV r.2)) (hu : uc + X0 = hX h) (hv : us + V0 = hV h) (hf : fX3_countWrongWords_l10 v0 v1 v2 v3 h = some r)  : PW E p l e (rmv 6 MC MS) s m args below meth c 4 uc us (MQ below (QG E (fun v u => v = some (.int r.1) ∧ u = r.2)) args s MC MS (pA E)) h 10 [(0, some (.ref v0)), (1, some (va_rf v1)), (2, some (va_rf v2)), (3, some (.int v3))] [] := by
  unfold fX3_countWrongWords_l10 at hf
  refine wh_ind2 (P := fun z => ∀ uc us : Nat, uc + X0 = hX h → us + V0 = hV h → PW E p l e (rmv 6 MC MS) s m args below meth c 4 uc us (MQ below (QG E (fun v u => v = some (.int r.1) ∧ u = r.2)) args s MC MS (pA E)) h 10 [(0, some (.ref v0)), (1, some (va_rf v1)), (2, some (va_rf v2)), (3, some (.int (z)))] []) (fun z x0 hs i1 i2 uc us hu hv => ?_) _ hf uc us hu hv
  exact wX3_countWrongWords_c10 (r := r) (v0 := v0) (v1 := v1) (v2 := v2) (v3 := z) (h := h) X hG hnm hM hN hu hv hs (fun z1 uc1 us1 e1 e2 e3 => (i1 z1 e1).1 uc1 us1 e2 e3) (fun z1 e1 => mX3_countWrongWords_l10 (v0 := v0) (v1 := v1) (v2 := v2) (v3 := z1) (h := h) (by unfold fX3_countWrongWords_l10; exact (i1 z1 e1).2))  i2
noncomputable def fX3_countWrongWords_b3 (v0 : Nat) (v1 : Option Nat) (t0 : Nat) (h : PH) : Option (Int32 × PH) :=
  bd (fJx4a65c_init_da8c8 t0 h) (fun z1 =>
  fX3_countWrongWords_l10 v0 v1 (some t0) (0 : Int32) z1)
set_option maxRecDepth 100000 in
theorem mX3_countWrongWords_b3 {v0 : Nat} {v1 : Option Nat} {t0 : Nat} {h : PH} {r : (Int32 × PH)} (hf : fX3_countWrongWords_b3 v0 v1 t0 h = some r) : lez h (hX r.2) (hV r.2) := by
  unfold fX3_countWrongWords_b3 at hf
  have hle := lez_rf h
  obtain ⟨z1, hz1, hf⟩ := bd_some hf
  have hle := lez_rt (lez_eq (mJx4a65c_init_da8c8 hz1)) hle
  exact lez_rt (mX3_countWrongWords_l10 hf) hle
set_option maxRecDepth 100000 in
theorem wX3_countWrongWords_b3 {E : PE} {p : Program} {l : Launch} {e : Env} {s : State} {m : MethodId} {args : Array Value} {below : List Frame} {meth : Method} {c : Code} {X0 V0 MC MS uc us : Nat} (X : Cx E p l e (rmv 6 MC MS) s m args below meth c RX3 cX3_countWrongWords 4 (some .int)) (hG : Gs E l) (hnm : meth.name = yX3_countWrongWords.name) {v0 : Nat} {v1 : Option Nat} {t0 : Nat} {h : PH} {r : (Int32 × PH)} (hM : MC + X0 = (hX r.2)) (hN : MS + V0 = (hV r.2)) (hu : uc + X0 = hX h) (hv : us + V0 = hV h) (hf : fX3_countWrongWords_b3 v0 v1 t0 h = some r)  : PW E p l e (rmv 6 MC MS) s m args below meth c 4 uc us (MQ below (QG E (fun v u => v = some (.int r.1) ∧ u = r.2)) args s MC MS (pA E)) h 3 [(0, some (.ref v0)), (1, some (va_rf v1))] [.ref t0] := by
  have hm1 : lez h (hX r.2) (hV r.2) := mX3_countWrongWords_b3 hf
  have hcm : uc ≤ MC := (by have o0 := hm1.1; have o1 := hM; have o2 := hu; (try simp only [hX_sI, hX_sR, hX_sL, hX_sD, hX_sIa, hX_sRa, hV_sI, hV_sR, hV_sL, hV_sD, hV_sIa, hV_sRa, hX_new, hV_new] at o0 o1 o2 ⊢); omega)
  have hsm : us ≤ MS := (by have o0 := hm1.2; have o1 := hN; have o2 := hv; (try simp only [hX_sI, hX_sR, hX_sL, hX_sD, hX_sIa, hX_sRa, hV_sI, hV_sR, hV_sL, hV_sD, hV_sIa, hV_sRa, hX_new, hV_new] at o0 o1 o2 ⊢); omega)
  clear hm1
  unfold fX3_countWrongWords_b3 at hf
  refine p_dup X (dcg dc_X3_countWrongWords 1 rfl) rfl ?_
  obtain ⟨z1, hz1, hf⟩ := bd_some hf
  refine p_callI (As := []) (ret1 := none) X ml_X3_11 (dcg dc_X3_countWrongWords 2 rfl) rfl rfl  (wJx4a65c_init_da8c8 hG hz1) (by decide) (room4 (Nat.le_of_ble_eq_true rfl)) hcm hsm ?_
  rintro _ u9 ⟨rfl, e9⟩; have e9 := e9.symm; subst e9
  have hu := hu.trans (mJx4a65c_init_da8c8 hz1).1
  have hv := hv.trans (mJx4a65c_init_da8c8 hz1).2
  refine p_astore_n X (dcg dc_X3_countWrongWords 3 rfl) rfl (by decide) (nwq (k := 1) rfl) ?_
  refine p_iconst (v := 0) X (dcg dc_X3_countWrongWords 4 rfl) (by decide) ?_
  refine p_istore_n X (dcg dc_X3_countWrongWords 5 rfl) rfl (by decide) rfl ?_
  refine p_pick [0, 1, 2, 3] ?_
  exact wX3_countWrongWords_l10 X hG hnm hM hN hu hv hf 
noncomputable def fX3_countWrongWords_b0 (v0 : Nat) (v1 : Option Nat) (h : PH) : Option (Int32 × PH) :=
  fX3_countWrongWords_b3 v0 v1 (hX h) (hnew h 14 3)
set_option maxRecDepth 100000 in
theorem mX3_countWrongWords_b0 {v0 : Nat} {v1 : Option Nat} {h : PH} {r : (Int32 × PH)} (hf : fX3_countWrongWords_b0 v0 v1 h = some r) : lez h (hX r.2) (hV r.2) := by
  unfold fX3_countWrongWords_b0 at hf
  have hle := lez_rf h
  have hle := lez_nw (c := 14) (n := 3) hle
  exact lez_rt (mX3_countWrongWords_b3 hf) hle
set_option maxRecDepth 100000 in
theorem wX3_countWrongWords_b0 {E : PE} {p : Program} {l : Launch} {e : Env} {s : State} {m : MethodId} {args : Array Value} {below : List Frame} {meth : Method} {c : Code} {X0 V0 MC MS uc us : Nat} (X : Cx E p l e (rmv 6 MC MS) s m args below meth c RX3 cX3_countWrongWords 4 (some .int)) (hG : Gs E l) (hnm : meth.name = yX3_countWrongWords.name) {v0 : Nat} {v1 : Option Nat} {h : PH} {r : (Int32 × PH)} (hM : MC + X0 = (hX r.2)) (hN : MS + V0 = (hV r.2)) (hu : uc + X0 = hX h) (hv : us + V0 = hV h) (hf : fX3_countWrongWords_b0 v0 v1 h = some r)  : PW E p l e (rmv 6 MC MS) s m args below meth c 4 uc us (MQ below (QG E (fun v u => v = some (.int r.1) ∧ u = r.2)) args s MC MS (pA E)) h 0 [(0, some (.ref v0)), (1, some (va_rf v1))] [] := by
  have hm1 : lez h (hX r.2) (hV r.2) := mX3_countWrongWords_b0 hf
  have hcm : uc ≤ MC := (by have o0 := hm1.1; have o1 := hM; have o2 := hu; (try simp only [hX_sI, hX_sR, hX_sL, hX_sD, hX_sIa, hX_sRa, hV_sI, hV_sR, hV_sL, hV_sD, hV_sIa, hV_sRa, hX_new, hV_new] at o0 o1 o2 ⊢); omega)
  have hsm : us ≤ MS := (by have o0 := hm1.2; have o1 := hN; have o2 := hv; (try simp only [hX_sI, hX_sR, hX_sL, hX_sD, hX_sIa, hX_sRa, hV_sI, hV_sR, hV_sL, hV_sD, hV_sIa, hV_sRa, hX_new, hV_new] at o0 o1 o2 ⊢); omega)
  clear hm1
  unfold fX3_countWrongWords_b0 at hf
  have hm1 : lez _ (hX r.2) (hV r.2) := mX3_countWrongWords_b3 hf
  have hm2 := lez_new hm1
  refine p_newN (ci := 14) (q := (RJx4a65c, TJx4a65c, 3)) (n := 3) X rfl rfl (by decide) tw_208 tw_209 tw_106 (dcg dc_X3_countWrongWords 0 rfl) (show uc + 1 ≤ MC from (by have o0 := hm2.1; have o1 := hM; have o2 := hu; (try simp only [hX_sI, hX_sR, hX_sL, hX_sD, hX_sIa, hX_sRa, hV_sI, hV_sR, hV_sL, hV_sD, hV_sIa, hV_sRa, hX_new, hV_new] at o0 o1 o2 ⊢); omega)) (show us + 3 ≤ MS from (by have o0 := hm2.2; have o1 := hN; have o2 := hv; (try simp only [hX_sI, hX_sR, hX_sL, hX_sD, hX_sIa, hX_sRa, hV_sI, hV_sR, hV_sL, hV_sD, hV_sIa, hV_sRa, hX_new, hV_new] at o0 o1 o2 ⊢); omega)) ?_
  refine p_pick [0, 1] ?_
  exact wX3_countWrongWords_b3 X hG hnm hM hN (by have o0 := hu; (try simp only [hX_sI, hX_sR, hX_sL, hX_sD, hX_sIa, hX_sRa, hV_sI, hV_sR, hV_sL, hV_sD, hV_sIa, hV_sRa, hX_new, hV_new] at o0 ⊢); omega) (by have o0 := hv; (try simp only [hX_sI, hX_sR, hX_sL, hX_sD, hX_sIa, hX_sRa, hV_sI, hV_sR, hV_sL, hV_sD, hV_sIa, hV_sRa, hX_new, hV_new] at o0 ⊢); omega) hf 
noncomputable def fX3_countWrongWords (v0 : Nat) (v1 : Option Nat) (h : PH) : Option (Int32 × PH) :=
  fX3_countWrongWords_b0 v0 v1 h
set_option maxRecDepth 100000 in
theorem mX3_countWrongWords {v0 : Nat} {v1 : Option Nat} {h : PH} {r : (Int32 × PH)} (hf : fX3_countWrongWords v0 v1 h = some r) : lez h (hX r.2) (hV r.2) := by
  unfold fX3_countWrongWords at hf
  have hle := lez_rf h
  exact lez_rt (mX3_countWrongWords_b0 hf) hle
set_option maxRecDepth 100000 in
theorem wX3_countWrongWords {E : PE} {l : Launch} (hG : Gs E l) {v0 : Nat} {v1 : Option Nat} {h : PH} {r : (Int32 × PH)} (hf : fX3_countWrongWords v0 v1 h = some r) : Ct E l 6 ((hX r.2) - hX h) ((hV r.2) - hV h) yX3_countWrongWords cX3_countWrongWords 4 (some .int) [.ref v0, va_rf v1] h (fun v u => v = some (.int r.1) ∧ u = r.2) := by
  have hmm := mX3_countWrongWords hf
  refine ct_of hG (by decide) (by simp [lg_sl, cat_rf, cat_r, cat_i, cat_l, cat_d, cat_f]) ?_
  intro p e s m args below meth c X hnm
  rw [show pargs 0 [.ref v0, va_rf v1] = [(0, some (.ref v0)), (1, some (va_rf v1))] from by simp [pargs, cat_rf, cat_r, cat_i, cat_l, cat_d, cat_f]]
  unfold fX3_countWrongWords at hf
  have hM := Nat.sub_add_cancel hmm.1
  have hN := Nat.sub_add_cancel hmm.2
  refine p_pick [0, 1] ?_
  exact wX3_countWrongWords_b0 X hG hnm hM hN (Nat.zero_add _) (Nat.zero_add _) hf
theorem dc_X4_init : decs cX4_init [(0, .aload_n 0, 1), (1, .invokespecial 3, 3), (4, .aload_n 0, 1), (5, .iload_n 1, 1), (6, .putfield 9, 3), (9, .aload_n 0, 1), (10, .aload_n 2, 1), (11, .putfield 15, 3), (14, .aload_n 0, 1), (15, .iload_n 3, 1), (16, .putfield 19, 3), (19, .aload_n 0, 1), (20, .new 22, 3), (23, .dup, 1), (24, .invokespecial 24, 3), (27, .putfield 25, 3), (30, .return_, 1)] = true := by decide +kernel
noncomputable def fX4_init_b23 (t0 : Nat) (t1 : Nat) (h : PH) : Option PH :=
  bd (fJx4a65c_init_da8c8 t1 h) (fun z5 =>
  gd (hK z5 t0 = 4) (lt (sR z5 4 t0 3 (some t1)) (fun h7 =>
  some (h7))))
set_option maxRecDepth 100000 in
theorem mX4_init_b23 {t0 : Nat} {t1 : Nat} {h : PH} {r : PH} (hf : fX4_init_b23 t0 t1 h = some r) : lez h (hX r) (hV r) := by
  unfold fX4_init_b23 at hf
  have hle := lez_rf h
  obtain ⟨z5, hz5, hf⟩ := bd_some hf
  have hle := lez_rt (lez_eq (mJx4a65c_init_da8c8 hz5)) hle
  obtain ⟨hk6, hf⟩ := gd_some hf
  obtain ⟨h7, rfl, hf⟩ := lt_some hf
  have ee := Option.some.inj hf; subst ee; exact hle
set_option maxRecDepth 100000 in
theorem wX4_init_b23 {E : PE} {p : Program} {l : Launch} {e : Env} {s : State} {m : MethodId} {args : Array Value} {below : List Frame} {meth : Method} {c : Code} {X0 V0 MC MS uc us : Nat} (X : Cx E p l e (rmv 4 MC MS) s m args below meth c RX4 cX4_init 4 (none)) (hG : Gs E l) (hnm : meth.name = yX4_init.name) {t0 : Nat} {t1 : Nat} {h : PH} {r : PH} (hM : MC + X0 = (hX r)) (hN : MS + V0 = (hV r)) (hu : uc + X0 = hX h) (hv : us + V0 = hV h) (hf : fX4_init_b23 t0 t1 h = some r)  : PW E p l e (rmv 4 MC MS) s m args below meth c 4 uc us (MQ below (QG E (fun v u => v = none ∧ u = r)) args s MC MS (pA E)) h 23 [] [.ref t1, .ref t0] := by
  have hm1 : lez h (hX r) (hV r) := mX4_init_b23 hf
  have hcm : uc ≤ MC := (by have o0 := hm1.1; have o1 := hM; have o2 := hu; (try simp only [hX_sI, hX_sR, hX_sL, hX_sD, hX_sIa, hX_sRa, hV_sI, hV_sR, hV_sL, hV_sD, hV_sIa, hV_sRa, hX_new, hV_new] at o0 o1 o2 ⊢); omega)
  have hsm : us ≤ MS := (by have o0 := hm1.2; have o1 := hN; have o2 := hv; (try simp only [hX_sI, hX_sR, hX_sL, hX_sD, hX_sIa, hX_sRa, hV_sI, hV_sR, hV_sL, hV_sD, hV_sIa, hV_sRa, hX_new, hV_new] at o0 o1 o2 ⊢); omega)
  clear hm1
  unfold fX4_init_b23 at hf
  refine p_dup X (dcg dc_X4_init 13 rfl) rfl ?_
  obtain ⟨z5, hz5, hf⟩ := bd_some hf
  refine p_callI (As := []) (ret1 := none) X ml_X4_24 (dcg dc_X4_init 14 rfl) rfl rfl  (wJx4a65c_init_da8c8 hG hz5) (by decide) (room4 (Nat.le_of_ble_eq_true rfl)) hcm hsm ?_
  rintro _ u9 ⟨rfl, e9⟩; have e9 := e9.symm; subst e9
  have hu := hu.trans (mJx4a65c_init_da8c8 hz5).1
  have hv := hv.trans (mJx4a65c_init_da8c8 hz5).2
  obtain ⟨hk6, hf⟩ := gd_some hf
  refine p_putRf (v := some _) X fl_X4_25 rfl (by decide) (fun q hq => by cases hq; exact ⟨rfl, rfl⟩) hnm (nar_rf _ (by decide)) (fit_rf _ (by decide)) (dcg dc_X4_init 15 rfl) hk6 ?_
  obtain ⟨h7, rfl, hf⟩ := lt_some hf
  have er := Option.some.inj hf
  subst er
  exact p_vret X rfl (dcg dc_X4_init 16 rfl) ⟨rfl, rfl⟩ hcm hsm
noncomputable def fX4_init_b0 (v0 : Nat) (v1 : Int32) (v2 : Option Nat) (v3 : Int32) (h : PH) : Option PH :=
  gd (hK h v0 = 4) (lt (sI h 4 v0 0 v1) (fun h2 =>
  lt (sR h2 4 v0 1 v2) (fun h3 =>
  lt (sI h3 4 v0 2 v3) (fun h4 =>
  fX4_init_b23 v0 (hX h4) (hnew h4 14 3)))))
set_option maxRecDepth 100000 in
theorem mX4_init_b0 {v0 : Nat} {v1 : Int32} {v2 : Option Nat} {v3 : Int32} {h : PH} {r : PH} (hf : fX4_init_b0 v0 v1 v2 v3 h = some r) : lez h (hX r) (hV r) := by
  unfold fX4_init_b0 at hf
  have hle := lez_rf h
  obtain ⟨hk1, hf⟩ := gd_some hf
  obtain ⟨h2, rfl, hf⟩ := lt_some hf
  obtain ⟨h3, rfl, hf⟩ := lt_some hf
  obtain ⟨h4, rfl, hf⟩ := lt_some hf
  have hle := lez_nw (c := 14) (n := 3) hle
  exact lez_rt (mX4_init_b23 hf) hle
set_option maxRecDepth 100000 in
theorem wX4_init_b0 {E : PE} {p : Program} {l : Launch} {e : Env} {s : State} {m : MethodId} {args : Array Value} {below : List Frame} {meth : Method} {c : Code} {X0 V0 MC MS uc us : Nat} (X : Cx E p l e (rmv 4 MC MS) s m args below meth c RX4 cX4_init 4 (none)) (hG : Gs E l) (hnm : meth.name = yX4_init.name) {v0 : Nat} {v1 : Int32} {v2 : Option Nat} {v3 : Int32} {h : PH} {r : PH} (hM : MC + X0 = (hX r)) (hN : MS + V0 = (hV r)) (hu : uc + X0 = hX h) (hv : us + V0 = hV h) (hf : fX4_init_b0 v0 v1 v2 v3 h = some r)  : PW E p l e (rmv 4 MC MS) s m args below meth c 4 uc us (MQ below (QG E (fun v u => v = none ∧ u = r)) args s MC MS (pA E)) h 0 [(0, some (.ref v0)), (1, some (.int v1)), (2, some (va_rf v2)), (3, some (.int v3))] [] := by
  have hm1 : lez h (hX r) (hV r) := mX4_init_b0 hf
  have hcm : uc ≤ MC := (by have o0 := hm1.1; have o1 := hM; have o2 := hu; (try simp only [hX_sI, hX_sR, hX_sL, hX_sD, hX_sIa, hX_sRa, hV_sI, hV_sR, hV_sL, hV_sD, hV_sIa, hV_sRa, hX_new, hV_new] at o0 o1 o2 ⊢); omega)
  have hsm : us ≤ MS := (by have o0 := hm1.2; have o1 := hN; have o2 := hv; (try simp only [hX_sI, hX_sR, hX_sL, hX_sD, hX_sIa, hX_sRa, hV_sI, hV_sR, hV_sL, hV_sD, hV_sIa, hV_sRa, hX_new, hV_new] at o0 o1 o2 ⊢); omega)
  clear hm1
  unfold fX4_init_b0 at hf
  refine p_aload_n X (dcg dc_X4_init 0 rfl) rfl rfl ?_
  refine p_objinit X tw_1515 tw_146 tw_147 (dcg dc_X4_init 1 rfl) (Nat.le_of_ble_eq_true rfl) (Nat.le_trans (Nat.add_le_add_right (room4 (Nat.le_of_ble_eq_true rfl)) 12) (Nat.le_of_ble_eq_true rfl)) (fun ls hl => hl.1.trans X.2.2.1.symm) ?_
  refine p_aload_n X (dcg dc_X4_init 2 rfl) rfl rfl ?_
  refine p_iload_n X (dcg dc_X4_init 3 rfl) rfl rfl ?_
  obtain ⟨hk1, hf⟩ := gd_some hf
  refine p_putIf X fl_X4_9 rfl (by decide) (fun q hq => by cases hq; exact ⟨rfl, rfl⟩) hnm rfl rfl (dcg dc_X4_init 4 rfl) hk1 ?_
  obtain ⟨h2, rfl, hf⟩ := lt_some hf
  refine p_aload_n X (dcg dc_X4_init 5 rfl) rfl rfl ?_
  refine p_aloadq_n X (dcg dc_X4_init 6 rfl) rfl rfl ?_
  refine p_putRf X fl_X4_15 rfl (by decide) (fun q hq => by cases hq; exact ⟨rfl, rfl⟩) hnm (nar_rf _ (by decide)) (fit_rf _ (by decide)) (dcg dc_X4_init 7 rfl) hk1 ?_
  obtain ⟨h3, rfl, hf⟩ := lt_some hf
  refine p_aload_n X (dcg dc_X4_init 8 rfl) rfl rfl ?_
  refine p_iload_n X (dcg dc_X4_init 9 rfl) rfl rfl ?_
  refine p_putIf X fl_X4_19 rfl (by decide) (fun q hq => by cases hq; exact ⟨rfl, rfl⟩) hnm rfl rfl (dcg dc_X4_init 10 rfl) hk1 ?_
  obtain ⟨h4, rfl, hf⟩ := lt_some hf
  refine p_aload_n X (dcg dc_X4_init 11 rfl) rfl rfl ?_
  have hm1 : lez _ (hX r) (hV r) := mX4_init_b23 hf
  have hm2 := lez_new hm1
  refine p_newN (ci := 14) (q := (RJx4a65c, TJx4a65c, 3)) (n := 3) X rfl rfl (by decide) tw_1516 tw_209 tw_106 (dcg dc_X4_init 12 rfl) (show uc + 1 ≤ MC from (by have o0 := hm2.1; have o1 := hM; have o2 := hu; (try simp only [hX_sI, hX_sR, hX_sL, hX_sD, hX_sIa, hX_sRa, hV_sI, hV_sR, hV_sL, hV_sD, hV_sIa, hV_sRa, hX_new, hV_new] at o0 o1 o2 ⊢); omega)) (show us + 3 ≤ MS from (by have o0 := hm2.2; have o1 := hN; have o2 := hv; (try simp only [hX_sI, hX_sR, hX_sL, hX_sD, hX_sIa, hX_sRa, hV_sI, hV_sR, hV_sL, hV_sD, hV_sIa, hV_sRa, hX_new, hV_new] at o0 o1 o2 ⊢); omega)) ?_
  refine p_pick [] ?_
  exact wX4_init_b23 X hG hnm hM hN (by have o0 := hu; (try simp only [hX_sI, hX_sR, hX_sL, hX_sD, hX_sIa, hX_sRa, hV_sI, hV_sR, hV_sL, hV_sD, hV_sIa, hV_sRa, hX_new, hV_new] at o0 ⊢); omega) (by have o0 := hv; (try simp only [hX_sI, hX_sR, hX_sL, hX_sD, hX_sIa, hX_sRa, hV_sI, hV_sR, hV_sL, hV_sD, hV_sIa, hV_sRa, hX_new, hV_new] at o0 ⊢); omega) hf 
noncomputable def fX4_init (v0 : Nat) (v1 : Int32) (v2 : Option Nat) (v3 : Int32) (h : PH) : Option PH :=
  fX4_init_b0 v0 v1 v2 v3 h
set_option maxRecDepth 100000 in
theorem mX4_init {v0 : Nat} {v1 : Int32} {v2 : Option Nat} {v3 : Int32} {h : PH} {r : PH} (hf : fX4_init v0 v1 v2 v3 h = some r) : lez h (hX r) (hV r) := by
  unfold fX4_init at hf
  have hle := lez_rf h
  exact lez_rt (mX4_init_b0 hf) hle
set_option maxRecDepth 100000 in
theorem wX4_init {E : PE} {l : Launch} (hG : Gs E l) {v0 : Nat} {v1 : Int32} {v2 : Option Nat} {v3 : Int32} {h : PH} {r : PH} (hf : fX4_init v0 v1 v2 v3 h = some r) : Ct E l 4 ((hX r) - hX h) ((hV r) - hV h) yX4_init cX4_init 4 (none) [.ref v0, .int v1, va_rf v2, .int v3] h (fun v u => v = none ∧ u = r) := by
  have hmm := mX4_init hf
  refine ct_of hG (by decide) (by simp [lg_sl, cat_rf, cat_r, cat_i, cat_l, cat_d, cat_f]) ?_
  intro p e s m args below meth c X hnm
  rw [show pargs 0 [.ref v0, .int v1, va_rf v2, .int v3] = [(0, some (.ref v0)), (1, some (.int v1)), (2, some (va_rf v2)), (3, some (.int v3))] from by simp [pargs, cat_rf, cat_r, cat_i, cat_l, cat_d, cat_f]]
  unfold fX4_init at hf
  have hM := Nat.sub_add_cancel hmm.1
  have hN := Nat.sub_add_cancel hmm.2
  refine p_pick [0, 1, 2, 3] ?_
  exact wX4_init_b0 X hG hnm hM hN (Nat.zero_add _) (Nat.zero_add _) hf
theorem dc_X4_simple : decs cX4_simple [(0, .new 10, 3), (3, .dup, 1), (4, .iload_n 0, 1), (5, .aload_n 1, 1), (6, .iload_n 2, 1), (7, .invokespecial 29, 3), (10, .areturn, 1)] = true := by decide +kernel
noncomputable def fX4_simple_b10 (t0 : Nat) (h : PH) : Option (Option Nat × PH) :=
  some (((some t0), h))
set_option maxRecDepth 100000 in
theorem mX4_simple_b10 {t0 : Nat} {h : PH} {r : (Option Nat × PH)} (hf : fX4_simple_b10 t0 h = some r) : lez h (hX r.2) (hV r.2) := by
  unfold fX4_simple_b10 at hf
  have hle := lez_rf h
  have ee := Option.some.inj hf; subst ee; exact hle
set_option maxRecDepth 100000 in
theorem wX4_simple_b10 {E : PE} {p : Program} {l : Launch} {e : Env} {s : State} {m : MethodId} {args : Array Value} {below : List Frame} {meth : Method} {c : Code} {X0 V0 MC MS uc us : Nat} (X : Cx E p l e (rmv 5 MC MS) s m args below meth c RX4 cX4_simple 3 (some (.object "WordFinder$Node"))) (hG : Gs E l) (hnm : meth.name = yX4_simple.name) {t0 : Nat} {h : PH} {r : (Option Nat × PH)} (hM : MC + X0 = (hX r.2)) (hN : MS + V0 = (hV r.2)) (hu : uc + X0 = hX h) (hv : us + V0 = hV h) (hf : fX4_simple_b10 t0 h = some r)  : PW E p l e (rmv 5 MC MS) s m args below meth c 3 uc us (MQ below (QG E (fun v u => v = some (va_rf r.1) ∧ u = r.2)) args s MC MS (pA E)) h 10 [] [.ref t0] := by
  have hm1 : lez h (hX r.2) (hV r.2) := mX4_simple_b10 hf
  have hcm : uc ≤ MC := (by have o0 := hm1.1; have o1 := hM; have o2 := hu; (try simp only [hX_sI, hX_sR, hX_sL, hX_sD, hX_sIa, hX_sRa, hV_sI, hV_sR, hV_sL, hV_sD, hV_sIa, hV_sRa, hX_new, hV_new] at o0 o1 o2 ⊢); omega)
  have hsm : us ≤ MS := (by have o0 := hm1.2; have o1 := hN; have o2 := hv; (try simp only [hX_sI, hX_sR, hX_sL, hX_sD, hX_sIa, hX_sRa, hV_sI, hV_sR, hV_sL, hV_sD, hV_sIa, hV_sRa, hX_new, hV_new] at o0 o1 o2 ⊢); omega)
  clear hm1
  unfold fX4_simple_b10 at hf
  have er := Option.some.inj hf
  subst er
  exact p_aret (r := some _) X rfl (Or.inl ⟨_, rfl⟩) (dcg dc_X4_simple 6 rfl) ⟨rfl, rfl⟩ hcm hsm
noncomputable def fX4_simple_b3 (v0 : Int32) (v1 : Option Nat) (v2 : Int32) (t0 : Nat) (h : PH) : Option (Option Nat × PH) :=
  bd (fX4_init t0 v0 v1 v2 h) (fun z1 =>
  fX4_simple_b10 t0 z1)
set_option maxRecDepth 100000 in
theorem mX4_simple_b3 {v0 : Int32} {v1 : Option Nat} {v2 : Int32} {t0 : Nat} {h : PH} {r : (Option Nat × PH)} (hf : fX4_simple_b3 v0 v1 v2 t0 h = some r) : lez h (hX r.2) (hV r.2) := by
  unfold fX4_simple_b3 at hf
  have hle := lez_rf h
  obtain ⟨z1, hz1, hf⟩ := bd_some hf
  have hle := lez_rt (mX4_init hz1) hle
  exact lez_rt (mX4_simple_b10 hf) hle
set_option maxRecDepth 100000 in
theorem wX4_simple_b3 {E : PE} {p : Program} {l : Launch} {e : Env} {s : State} {m : MethodId} {args : Array Value} {below : List Frame} {meth : Method} {c : Code} {X0 V0 MC MS uc us : Nat} (X : Cx E p l e (rmv 5 MC MS) s m args below meth c RX4 cX4_simple 3 (some (.object "WordFinder$Node"))) (hG : Gs E l) (hnm : meth.name = yX4_simple.name) {v0 : Int32} {v1 : Option Nat} {v2 : Int32} {t0 : Nat} {h : PH} {r : (Option Nat × PH)} (hM : MC + X0 = (hX r.2)) (hN : MS + V0 = (hV r.2)) (hu : uc + X0 = hX h) (hv : us + V0 = hV h) (hf : fX4_simple_b3 v0 v1 v2 t0 h = some r)  : PW E p l e (rmv 5 MC MS) s m args below meth c 3 uc us (MQ below (QG E (fun v u => v = some (va_rf r.1) ∧ u = r.2)) args s MC MS (pA E)) h 3 [(0, some (.int v0)), (1, some (va_rf v1)), (2, some (.int v2))] [.ref t0] := by
  have hm1 : lez h (hX r.2) (hV r.2) := mX4_simple_b3 hf
  have hcm : uc ≤ MC := (by have o0 := hm1.1; have o1 := hM; have o2 := hu; (try simp only [hX_sI, hX_sR, hX_sL, hX_sD, hX_sIa, hX_sRa, hV_sI, hV_sR, hV_sL, hV_sD, hV_sIa, hV_sRa, hX_new, hV_new] at o0 o1 o2 ⊢); omega)
  have hsm : us ≤ MS := (by have o0 := hm1.2; have o1 := hN; have o2 := hv; (try simp only [hX_sI, hX_sR, hX_sL, hX_sD, hX_sIa, hX_sRa, hV_sI, hV_sR, hV_sL, hV_sD, hV_sIa, hV_sRa, hX_new, hV_new] at o0 o1 o2 ⊢); omega)
  clear hm1
  unfold fX4_simple_b3 at hf
  refine p_dup X (dcg dc_X4_simple 1 rfl) rfl ?_
  refine p_iload_n X (dcg dc_X4_simple 2 rfl) rfl rfl ?_
  refine p_aloadq_n X (dcg dc_X4_simple 3 rfl) rfl rfl ?_
  refine p_iload_n X (dcg dc_X4_simple 4 rfl) rfl rfl ?_
  obtain ⟨z1, hz1, hf⟩ := bd_some hf
  have hc1 := mX4_init hz1
  have hm1 : lez _ (hX r.2) (hV r.2) := mX4_simple_b10 hf
  refine p_callI (As := [_, va_rf _, _]) (ret1 := none) X ml_X4_29 (dcg dc_X4_simple 5 rfl) rfl rfl  (wX4_init hG hz1) (by decide) (room4 (Nat.le_of_ble_eq_true rfl)) (by have o0 := hm1.1; have o1 := hc1.1; have o2 := hM; have o3 := hu; (try simp only [hX_sI, hX_sR, hX_sL, hX_sD, hX_sIa, hX_sRa, hV_sI, hV_sR, hV_sL, hV_sD, hV_sIa, hV_sRa, hX_new, hV_new] at o0 o1 o2 o3 ⊢); omega) (by have o0 := hm1.2; have o1 := hc1.2; have o2 := hN; have o3 := hv; (try simp only [hX_sI, hX_sR, hX_sL, hX_sD, hX_sIa, hX_sRa, hV_sI, hV_sR, hV_sL, hV_sD, hV_sIa, hV_sRa, hX_new, hV_new] at o0 o1 o2 o3 ⊢); omega) ?_
  rintro _ u9 ⟨rfl, e9⟩; have e9 := e9.symm; subst e9
  refine p_pick [] ?_
  exact wX4_simple_b10 X hG hnm hM hN (by have o0 := hc1.1; have o1 := hu; (try simp only [hX_sI, hX_sR, hX_sL, hX_sD, hX_sIa, hX_sRa, hV_sI, hV_sR, hV_sL, hV_sD, hV_sIa, hV_sRa, hX_new, hV_new] at o0 o1 ⊢); omega) (by have o0 := hc1.2; have o1 := hv; (try simp only [hX_sI, hX_sR, hX_sL, hX_sD, hX_sIa, hX_sRa, hV_sI, hV_sR, hV_sL, hV_sD, hV_sIa, hV_sRa, hX_new, hV_new] at o0 o1 ⊢); omega) hf 
noncomputable def fX4_simple_b0 (v0 : Int32) (v1 : Option Nat) (v2 : Int32) (h : PH) : Option (Option Nat × PH) :=
  fX4_simple_b3 v0 v1 v2 (hX h) (hnew h 4 4)
set_option maxRecDepth 100000 in
theorem mX4_simple_b0 {v0 : Int32} {v1 : Option Nat} {v2 : Int32} {h : PH} {r : (Option Nat × PH)} (hf : fX4_simple_b0 v0 v1 v2 h = some r) : lez h (hX r.2) (hV r.2) := by
  unfold fX4_simple_b0 at hf
  have hle := lez_rf h
  have hle := lez_nw (c := 4) (n := 4) hle
  exact lez_rt (mX4_simple_b3 hf) hle
set_option maxRecDepth 100000 in
theorem wX4_simple_b0 {E : PE} {p : Program} {l : Launch} {e : Env} {s : State} {m : MethodId} {args : Array Value} {below : List Frame} {meth : Method} {c : Code} {X0 V0 MC MS uc us : Nat} (X : Cx E p l e (rmv 5 MC MS) s m args below meth c RX4 cX4_simple 3 (some (.object "WordFinder$Node"))) (hG : Gs E l) (hnm : meth.name = yX4_simple.name) {v0 : Int32} {v1 : Option Nat} {v2 : Int32} {h : PH} {r : (Option Nat × PH)} (hM : MC + X0 = (hX r.2)) (hN : MS + V0 = (hV r.2)) (hu : uc + X0 = hX h) (hv : us + V0 = hV h) (hf : fX4_simple_b0 v0 v1 v2 h = some r)  : PW E p l e (rmv 5 MC MS) s m args below meth c 3 uc us (MQ below (QG E (fun v u => v = some (va_rf r.1) ∧ u = r.2)) args s MC MS (pA E)) h 0 [(0, some (.int v0)), (1, some (va_rf v1)), (2, some (.int v2))] [] := by
  have hm1 : lez h (hX r.2) (hV r.2) := mX4_simple_b0 hf
  have hcm : uc ≤ MC := (by have o0 := hm1.1; have o1 := hM; have o2 := hu; (try simp only [hX_sI, hX_sR, hX_sL, hX_sD, hX_sIa, hX_sRa, hV_sI, hV_sR, hV_sL, hV_sD, hV_sIa, hV_sRa, hX_new, hV_new] at o0 o1 o2 ⊢); omega)
  have hsm : us ≤ MS := (by have o0 := hm1.2; have o1 := hN; have o2 := hv; (try simp only [hX_sI, hX_sR, hX_sL, hX_sD, hX_sIa, hX_sRa, hV_sI, hV_sR, hV_sL, hV_sD, hV_sIa, hV_sRa, hX_new, hV_new] at o0 o1 o2 ⊢); omega)
  clear hm1
  unfold fX4_simple_b0 at hf
  have hm1 : lez _ (hX r.2) (hV r.2) := mX4_simple_b3 hf
  have hm2 := lez_new hm1
  refine p_newN (ci := 4) (q := (RX4, TX4, 4)) (n := 4) X rfl rfl (by decide) tw_971 tw_933 tw_135 (dcg dc_X4_simple 0 rfl) (show uc + 1 ≤ MC from (by have o0 := hm2.1; have o1 := hM; have o2 := hu; (try simp only [hX_sI, hX_sR, hX_sL, hX_sD, hX_sIa, hX_sRa, hV_sI, hV_sR, hV_sL, hV_sD, hV_sIa, hV_sRa, hX_new, hV_new] at o0 o1 o2 ⊢); omega)) (show us + 4 ≤ MS from (by have o0 := hm2.2; have o1 := hN; have o2 := hv; (try simp only [hX_sI, hX_sR, hX_sL, hX_sD, hX_sIa, hX_sRa, hV_sI, hV_sR, hV_sL, hV_sD, hV_sIa, hV_sRa, hX_new, hV_new] at o0 o1 o2 ⊢); omega)) ?_
  refine p_pick [0, 1, 2] ?_
  exact wX4_simple_b3 X hG hnm hM hN (by have o0 := hu; (try simp only [hX_sI, hX_sR, hX_sL, hX_sD, hX_sIa, hX_sRa, hV_sI, hV_sR, hV_sL, hV_sD, hV_sIa, hV_sRa, hX_new, hV_new] at o0 ⊢); omega) (by have o0 := hv; (try simp only [hX_sI, hX_sR, hX_sL, hX_sD, hX_sIa, hX_sRa, hV_sI, hV_sR, hV_sL, hV_sD, hV_sIa, hV_sRa, hX_new, hV_new] at o0 ⊢); omega) hf 
noncomputable def fX4_simple (v0 : Int32) (v1 : Option Nat) (v2 : Int32) (h : PH) : Option (Option Nat × PH) :=
  fX4_simple_b0 v0 v1 v2 h
set_option maxRecDepth 100000 in
theorem mX4_simple {v0 : Int32} {v1 : Option Nat} {v2 : Int32} {h : PH} {r : (Option Nat × PH)} (hf : fX4_simple v0 v1 v2 h = some r) : lez h (hX r.2) (hV r.2) := by
  unfold fX4_simple at hf
  have hle := lez_rf h
  exact lez_rt (mX4_simple_b0 hf) hle
set_option maxRecDepth 100000 in
theorem wX4_simple {E : PE} {l : Launch} (hG : Gs E l) {v0 : Int32} {v1 : Option Nat} {v2 : Int32} {h : PH} {r : (Option Nat × PH)} (hf : fX4_simple v0 v1 v2 h = some r) : Ct E l 5 ((hX r.2) - hX h) ((hV r.2) - hV h) yX4_simple cX4_simple 3 (some (.object "WordFinder$Node")) [.int v0, va_rf v1, .int v2] h (fun v u => v = some (va_rf r.1) ∧ u = r.2) := by
  have hmm := mX4_simple hf
  refine ct_of hG (by decide) (by simp [lg_sl, cat_rf, cat_r, cat_i, cat_l, cat_d, cat_f]) ?_
  intro p e s m args below meth c X hnm
  rw [show pargs 0 [.int v0, va_rf v1, .int v2] = [(0, some (.int v0)), (1, some (va_rf v1)), (2, some (.int v2))] from by simp [pargs, cat_rf, cat_r, cat_i, cat_l, cat_d, cat_f]]
  unfold fX4_simple at hf
  have hM := Nat.sub_add_cancel hmm.1
  have hN := Nat.sub_add_cancel hmm.2
  refine p_pick [0, 1, 2] ?_
  exact wX4_simple_b0 X hG hnm hM hN (Nat.zero_add _) (Nat.zero_add _) hf
theorem dc_X4_joined : decs cX4_joined [(0, .new 10, 3), (3, .dup, 1), (4, .iload_n 0, 1), (5, .getstatic 32, 3), (8, .iconst 0, 1), (9, .invokespecial 29, 3), (12, .areturn, 1)] = true := by decide +kernel
noncomputable def fX4_joined_b12 (t0 : Nat) (h : PH) : Option (Option Nat × PH) :=
  some (((some t0), h))
set_option maxRecDepth 100000 in
theorem mX4_joined_b12 {t0 : Nat} {h : PH} {r : (Option Nat × PH)} (hf : fX4_joined_b12 t0 h = some r) : lez h (hX r.2) (hV r.2) := by
  unfold fX4_joined_b12 at hf
  have hle := lez_rf h
  have ee := Option.some.inj hf; subst ee; exact hle
set_option maxRecDepth 100000 in
theorem wX4_joined_b12 {E : PE} {p : Program} {l : Launch} {e : Env} {s : State} {m : MethodId} {args : Array Value} {below : List Frame} {meth : Method} {c : Code} {X0 V0 MC MS uc us : Nat} (X : Cx E p l e (rmv 5 MC MS) s m args below meth c RX4 cX4_joined 1 (some (.object "WordFinder$Node"))) (hG : Gs E l) (hnm : meth.name = yX4_joined.name) {t0 : Nat} {h : PH} {r : (Option Nat × PH)} (hM : MC + X0 = (hX r.2)) (hN : MS + V0 = (hV r.2)) (hu : uc + X0 = hX h) (hv : us + V0 = hV h) (hf : fX4_joined_b12 t0 h = some r)  : PW E p l e (rmv 5 MC MS) s m args below meth c 1 uc us (MQ below (QG E (fun v u => v = some (va_rf r.1) ∧ u = r.2)) args s MC MS (pA E)) h 12 [] [.ref t0] := by
  have hm1 : lez h (hX r.2) (hV r.2) := mX4_joined_b12 hf
  have hcm : uc ≤ MC := (by have o0 := hm1.1; have o1 := hM; have o2 := hu; (try simp only [hX_sI, hX_sR, hX_sL, hX_sD, hX_sIa, hX_sRa, hV_sI, hV_sR, hV_sL, hV_sD, hV_sIa, hV_sRa, hX_new, hV_new] at o0 o1 o2 ⊢); omega)
  have hsm : us ≤ MS := (by have o0 := hm1.2; have o1 := hN; have o2 := hv; (try simp only [hX_sI, hX_sR, hX_sL, hX_sD, hX_sIa, hX_sRa, hV_sI, hV_sR, hV_sL, hV_sD, hV_sIa, hV_sRa, hX_new, hV_new] at o0 o1 o2 ⊢); omega)
  clear hm1
  unfold fX4_joined_b12 at hf
  have er := Option.some.inj hf
  subst er
  exact p_aret (r := some _) X rfl (Or.inl ⟨_, rfl⟩) (dcg dc_X4_joined 6 rfl) ⟨rfl, rfl⟩ hcm hsm
noncomputable def fX4_joined_b3 (v0 : Int32) (t0 : Nat) (h : PH) : Option (Option Nat × PH) :=
  bd (fX4_init t0 v0 (some 2) (0 : Int32) h) (fun z1 =>
  fX4_joined_b12 t0 z1)
set_option maxRecDepth 100000 in
theorem mX4_joined_b3 {v0 : Int32} {t0 : Nat} {h : PH} {r : (Option Nat × PH)} (hf : fX4_joined_b3 v0 t0 h = some r) : lez h (hX r.2) (hV r.2) := by
  unfold fX4_joined_b3 at hf
  have hle := lez_rf h
  obtain ⟨z1, hz1, hf⟩ := bd_some hf
  have hle := lez_rt (mX4_init hz1) hle
  exact lez_rt (mX4_joined_b12 hf) hle
set_option maxRecDepth 100000 in
theorem wX4_joined_b3 {E : PE} {p : Program} {l : Launch} {e : Env} {s : State} {m : MethodId} {args : Array Value} {below : List Frame} {meth : Method} {c : Code} {X0 V0 MC MS uc us : Nat} (X : Cx E p l e (rmv 5 MC MS) s m args below meth c RX4 cX4_joined 1 (some (.object "WordFinder$Node"))) (hG : Gs E l) (hnm : meth.name = yX4_joined.name) {v0 : Int32} {t0 : Nat} {h : PH} {r : (Option Nat × PH)} (hM : MC + X0 = (hX r.2)) (hN : MS + V0 = (hV r.2)) (hu : uc + X0 = hX h) (hv : us + V0 = hV h) (hf : fX4_joined_b3 v0 t0 h = some r)  : PW E p l e (rmv 5 MC MS) s m args below meth c 1 uc us (MQ below (QG E (fun v u => v = some (va_rf r.1) ∧ u = r.2)) args s MC MS (pA E)) h 3 [(0, some (.int v0))] [.ref t0] := by
  have hm1 : lez h (hX r.2) (hV r.2) := mX4_joined_b3 hf
  have hcm : uc ≤ MC := (by have o0 := hm1.1; have o1 := hM; have o2 := hu; (try simp only [hX_sI, hX_sR, hX_sL, hX_sD, hX_sIa, hX_sRa, hV_sI, hV_sR, hV_sL, hV_sD, hV_sIa, hV_sRa, hX_new, hV_new] at o0 o1 o2 ⊢); omega)
  have hsm : us ≤ MS := (by have o0 := hm1.2; have o1 := hN; have o2 := hv; (try simp only [hX_sI, hX_sR, hX_sL, hX_sD, hX_sIa, hX_sRa, hV_sI, hV_sR, hV_sL, hV_sD, hV_sIa, hV_sRa, hX_new, hV_new] at o0 o1 o2 ⊢); omega)
  clear hm1
  unfold fX4_joined_b3 at hf
  refine p_dup X (dcg dc_X4_joined 1 rfl) rfl ?_
  refine p_iload_n X (dcg dc_X4_joined 2 rfl) rfl rfl ?_
  refine p_gets (v := .ref 2) X (gz_now hG) tw_1548 (dcg dc_X4_joined 3 rfl) ?_
  refine p_iconst (v := 0) X (dcg dc_X4_joined 4 rfl) (by decide) ?_
  obtain ⟨z1, hz1, hf⟩ := bd_some hf
  have hc1 := mX4_init hz1
  have hm1 : lez _ (hX r.2) (hV r.2) := mX4_joined_b12 hf
  refine p_callI (As := [_, va_rf (some _), _]) (ret1 := none) X ml_X4_29 (dcg dc_X4_joined 5 rfl) rfl rfl  (wX4_init hG hz1) (by decide) (room4 (Nat.le_of_ble_eq_true rfl)) (by have o0 := hm1.1; have o1 := hc1.1; have o2 := hM; have o3 := hu; (try simp only [hX_sI, hX_sR, hX_sL, hX_sD, hX_sIa, hX_sRa, hV_sI, hV_sR, hV_sL, hV_sD, hV_sIa, hV_sRa, hX_new, hV_new] at o0 o1 o2 o3 ⊢); omega) (by have o0 := hm1.2; have o1 := hc1.2; have o2 := hN; have o3 := hv; (try simp only [hX_sI, hX_sR, hX_sL, hX_sD, hX_sIa, hX_sRa, hV_sI, hV_sR, hV_sL, hV_sD, hV_sIa, hV_sRa, hX_new, hV_new] at o0 o1 o2 o3 ⊢); omega) ?_
  rintro _ u9 ⟨rfl, e9⟩; have e9 := e9.symm; subst e9
  refine p_pick [] ?_
  exact wX4_joined_b12 X hG hnm hM hN (by have o0 := hc1.1; have o1 := hu; (try simp only [hX_sI, hX_sR, hX_sL, hX_sD, hX_sIa, hX_sRa, hV_sI, hV_sR, hV_sL, hV_sD, hV_sIa, hV_sRa, hX_new, hV_new] at o0 o1 ⊢); omega) (by have o0 := hc1.2; have o1 := hv; (try simp only [hX_sI, hX_sR, hX_sL, hX_sD, hX_sIa, hX_sRa, hV_sI, hV_sR, hV_sL, hV_sD, hV_sIa, hV_sRa, hX_new, hV_new] at o0 o1 ⊢); omega) hf 
noncomputable def fX4_joined_b0 (v0 : Int32) (h : PH) : Option (Option Nat × PH) :=
  fX4_joined_b3 v0 (hX h) (hnew h 4 4)
set_option maxRecDepth 100000 in
theorem mX4_joined_b0 {v0 : Int32} {h : PH} {r : (Option Nat × PH)} (hf : fX4_joined_b0 v0 h = some r) : lez h (hX r.2) (hV r.2) := by
  unfold fX4_joined_b0 at hf
  have hle := lez_rf h
  have hle := lez_nw (c := 4) (n := 4) hle
  exact lez_rt (mX4_joined_b3 hf) hle
set_option maxRecDepth 100000 in
theorem wX4_joined_b0 {E : PE} {p : Program} {l : Launch} {e : Env} {s : State} {m : MethodId} {args : Array Value} {below : List Frame} {meth : Method} {c : Code} {X0 V0 MC MS uc us : Nat} (X : Cx E p l e (rmv 5 MC MS) s m args below meth c RX4 cX4_joined 1 (some (.object "WordFinder$Node"))) (hG : Gs E l) (hnm : meth.name = yX4_joined.name) {v0 : Int32} {h : PH} {r : (Option Nat × PH)} (hM : MC + X0 = (hX r.2)) (hN : MS + V0 = (hV r.2)) (hu : uc + X0 = hX h) (hv : us + V0 = hV h) (hf : fX4_joined_b0 v0 h = some r)  : PW E p l e (rmv 5 MC MS) s m args below meth c 1 uc us (MQ below (QG E (fun v u => v = some (va_rf r.1) ∧ u = r.2)) args s MC MS (pA E)) h 0 [(0, some (.int v0))] [] := by
  have hm1 : lez h (hX r.2) (hV r.2) := mX4_joined_b0 hf
  have hcm : uc ≤ MC := (by have o0 := hm1.1; have o1 := hM; have o2 := hu; (try simp only [hX_sI, hX_sR, hX_sL, hX_sD, hX_sIa, hX_sRa, hV_sI, hV_sR, hV_sL, hV_sD, hV_sIa, hV_sRa, hX_new, hV_new] at o0 o1 o2 ⊢); omega)
  have hsm : us ≤ MS := (by have o0 := hm1.2; have o1 := hN; have o2 := hv; (try simp only [hX_sI, hX_sR, hX_sL, hX_sD, hX_sIa, hX_sRa, hV_sI, hV_sR, hV_sL, hV_sD, hV_sIa, hV_sRa, hX_new, hV_new] at o0 o1 o2 ⊢); omega)
  clear hm1
  unfold fX4_joined_b0 at hf
  have hm1 : lez _ (hX r.2) (hV r.2) := mX4_joined_b3 hf
  have hm2 := lez_new hm1
  refine p_newN (ci := 4) (q := (RX4, TX4, 4)) (n := 4) X rfl rfl (by decide) tw_971 tw_933 tw_135 (dcg dc_X4_joined 0 rfl) (show uc + 1 ≤ MC from (by have o0 := hm2.1; have o1 := hM; have o2 := hu; (try simp only [hX_sI, hX_sR, hX_sL, hX_sD, hX_sIa, hX_sRa, hV_sI, hV_sR, hV_sL, hV_sD, hV_sIa, hV_sRa, hX_new, hV_new] at o0 o1 o2 ⊢); omega)) (show us + 4 ≤ MS from (by have o0 := hm2.2; have o1 := hN; have o2 := hv; (try simp only [hX_sI, hX_sR, hX_sL, hX_sD, hX_sIa, hX_sRa, hV_sI, hV_sR, hV_sL, hV_sD, hV_sIa, hV_sRa, hX_new, hV_new] at o0 o1 o2 ⊢); omega)) ?_
  refine p_pick [0] ?_
  exact wX4_joined_b3 X hG hnm hM hN (by have o0 := hu; (try simp only [hX_sI, hX_sR, hX_sL, hX_sD, hX_sIa, hX_sRa, hV_sI, hV_sR, hV_sL, hV_sD, hV_sIa, hV_sRa, hX_new, hV_new] at o0 ⊢); omega) (by have o0 := hv; (try simp only [hX_sI, hX_sR, hX_sL, hX_sD, hX_sIa, hX_sRa, hV_sI, hV_sR, hV_sL, hV_sD, hV_sIa, hV_sRa, hX_new, hV_new] at o0 ⊢); omega) hf 
noncomputable def fX4_joined (v0 : Int32) (h : PH) : Option (Option Nat × PH) :=
  fX4_joined_b0 v0 h
set_option maxRecDepth 100000 in
theorem mX4_joined {v0 : Int32} {h : PH} {r : (Option Nat × PH)} (hf : fX4_joined v0 h = some r) : lez h (hX r.2) (hV r.2) := by
  unfold fX4_joined at hf
  have hle := lez_rf h
  exact lez_rt (mX4_joined_b0 hf) hle
set_option maxRecDepth 100000 in
theorem wX4_joined {E : PE} {l : Launch} (hG : Gs E l) {v0 : Int32} {h : PH} {r : (Option Nat × PH)} (hf : fX4_joined v0 h = some r) : Ct E l 5 ((hX r.2) - hX h) ((hV r.2) - hV h) yX4_joined cX4_joined 1 (some (.object "WordFinder$Node")) [.int v0] h (fun v u => v = some (va_rf r.1) ∧ u = r.2) := by
  have hmm := mX4_joined hf
  refine ct_of hG (by decide) (Nat.le_of_ble_eq_true rfl) ?_
  intro p e s m args below meth c X hnm
  show PW E p l e _ s m args below meth c _ 0 0 _ h 0 [(0, some (.int v0))] []
  unfold fX4_joined at hf
  have hM := Nat.sub_add_cancel hmm.1
  have hN := Nat.sub_add_cancel hmm.2
  refine p_pick [0] ?_
  exact wX4_joined_b0 X hG hnm hM hN (Nat.zero_add _) (Nat.zero_add _) hf
theorem dc_Jx4a65c_add_72be8 : decs cJx4a65c_add_72be8 [(0, .iload_n 3, 1), (1, .aload_n 2, 1), (2, .arraylength, 1), (3, .if_icmp .ne 8, 3), (6, .aload_n 0, 1), (7, .invokevirtual 129, 3), (10, .astore_n 2, 1), (11, .aload_n 2, 1), (12, .iload_n 3, 1), (13, .aload_n 1, 1), (14, .aastore, 1), (15, .aload_n 0, 1), (16, .iload_n 3, 1), (17, .iconst 1, 1), (18, .iadd, 1), (19, .putfield 48, 3), (22, .return_, 1)] = true := by decide +kernel
noncomputable def fJx4a65c_add_72be8_b11 (v0 : Nat) (v1 : Option Nat) (v2 : Option Nat) (v3 : Int32) (h : PH) : Option PH :=
  gs v2 (fun a4 =>
  gd (hK h a4 = 28 ∧ inb v3 (hN h a4)) (gd (okr h v1 = true) (lt (sR h 28 a4 (Int32.toNatClampNeg v3) v1) (fun h8 =>
  gd (hK h8 v0 = 14) (lt (sI h8 14 v0 2 (v3 + (1 : Int32))) (fun h11 =>
  some (h11)))))))
set_option maxRecDepth 100000 in
theorem mJx4a65c_add_72be8_b11 {v0 : Nat} {v1 : Option Nat} {v2 : Option Nat} {v3 : Int32} {h : PH} {r : PH} (hf : fJx4a65c_add_72be8_b11 v0 v1 v2 v3 h = some r) : lez h (hX r) (hV r) := by
  unfold fJx4a65c_add_72be8_b11 at hf
  have hle := lez_rf h
  obtain ⟨a4, e5, hf⟩ := gs_some hf
  obtain ⟨⟨hk7, hb6⟩, hf⟩ := gd_some hf
  obtain ⟨hg9, hf⟩ := gd_some hf
  obtain ⟨h8, rfl, hf⟩ := lt_some hf
  obtain ⟨hk10, hf⟩ := gd_some hf
  obtain ⟨h11, rfl, hf⟩ := lt_some hf
  have ee := Option.some.inj hf; subst ee; exact hle
set_option maxRecDepth 100000 in
theorem wJx4a65c_add_72be8_b11 {E : PE} {p : Program} {l : Launch} {e : Env} {s : State} {m : MethodId} {args : Array Value} {below : List Frame} {meth : Method} {c : Code} {X0 V0 MC MS uc us : Nat} (X : Cx E p l e (rmv 5 MC MS) s m args below meth c RJx4a65c cJx4a65c_add_72be8 4 (none)) (hG : Gs E l) (hnm : meth.name = yJx4a65c_add_72be8.name) {v0 : Nat} {v1 : Option Nat} {v2 : Option Nat} {v3 : Int32} {h : PH} {r : PH} (hM : MC + X0 = (hX r)) (hN : MS + V0 = (hV r)) (hu : uc + X0 = hX h) (hv : us + V0 = hV h) (hf : fJx4a65c_add_72be8_b11 v0 v1 v2 v3 h = some r)  : PW E p l e (rmv 5 MC MS) s m args below meth c 4 uc us (MQ below (QG E (fun v u => v = none ∧ u = r)) args s MC MS (pA E)) h 11 [(0, some (.ref v0)), (1, some (va_rf v1)), (2, some (va_rf v2)), (3, some (.int v3))] [] := by
  have hm1 : lez h (hX r) (hV r) := mJx4a65c_add_72be8_b11 hf
  have hcm : uc ≤ MC := (by have o0 := hm1.1; have o1 := hM; have o2 := hu; (try simp only [hX_sI, hX_sR, hX_sL, hX_sD, hX_sIa, hX_sRa, hV_sI, hV_sR, hV_sL, hV_sD, hV_sIa, hV_sRa, hX_new, hV_new] at o0 o1 o2 ⊢); omega)
  have hsm : us ≤ MS := (by have o0 := hm1.2; have o1 := hN; have o2 := hv; (try simp only [hX_sI, hX_sR, hX_sL, hX_sD, hX_sIa, hX_sRa, hV_sI, hV_sR, hV_sL, hV_sD, hV_sIa, hV_sRa, hX_new, hV_new] at o0 o1 o2 ⊢); omega)
  clear hm1
  unfold fJx4a65c_add_72be8_b11 at hf
  refine p_aloadq_n X (dcg dc_Jx4a65c_add_72be8 7 rfl) rfl rfl ?_
  refine p_iload_n X (dcg dc_Jx4a65c_add_72be8 8 rfl) rfl rfl ?_
  refine p_aloadq_n X (dcg dc_Jx4a65c_add_72be8 9 rfl) rfl rfl ?_
  obtain ⟨a4, e5, hf⟩ := gs_some hf
  first | subst e5 | (try rw [e5])
  obtain ⟨⟨hk7, hb6⟩, hf⟩ := gd_some hf
  obtain ⟨hg9, hf⟩ := gd_some hf
  refine p_aast28 X (dcg dc_Jx4a65c_add_72be8 10 rfl) hk7 (vp_of_inb hb6) hg9 ?_
  obtain ⟨h8, rfl, hf⟩ := lt_some hf
  refine p_aload_n X (dcg dc_Jx4a65c_add_72be8 11 rfl) rfl rfl ?_
  refine p_iload_n X (dcg dc_Jx4a65c_add_72be8 12 rfl) rfl rfl ?_
  refine p_iconst (v := 1) X (dcg dc_Jx4a65c_add_72be8 13 rfl) (by decide) ?_
  refine p_iadd X (dcg dc_Jx4a65c_add_72be8 14 rfl) ?_
  obtain ⟨hk10, hf⟩ := gd_some hf
  refine p_putI X fl_Jx4a65c_48 rfl (by decide) (fun q hq => by cases hq; rfl) rfl rfl (dcg dc_Jx4a65c_add_72be8 15 rfl) hk10 ?_
  obtain ⟨h11, rfl, hf⟩ := lt_some hf
  have er := Option.some.inj hf
  subst er
  exact p_vret X rfl (dcg dc_Jx4a65c_add_72be8 16 rfl) ⟨rfl, rfl⟩ hcm hsm
noncomputable def fJx4a65c_add_72be8_b10 (v0 : Nat) (v1 : Option Nat) (v3 : Int32) (t0 : Option Nat) (h : PH) : Option PH :=
  fJx4a65c_add_72be8_b11 v0 v1 t0 v3 h
set_option maxRecDepth 100000 in
theorem mJx4a65c_add_72be8_b10 {v0 : Nat} {v1 : Option Nat} {v3 : Int32} {t0 : Option Nat} {h : PH} {r : PH} (hf : fJx4a65c_add_72be8_b10 v0 v1 v3 t0 h = some r) : lez h (hX r) (hV r) := by
  unfold fJx4a65c_add_72be8_b10 at hf
  have hle := lez_rf h
  exact lez_rt (mJx4a65c_add_72be8_b11 hf) hle
set_option maxRecDepth 100000 in
theorem wJx4a65c_add_72be8_b10 {E : PE} {p : Program} {l : Launch} {e : Env} {s : State} {m : MethodId} {args : Array Value} {below : List Frame} {meth : Method} {c : Code} {X0 V0 MC MS uc us : Nat} (X : Cx E p l e (rmv 5 MC MS) s m args below meth c RJx4a65c cJx4a65c_add_72be8 4 (none)) (hG : Gs E l) (hnm : meth.name = yJx4a65c_add_72be8.name) {v0 : Nat} {v1 : Option Nat} {v3 : Int32} {t0 : Option Nat} {h : PH} {r : PH} (hM : MC + X0 = (hX r)) (hN : MS + V0 = (hV r)) (hu : uc + X0 = hX h) (hv : us + V0 = hV h) (hf : fJx4a65c_add_72be8_b10 v0 v1 v3 t0 h = some r)  : PW E p l e (rmv 5 MC MS) s m args below meth c 4 uc us (MQ below (QG E (fun v u => v = none ∧ u = r)) args s MC MS (pA E)) h 10 [(0, some (.ref v0)), (1, some (va_rf v1)), (3, some (.int v3))] [va_rf t0] := by
  have hm1 : lez h (hX r) (hV r) := mJx4a65c_add_72be8_b10 hf
  have hcm : uc ≤ MC := (by have o0 := hm1.1; have o1 := hM; have o2 := hu; (try simp only [hX_sI, hX_sR, hX_sL, hX_sD, hX_sIa, hX_sRa, hV_sI, hV_sR, hV_sL, hV_sD, hV_sIa, hV_sRa, hX_new, hV_new] at o0 o1 o2 ⊢); omega)
  have hsm : us ≤ MS := (by have o0 := hm1.2; have o1 := hN; have o2 := hv; (try simp only [hX_sI, hX_sR, hX_sL, hX_sD, hX_sIa, hX_sRa, hV_sI, hV_sR, hV_sL, hV_sD, hV_sIa, hV_sRa, hX_new, hV_new] at o0 o1 o2 ⊢); omega)
  clear hm1
  unfold fJx4a65c_add_72be8_b10 at hf
  refine p_astoreq_n X (dcg dc_Jx4a65c_add_72be8 6 rfl) rfl (by decide) (nwq (k := 1) rfl) ?_
  refine p_pick [0, 1, 2, 3] ?_
  exact wJx4a65c_add_72be8_b11 X hG hnm hM hN hu hv hf 
noncomputable def fJx4a65c_add_72be8_b0 (v0 : Nat) (v1 : Option Nat) (v2 : Option Nat) (v3 : Int32) (h : PH) : Option PH :=
  gs v2 (fun a1 =>
  gd (hK h a1 = 28) (if (¬ v3 = (nI (hN h a1))) then (fJx4a65c_add_72be8_b11 v0 v1 (some a1) v3 h) else
  gd (hK h v0 = 14) (bd (fJx4a65c_grow_d5877 v0 h) (fun z13 =>
  fJx4a65c_add_72be8_b10 v0 v1 v3 z13.1 z13.2))))
set_option maxRecDepth 100000 in
theorem mJx4a65c_add_72be8_b0 {v0 : Nat} {v1 : Option Nat} {v2 : Option Nat} {v3 : Int32} {h : PH} {r : PH} (hf : fJx4a65c_add_72be8_b0 v0 v1 v2 v3 h = some r) : lez h (hX r) (hV r) := by
  unfold fJx4a65c_add_72be8_b0 at hf
  have hle := lez_rf h
  obtain ⟨a1, e2, hf⟩ := gs_some hf
  obtain ⟨hk3, hf⟩ := gd_some hf
  rcases ite_or hf with ⟨q, hf⟩ | ⟨q, hf⟩
  · have hf := if_t q hf
    exact lez_rt (mJx4a65c_add_72be8_b11 hf) hle
  · have hf := if_f q hf
    obtain ⟨hk12, hf⟩ := gd_some hf
    obtain ⟨z13, hz13, hf⟩ := bd_some hf
    have hle := lez_rt (mJx4a65c_grow_d5877 hz13) hle
    exact lez_rt (mJx4a65c_add_72be8_b10 hf) hle
set_option maxRecDepth 100000 in
theorem wJx4a65c_add_72be8_b0 {E : PE} {p : Program} {l : Launch} {e : Env} {s : State} {m : MethodId} {args : Array Value} {below : List Frame} {meth : Method} {c : Code} {X0 V0 MC MS uc us : Nat} (X : Cx E p l e (rmv 5 MC MS) s m args below meth c RJx4a65c cJx4a65c_add_72be8 4 (none)) (hG : Gs E l) (hnm : meth.name = yJx4a65c_add_72be8.name) {v0 : Nat} {v1 : Option Nat} {v2 : Option Nat} {v3 : Int32} {h : PH} {r : PH} (hM : MC + X0 = (hX r)) (hN : MS + V0 = (hV r)) (hu : uc + X0 = hX h) (hv : us + V0 = hV h) (hf : fJx4a65c_add_72be8_b0 v0 v1 v2 v3 h = some r)  : PW E p l e (rmv 5 MC MS) s m args below meth c 4 uc us (MQ below (QG E (fun v u => v = none ∧ u = r)) args s MC MS (pA E)) h 0 [(0, some (.ref v0)), (1, some (va_rf v1)), (2, some (va_rf v2)), (3, some (.int v3))] [] := by
  have hm1 : lez h (hX r) (hV r) := mJx4a65c_add_72be8_b0 hf
  have hcm : uc ≤ MC := (by have o0 := hm1.1; have o1 := hM; have o2 := hu; (try simp only [hX_sI, hX_sR, hX_sL, hX_sD, hX_sIa, hX_sRa, hV_sI, hV_sR, hV_sL, hV_sD, hV_sIa, hV_sRa, hX_new, hV_new] at o0 o1 o2 ⊢); omega)
  have hsm : us ≤ MS := (by have o0 := hm1.2; have o1 := hN; have o2 := hv; (try simp only [hX_sI, hX_sR, hX_sL, hX_sD, hX_sIa, hX_sRa, hV_sI, hV_sR, hV_sL, hV_sD, hV_sIa, hV_sRa, hX_new, hV_new] at o0 o1 o2 ⊢); omega)
  clear hm1
  unfold fJx4a65c_add_72be8_b0 at hf
  refine p_iload_n X (dcg dc_Jx4a65c_add_72be8 0 rfl) rfl rfl ?_
  refine p_aloadq_n X (dcg dc_Jx4a65c_add_72be8 1 rfl) rfl rfl ?_
  obtain ⟨a1, e2, hf⟩ := gs_some hf
  first | subst e2 | (try rw [e2])
  obtain ⟨hk3, hf⟩ := gd_some hf
  refine p_alen28 X (dcg dc_Jx4a65c_add_72be8 2 rfl) hk3 ?_
  refine p_icmp_ne (tgt := 11) X (dcg dc_Jx4a65c_add_72be8 3 rfl) (by decide) (fun q => ?_) (fun q => ?_)
  · have hf := if_t q hf
    refine p_pick [0, 1, 2, 3] ?_
    exact wJx4a65c_add_72be8_b11 X hG hnm hM hN hu hv hf 
  · have hf := if_f q hf
    refine p_aload_n X (dcg dc_Jx4a65c_add_72be8 4 rfl) rfl rfl ?_
    obtain ⟨hk12, hf⟩ := gd_some hf
    obtain ⟨z13, hz13, hf⟩ := bd_some hf
    have hc1 := mJx4a65c_grow_d5877 hz13
    have hm1 : lez _ (hX r) (hV r) := mJx4a65c_add_72be8_b10 hf
    refine p_callV (As := []) X ml_Jx4a65c_129 (dcg dc_Jx4a65c_add_72be8 5 rfl) rfl rfl hk12 (wJx4a65c_grow_d5877 hG hz13) (by decide) (room4 (Nat.le_of_ble_eq_true rfl)) (by have o0 := hm1.1; have o1 := hc1.1; have o2 := hM; have o3 := hu; (try simp only [hX_sI, hX_sR, hX_sL, hX_sD, hX_sIa, hX_sRa, hV_sI, hV_sR, hV_sL, hV_sD, hV_sIa, hV_sRa, hX_new, hV_new] at o0 o1 o2 o3 ⊢); omega) (by have o0 := hm1.2; have o1 := hc1.2; have o2 := hN; have o3 := hv; (try simp only [hX_sI, hX_sR, hX_sL, hX_sD, hX_sIa, hX_sRa, hV_sI, hV_sR, hV_sL, hV_sD, hV_sIa, hV_sRa, hX_new, hV_new] at o0 o1 o2 o3 ⊢); omega) ?_
    rintro _ u9 ⟨rfl, e9⟩; have e9 := e9.symm; subst e9
    refine p_pick [0, 1, 3] ?_
    exact wJx4a65c_add_72be8_b10 X hG hnm hM hN (by have o0 := hc1.1; have o1 := hu; (try simp only [hX_sI, hX_sR, hX_sL, hX_sD, hX_sIa, hX_sRa, hV_sI, hV_sR, hV_sL, hV_sD, hV_sIa, hV_sRa, hX_new, hV_new] at o0 o1 ⊢); omega) (by have o0 := hc1.2; have o1 := hv; (try simp only [hX_sI, hX_sR, hX_sL, hX_sD, hX_sIa, hX_sRa, hV_sI, hV_sR, hV_sL, hV_sD, hV_sIa, hV_sRa, hX_new, hV_new] at o0 o1 ⊢); omega) hf 
noncomputable def fJx4a65c_add_72be8 (v0 : Nat) (v1 : Option Nat) (v2 : Option Nat) (v3 : Int32) (h : PH) : Option PH :=
  fJx4a65c_add_72be8_b0 v0 v1 v2 v3 h
set_option maxRecDepth 100000 in
theorem mJx4a65c_add_72be8 {v0 : Nat} {v1 : Option Nat} {v2 : Option Nat} {v3 : Int32} {h : PH} {r : PH} (hf : fJx4a65c_add_72be8 v0 v1 v2 v3 h = some r) : lez h (hX r) (hV r) := by
  unfold fJx4a65c_add_72be8 at hf
  have hle := lez_rf h
  exact lez_rt (mJx4a65c_add_72be8_b0 hf) hle
set_option maxRecDepth 100000 in
theorem wJx4a65c_add_72be8 {E : PE} {l : Launch} (hG : Gs E l) {v0 : Nat} {v1 : Option Nat} {v2 : Option Nat} {v3 : Int32} {h : PH} {r : PH} (hf : fJx4a65c_add_72be8 v0 v1 v2 v3 h = some r) : Ct E l 5 ((hX r) - hX h) ((hV r) - hV h) yJx4a65c_add_72be8 cJx4a65c_add_72be8 4 (none) [.ref v0, va_rf v1, va_rf v2, .int v3] h (fun v u => v = none ∧ u = r) := by
  have hmm := mJx4a65c_add_72be8 hf
  refine ct_of hG (by decide) (by simp [lg_sl, cat_rf, cat_r, cat_i, cat_l, cat_d, cat_f]) ?_
  intro p e s m args below meth c X hnm
  rw [show pargs 0 [.ref v0, va_rf v1, va_rf v2, .int v3] = [(0, some (.ref v0)), (1, some (va_rf v1)), (2, some (va_rf v2)), (3, some (.int v3))] from by simp [pargs, cat_rf, cat_r, cat_i, cat_l, cat_d, cat_f]]
  unfold fJx4a65c_add_72be8 at hf
  have hM := Nat.sub_add_cancel hmm.1
  have hN := Nat.sub_add_cancel hmm.2
  refine p_pick [0, 1, 2, 3] ?_
  exact wJx4a65c_add_72be8_b0 X hG hnm hM hN (Nat.zero_add _) (Nat.zero_add _) hf
theorem dc_Jx4a65c_add_9ea2d : decs cJx4a65c_add_9ea2d [(0, .aload_n 0, 1), (1, .dup, 1), (2, .getfield 63, 3), (5, .iconst 1, 1), (6, .iadd, 1), (7, .putfield 63, 3), (10, .aload_n 0, 1), (11, .aload_n 1, 1), (12, .aload_n 0, 1), (13, .getfield 9, 3), (16, .aload_n 0, 1), (17, .getfield 48, 3), (20, .invokevirtual 131, 3), (23, .iconst 1, 1), (24, .ireturn, 1)] = true := by decide +kernel
noncomputable def fJx4a65c_add_9ea2d_b23  (h : PH) : Option (Int32 × PH) :=
  some (((1 : Int32), h))
set_option maxRecDepth 100000 in
theorem mJx4a65c_add_9ea2d_b23  {h : PH} {r : (Int32 × PH)} (hf : fJx4a65c_add_9ea2d_b23  h = some r) : lez h (hX r.2) (hV r.2) := by
  unfold fJx4a65c_add_9ea2d_b23 at hf
  have hle := lez_rf h
  have ee := Option.some.inj hf; subst ee; exact hle
set_option maxRecDepth 100000 in
theorem wJx4a65c_add_9ea2d_b23 {E : PE} {p : Program} {l : Launch} {e : Env} {s : State} {m : MethodId} {args : Array Value} {below : List Frame} {meth : Method} {c : Code} {X0 V0 MC MS uc us : Nat} (X : Cx E p l e (rmv 6 MC MS) s m args below meth c RJx4a65c cJx4a65c_add_9ea2d 2 (some .boolean)) (hG : Gs E l) (hnm : meth.name = yJx4a65c_add_9ea2d.name)  {h : PH} {r : (Int32 × PH)} (hM : MC + X0 = (hX r.2)) (hN : MS + V0 = (hV r.2)) (hu : uc + X0 = hX h) (hv : us + V0 = hV h) (hf : fJx4a65c_add_9ea2d_b23  h = some r)  : PW E p l e (rmv 6 MC MS) s m args below meth c 2 uc us (MQ below (QG E (fun v u => v = some (.int r.1) ∧ u = r.2)) args s MC MS (pA E)) h 23 [] [] := by
  have hm1 : lez h (hX r.2) (hV r.2) := mJx4a65c_add_9ea2d_b23 hf
  have hcm : uc ≤ MC := (by have o0 := hm1.1; have o1 := hM; have o2 := hu; (try simp only [hX_sI, hX_sR, hX_sL, hX_sD, hX_sIa, hX_sRa, hV_sI, hV_sR, hV_sL, hV_sD, hV_sIa, hV_sRa, hX_new, hV_new] at o0 o1 o2 ⊢); omega)
  have hsm : us ≤ MS := (by have o0 := hm1.2; have o1 := hN; have o2 := hv; (try simp only [hX_sI, hX_sR, hX_sL, hX_sD, hX_sIa, hX_sRa, hV_sI, hV_sR, hV_sL, hV_sD, hV_sIa, hV_sRa, hX_new, hV_new] at o0 o1 o2 ⊢); omega)
  clear hm1
  unfold fJx4a65c_add_9ea2d_b23 at hf
  refine p_iconst (v := 1) X (dcg dc_Jx4a65c_add_9ea2d 13 rfl) (by decide) ?_
  have er := Option.some.inj hf
  subst er
  exact p_zret X rfl rfl (dcg dc_Jx4a65c_add_9ea2d 14 rfl) ⟨rfl, rfl⟩ hcm hsm
noncomputable def fJx4a65c_add_9ea2d_b0 (v0 : Nat) (v1 : Option Nat) (h : PH) : Option (Int32 × PH) :=
  gd (hK h v0 = 14) (lt (sI h 14 v0 0 ((hI h 14 v0 0) + (1 : Int32))) (fun h2 =>
  bd (fJx4a65c_add_72be8 v0 v1 (hR h2 14 v0 1) (hI h2 14 v0 2) h2) (fun z3 =>
  fJx4a65c_add_9ea2d_b23  z3)))
set_option maxRecDepth 100000 in
theorem mJx4a65c_add_9ea2d_b0 {v0 : Nat} {v1 : Option Nat} {h : PH} {r : (Int32 × PH)} (hf : fJx4a65c_add_9ea2d_b0 v0 v1 h = some r) : lez h (hX r.2) (hV r.2) := by
  unfold fJx4a65c_add_9ea2d_b0 at hf
  have hle := lez_rf h
  obtain ⟨hk1, hf⟩ := gd_some hf
  obtain ⟨h2, rfl, hf⟩ := lt_some hf
  obtain ⟨z3, hz3, hf⟩ := bd_some hf
  have hle := lez_rt (mJx4a65c_add_72be8 hz3) hle
  exact lez_rt (mJx4a65c_add_9ea2d_b23 hf) hle
set_option maxRecDepth 100000 in
theorem wJx4a65c_add_9ea2d_b0 {E : PE} {p : Program} {l : Launch} {e : Env} {s : State} {m : MethodId} {args : Array Value} {below : List Frame} {meth : Method} {c : Code} {X0 V0 MC MS uc us : Nat} (X : Cx E p l e (rmv 6 MC MS) s m args below meth c RJx4a65c cJx4a65c_add_9ea2d 2 (some .boolean)) (hG : Gs E l) (hnm : meth.name = yJx4a65c_add_9ea2d.name) {v0 : Nat} {v1 : Option Nat} {h : PH} {r : (Int32 × PH)} (hM : MC + X0 = (hX r.2)) (hN : MS + V0 = (hV r.2)) (hu : uc + X0 = hX h) (hv : us + V0 = hV h) (hf : fJx4a65c_add_9ea2d_b0 v0 v1 h = some r)  : PW E p l e (rmv 6 MC MS) s m args below meth c 2 uc us (MQ below (QG E (fun v u => v = some (.int r.1) ∧ u = r.2)) args s MC MS (pA E)) h 0 [(0, some (.ref v0)), (1, some (va_rf v1))] [] := by
  have hm1 : lez h (hX r.2) (hV r.2) := mJx4a65c_add_9ea2d_b0 hf
  have hcm : uc ≤ MC := (by have o0 := hm1.1; have o1 := hM; have o2 := hu; (try simp only [hX_sI, hX_sR, hX_sL, hX_sD, hX_sIa, hX_sRa, hV_sI, hV_sR, hV_sL, hV_sD, hV_sIa, hV_sRa, hX_new, hV_new] at o0 o1 o2 ⊢); omega)
  have hsm : us ≤ MS := (by have o0 := hm1.2; have o1 := hN; have o2 := hv; (try simp only [hX_sI, hX_sR, hX_sL, hX_sD, hX_sIa, hX_sRa, hV_sI, hV_sR, hV_sL, hV_sD, hV_sIa, hV_sRa, hX_new, hV_new] at o0 o1 o2 ⊢); omega)
  clear hm1
  unfold fJx4a65c_add_9ea2d_b0 at hf
  refine p_aload_n X (dcg dc_Jx4a65c_add_9ea2d 0 rfl) rfl rfl ?_
  refine p_dup X (dcg dc_Jx4a65c_add_9ea2d 1 rfl) rfl ?_
  obtain ⟨hk1, hf⟩ := gd_some hf
  refine p_getI X fl_Jx4a65c_63 rfl (by decide) (dcg dc_Jx4a65c_add_9ea2d 2 rfl) hk1 ?_
  refine p_iconst (v := 1) X (dcg dc_Jx4a65c_add_9ea2d 3 rfl) (by decide) ?_
  refine p_iadd X (dcg dc_Jx4a65c_add_9ea2d 4 rfl) ?_
  refine p_putI X fl_Jx4a65c_63 rfl (by decide) (fun q hq => by cases hq; rfl) rfl rfl (dcg dc_Jx4a65c_add_9ea2d 5 rfl) hk1 ?_
  obtain ⟨h2, rfl, hf⟩ := lt_some hf
  refine p_aload_n X (dcg dc_Jx4a65c_add_9ea2d 6 rfl) rfl rfl ?_
  refine p_aloadq_n X (dcg dc_Jx4a65c_add_9ea2d 7 rfl) rfl rfl ?_
  refine p_aload_n X (dcg dc_Jx4a65c_add_9ea2d 8 rfl) rfl rfl ?_
  refine p_getR X fl_Jx4a65c_9 rfl (by decide) (dcg dc_Jx4a65c_add_9ea2d 9 rfl) hk1 ?_
  refine p_aload_n X (dcg dc_Jx4a65c_add_9ea2d 10 rfl) rfl rfl ?_
  refine p_getI X fl_Jx4a65c_48 rfl (by decide) (dcg dc_Jx4a65c_add_9ea2d 11 rfl) hk1 ?_
  obtain ⟨z3, hz3, hf⟩ := bd_some hf
  have hc1 := mJx4a65c_add_72be8 hz3
  have hm1 : lez _ (hX r.2) (hV r.2) := mJx4a65c_add_9ea2d_b23 hf
  refine p_callV (As := [va_rf _, va_rf _, _]) X ml_Jx4a65c_131 (dcg dc_Jx4a65c_add_9ea2d 12 rfl) rfl rfl hk1 (wJx4a65c_add_72be8 hG hz3) (by decide) (room4 (Nat.le_of_ble_eq_true rfl)) (by have o0 := hm1.1; have o1 := hc1.1; have o2 := hM; have o3 := hu; (try simp only [hX_sI, hX_sR, hX_sL, hX_sD, hX_sIa, hX_sRa, hV_sI, hV_sR, hV_sL, hV_sD, hV_sIa, hV_sRa, hX_new, hV_new] at o0 o1 o2 o3 ⊢); omega) (by have o0 := hm1.2; have o1 := hc1.2; have o2 := hN; have o3 := hv; (try simp only [hX_sI, hX_sR, hX_sL, hX_sD, hX_sIa, hX_sRa, hV_sI, hV_sR, hV_sL, hV_sD, hV_sIa, hV_sRa, hX_new, hV_new] at o0 o1 o2 o3 ⊢); omega) ?_
  rintro _ u9 ⟨rfl, e9⟩; have e9 := e9.symm; subst e9
  refine p_pick [] ?_
  exact wJx4a65c_add_9ea2d_b23 X hG hnm hM hN (by have o0 := hc1.1; have o1 := hu; (try simp only [hX_sI, hX_sR, hX_sL, hX_sD, hX_sIa, hX_sRa, hV_sI, hV_sR, hV_sL, hV_sD, hV_sIa, hV_sRa, hX_new, hV_new] at o0 o1 ⊢); omega) (by have o0 := hc1.2; have o1 := hv; (try simp only [hX_sI, hX_sR, hX_sL, hX_sD, hX_sIa, hX_sRa, hV_sI, hV_sR, hV_sL, hV_sD, hV_sIa, hV_sRa, hX_new, hV_new] at o0 o1 ⊢); omega) hf 
noncomputable def fJx4a65c_add_9ea2d (v0 : Nat) (v1 : Option Nat) (h : PH) : Option (Int32 × PH) :=
  fJx4a65c_add_9ea2d_b0 v0 v1 h
set_option maxRecDepth 100000 in
theorem mJx4a65c_add_9ea2d {v0 : Nat} {v1 : Option Nat} {h : PH} {r : (Int32 × PH)} (hf : fJx4a65c_add_9ea2d v0 v1 h = some r) : lez h (hX r.2) (hV r.2) := by
  unfold fJx4a65c_add_9ea2d at hf
  have hle := lez_rf h
  exact lez_rt (mJx4a65c_add_9ea2d_b0 hf) hle
set_option maxRecDepth 100000 in
theorem wJx4a65c_add_9ea2d {E : PE} {l : Launch} (hG : Gs E l) {v0 : Nat} {v1 : Option Nat} {h : PH} {r : (Int32 × PH)} (hf : fJx4a65c_add_9ea2d v0 v1 h = some r) : Ct E l 6 ((hX r.2) - hX h) ((hV r.2) - hV h) yJx4a65c_add_9ea2d cJx4a65c_add_9ea2d 2 (some .boolean) [.ref v0, va_rf v1] h (fun v u => v = some (.int r.1) ∧ u = r.2) := by
  have hmm := mJx4a65c_add_9ea2d hf
  refine ct_of hG (by decide) (by simp [lg_sl, cat_rf, cat_r, cat_i, cat_l, cat_d, cat_f]) ?_
  intro p e s m args below meth c X hnm
  rw [show pargs 0 [.ref v0, va_rf v1] = [(0, some (.ref v0)), (1, some (va_rf v1))] from by simp [pargs, cat_rf, cat_r, cat_i, cat_l, cat_d, cat_f]]
  unfold fJx4a65c_add_9ea2d at hf
  have hM := Nat.sub_add_cancel hmm.1
  have hN := Nat.sub_add_cancel hmm.2
  refine p_pick [0, 1] ?_
  exact wJx4a65c_add_9ea2d_b0 X hG hnm hM hN (Nat.zero_add _) (Nat.zero_add _) hf
theorem dc_X4_not : decs cX4_not [(0, .iconst 4, 1), (1, .invokestatic 35, 3), (4, .astore_n 1, 1), (5, .aload_n 1, 1), (6, .getfield 25, 3), (9, .aload_n 0, 1), (10, .invokevirtual 39, 3), (13, .pop, 1), (14, .aload_n 1, 1), (15, .areturn, 1)] = true := by decide +kernel
noncomputable def fX4_not_b13 (v1 : Option Nat) (t0 : Int32) (h : PH) : Option (Option Nat × PH) :=
  some ((v1, h))
set_option maxRecDepth 100000 in
theorem mX4_not_b13 {v1 : Option Nat} {t0 : Int32} {h : PH} {r : (Option Nat × PH)} (hf : fX4_not_b13 v1 t0 h = some r) : lez h (hX r.2) (hV r.2) := by
  unfold fX4_not_b13 at hf
  have hle := lez_rf h
  have ee := Option.some.inj hf; subst ee; exact hle
set_option maxRecDepth 100000 in
theorem wX4_not_b13 {E : PE} {p : Program} {l : Launch} {e : Env} {s : State} {m : MethodId} {args : Array Value} {below : List Frame} {meth : Method} {c : Code} {X0 V0 MC MS uc us : Nat} (X : Cx E p l e (rmv 7 MC MS) s m args below meth c RX4 cX4_not 2 (some (.object "WordFinder$Node"))) (hG : Gs E l) (hnm : meth.name = yX4_not.name) {v1 : Option Nat} {t0 : Int32} {h : PH} {r : (Option Nat × PH)} (hM : MC + X0 = (hX r.2)) (hN : MS + V0 = (hV r.2)) (hu : uc + X0 = hX h) (hv : us + V0 = hV h) (hf : fX4_not_b13 v1 t0 h = some r)  : PW E p l e (rmv 7 MC MS) s m args below meth c 2 uc us (MQ below (QG E (fun v u => v = some (va_rf r.1) ∧ u = r.2)) args s MC MS (pA E)) h 13 [(1, some (va_rf v1))] [.int t0] := by
  have hm1 : lez h (hX r.2) (hV r.2) := mX4_not_b13 hf
  have hcm : uc ≤ MC := (by have o0 := hm1.1; have o1 := hM; have o2 := hu; (try simp only [hX_sI, hX_sR, hX_sL, hX_sD, hX_sIa, hX_sRa, hV_sI, hV_sR, hV_sL, hV_sD, hV_sIa, hV_sRa, hX_new, hV_new] at o0 o1 o2 ⊢); omega)
  have hsm : us ≤ MS := (by have o0 := hm1.2; have o1 := hN; have o2 := hv; (try simp only [hX_sI, hX_sR, hX_sL, hX_sD, hX_sIa, hX_sRa, hV_sI, hV_sR, hV_sL, hV_sD, hV_sIa, hV_sRa, hX_new, hV_new] at o0 o1 o2 ⊢); omega)
  clear hm1
  unfold fX4_not_b13 at hf
  refine p_pop X (dcg dc_X4_not 7 rfl) rfl ?_
  refine p_aloadq_n X (dcg dc_X4_not 8 rfl) rfl rfl ?_
  have er := Option.some.inj hf
  subst er
  exact p_aret X rfl (Or.inl ⟨_, rfl⟩) (dcg dc_X4_not 9 rfl) ⟨rfl, rfl⟩ hcm hsm
noncomputable def fX4_not_b4 (v0 : Option Nat) (t0 : Option Nat) (h : PH) : Option (Option Nat × PH) :=
  gs t0 (fun a2 =>
  gd (hK h a2 = 4) (gs (hR h 4 a2 3) (fun a5 =>
  gd (hK h a5 = 14) (bd (fJx4a65c_add_9ea2d a5 v0 h) (fun z8 =>
  fX4_not_b13 (some a2) z8.1 z8.2)))))
set_option maxRecDepth 100000 in
theorem mX4_not_b4 {v0 : Option Nat} {t0 : Option Nat} {h : PH} {r : (Option Nat × PH)} (hf : fX4_not_b4 v0 t0 h = some r) : lez h (hX r.2) (hV r.2) := by
  unfold fX4_not_b4 at hf
  have hle := lez_rf h
  obtain ⟨a2, e3, hf⟩ := gs_some hf
  obtain ⟨hk4, hf⟩ := gd_some hf
  obtain ⟨a5, e6, hf⟩ := gs_some hf
  obtain ⟨hk7, hf⟩ := gd_some hf
  obtain ⟨z8, hz8, hf⟩ := bd_some hf
  have hle := lez_rt (mJx4a65c_add_9ea2d hz8) hle
  exact lez_rt (mX4_not_b13 hf) hle
set_option maxRecDepth 100000 in
theorem wX4_not_b4 {E : PE} {p : Program} {l : Launch} {e : Env} {s : State} {m : MethodId} {args : Array Value} {below : List Frame} {meth : Method} {c : Code} {X0 V0 MC MS uc us : Nat} (X : Cx E p l e (rmv 7 MC MS) s m args below meth c RX4 cX4_not 2 (some (.object "WordFinder$Node"))) (hG : Gs E l) (hnm : meth.name = yX4_not.name) {v0 : Option Nat} {t0 : Option Nat} {h : PH} {r : (Option Nat × PH)} (hM : MC + X0 = (hX r.2)) (hN : MS + V0 = (hV r.2)) (hu : uc + X0 = hX h) (hv : us + V0 = hV h) (hf : fX4_not_b4 v0 t0 h = some r)  : PW E p l e (rmv 7 MC MS) s m args below meth c 2 uc us (MQ below (QG E (fun v u => v = some (va_rf r.1) ∧ u = r.2)) args s MC MS (pA E)) h 4 [(0, some (va_rf v0))] [va_rf t0] := by
  have hm1 : lez h (hX r.2) (hV r.2) := mX4_not_b4 hf
  have hcm : uc ≤ MC := (by have o0 := hm1.1; have o1 := hM; have o2 := hu; (try simp only [hX_sI, hX_sR, hX_sL, hX_sD, hX_sIa, hX_sRa, hV_sI, hV_sR, hV_sL, hV_sD, hV_sIa, hV_sRa, hX_new, hV_new] at o0 o1 o2 ⊢); omega)
  have hsm : us ≤ MS := (by have o0 := hm1.2; have o1 := hN; have o2 := hv; (try simp only [hX_sI, hX_sR, hX_sL, hX_sD, hX_sIa, hX_sRa, hV_sI, hV_sR, hV_sL, hV_sD, hV_sIa, hV_sRa, hX_new, hV_new] at o0 o1 o2 ⊢); omega)
  clear hm1
  unfold fX4_not_b4 at hf
  refine p_astoreq_n X (dcg dc_X4_not 2 rfl) rfl (by decide) (nwq (k := 0) rfl) ?_
  refine p_aloadq_n X (dcg dc_X4_not 3 rfl) rfl rfl ?_
  obtain ⟨a2, e3, hf⟩ := gs_some hf
  first | subst e3 | (try rw [e3])
  obtain ⟨hk4, hf⟩ := gd_some hf
  refine p_getR X fl_X4_25 rfl (by decide) (dcg dc_X4_not 4 rfl) hk4 ?_
  refine p_aloadq_n X (dcg dc_X4_not 5 rfl) rfl rfl ?_
  obtain ⟨a5, e6, hf⟩ := gs_some hf
  first | subst e6 | (try rw [e6])
  obtain ⟨hk7, hf⟩ := gd_some hf
  obtain ⟨z8, hz8, hf⟩ := bd_some hf
  have hc1 := mJx4a65c_add_9ea2d hz8
  have hm1 : lez _ (hX r.2) (hV r.2) := mX4_not_b13 hf
  refine p_callV (As := [va_rf _]) X ml_X4_39 (dcg dc_X4_not 6 rfl) rfl rfl hk7 (wJx4a65c_add_9ea2d hG hz8) (by decide) (room4 (Nat.le_of_ble_eq_true rfl)) (by have o0 := hm1.1; have o1 := hc1.1; have o2 := hM; have o3 := hu; (try simp only [hX_sI, hX_sR, hX_sL, hX_sD, hX_sIa, hX_sRa, hV_sI, hV_sR, hV_sL, hV_sD, hV_sIa, hV_sRa, hX_new, hV_new] at o0 o1 o2 o3 ⊢); omega) (by have o0 := hm1.2; have o1 := hc1.2; have o2 := hN; have o3 := hv; (try simp only [hX_sI, hX_sR, hX_sL, hX_sD, hX_sIa, hX_sRa, hV_sI, hV_sR, hV_sL, hV_sD, hV_sIa, hV_sRa, hX_new, hV_new] at o0 o1 o2 o3 ⊢); omega) ?_
  rintro _ u9 ⟨rfl, e9⟩; have e9 := e9.symm; subst e9
  refine p_pick [1] ?_
  exact wX4_not_b13 X hG hnm hM hN (by have o0 := hc1.1; have o1 := hu; (try simp only [hX_sI, hX_sR, hX_sL, hX_sD, hX_sIa, hX_sRa, hV_sI, hV_sR, hV_sL, hV_sD, hV_sIa, hV_sRa, hX_new, hV_new] at o0 o1 ⊢); omega) (by have o0 := hc1.2; have o1 := hv; (try simp only [hX_sI, hX_sR, hX_sL, hX_sD, hX_sIa, hX_sRa, hV_sI, hV_sR, hV_sL, hV_sD, hV_sIa, hV_sRa, hX_new, hV_new] at o0 o1 ⊢); omega) hf 
noncomputable def fX4_not_b0 (v0 : Option Nat) (h : PH) : Option (Option Nat × PH) :=
  bd (fX4_joined (4 : Int32) h) (fun z1 =>
  fX4_not_b4 v0 z1.1 z1.2)
set_option maxRecDepth 100000 in
theorem mX4_not_b0 {v0 : Option Nat} {h : PH} {r : (Option Nat × PH)} (hf : fX4_not_b0 v0 h = some r) : lez h (hX r.2) (hV r.2) := by
  unfold fX4_not_b0 at hf
  have hle := lez_rf h
  obtain ⟨z1, hz1, hf⟩ := bd_some hf
  have hle := lez_rt (mX4_joined hz1) hle
  exact lez_rt (mX4_not_b4 hf) hle
set_option maxRecDepth 100000 in
theorem wX4_not_b0 {E : PE} {p : Program} {l : Launch} {e : Env} {s : State} {m : MethodId} {args : Array Value} {below : List Frame} {meth : Method} {c : Code} {X0 V0 MC MS uc us : Nat} (X : Cx E p l e (rmv 7 MC MS) s m args below meth c RX4 cX4_not 2 (some (.object "WordFinder$Node"))) (hG : Gs E l) (hnm : meth.name = yX4_not.name) {v0 : Option Nat} {h : PH} {r : (Option Nat × PH)} (hM : MC + X0 = (hX r.2)) (hN : MS + V0 = (hV r.2)) (hu : uc + X0 = hX h) (hv : us + V0 = hV h) (hf : fX4_not_b0 v0 h = some r)  : PW E p l e (rmv 7 MC MS) s m args below meth c 2 uc us (MQ below (QG E (fun v u => v = some (va_rf r.1) ∧ u = r.2)) args s MC MS (pA E)) h 0 [(0, some (va_rf v0))] [] := by
  have hm1 : lez h (hX r.2) (hV r.2) := mX4_not_b0 hf
  have hcm : uc ≤ MC := (by have o0 := hm1.1; have o1 := hM; have o2 := hu; (try simp only [hX_sI, hX_sR, hX_sL, hX_sD, hX_sIa, hX_sRa, hV_sI, hV_sR, hV_sL, hV_sD, hV_sIa, hV_sRa, hX_new, hV_new] at o0 o1 o2 ⊢); omega)
  have hsm : us ≤ MS := (by have o0 := hm1.2; have o1 := hN; have o2 := hv; (try simp only [hX_sI, hX_sR, hX_sL, hX_sD, hX_sIa, hX_sRa, hV_sI, hV_sR, hV_sL, hV_sD, hV_sIa, hV_sRa, hX_new, hV_new] at o0 o1 o2 ⊢); omega)
  clear hm1
  unfold fX4_not_b0 at hf
  refine p_iconst (v := 4) X (dcg dc_X4_not 0 rfl) (by decide) ?_
  obtain ⟨z1, hz1, hf⟩ := bd_some hf
  have hc1 := mX4_joined hz1
  have hm1 : lez _ (hX r.2) (hV r.2) := mX4_not_b4 hf
  refine p_callS (As := [_]) X ml_X4_35 (dcg dc_X4_not 1 rfl) rfl rfl  (wX4_joined hG hz1) (by decide) (room4 (Nat.le_of_ble_eq_true rfl)) (by have o0 := hm1.1; have o1 := hc1.1; have o2 := hM; have o3 := hu; (try simp only [hX_sI, hX_sR, hX_sL, hX_sD, hX_sIa, hX_sRa, hV_sI, hV_sR, hV_sL, hV_sD, hV_sIa, hV_sRa, hX_new, hV_new] at o0 o1 o2 o3 ⊢); omega) (by have o0 := hm1.2; have o1 := hc1.2; have o2 := hN; have o3 := hv; (try simp only [hX_sI, hX_sR, hX_sL, hX_sD, hX_sIa, hX_sRa, hV_sI, hV_sR, hV_sL, hV_sD, hV_sIa, hV_sRa, hX_new, hV_new] at o0 o1 o2 o3 ⊢); omega) ?_
  rintro _ u9 ⟨rfl, e9⟩; have e9 := e9.symm; subst e9
  refine p_pick [0] ?_
  exact wX4_not_b4 X hG hnm hM hN (by have o0 := hc1.1; have o1 := hu; (try simp only [hX_sI, hX_sR, hX_sL, hX_sD, hX_sIa, hX_sRa, hV_sI, hV_sR, hV_sL, hV_sD, hV_sIa, hV_sRa, hX_new, hV_new] at o0 o1 ⊢); omega) (by have o0 := hc1.2; have o1 := hv; (try simp only [hX_sI, hX_sR, hX_sL, hX_sD, hX_sIa, hX_sRa, hV_sI, hV_sR, hV_sL, hV_sD, hV_sIa, hV_sRa, hX_new, hV_new] at o0 o1 ⊢); omega) hf 
noncomputable def fX4_not (v0 : Option Nat) (h : PH) : Option (Option Nat × PH) :=
  fX4_not_b0 v0 h
set_option maxRecDepth 100000 in
theorem mX4_not {v0 : Option Nat} {h : PH} {r : (Option Nat × PH)} (hf : fX4_not v0 h = some r) : lez h (hX r.2) (hV r.2) := by
  unfold fX4_not at hf
  have hle := lez_rf h
  exact lez_rt (mX4_not_b0 hf) hle
set_option maxRecDepth 100000 in
theorem wX4_not {E : PE} {l : Launch} (hG : Gs E l) {v0 : Option Nat} {h : PH} {r : (Option Nat × PH)} (hf : fX4_not v0 h = some r) : Ct E l 7 ((hX r.2) - hX h) ((hV r.2) - hV h) yX4_not cX4_not 2 (some (.object "WordFinder$Node")) [va_rf v0] h (fun v u => v = some (va_rf r.1) ∧ u = r.2) := by
  have hmm := mX4_not hf
  refine ct_of hG (by decide) (by simp [lg_sl, cat_rf, cat_r, cat_i, cat_l, cat_d, cat_f]) ?_
  intro p e s m args below meth c X hnm
  rw [show pargs 0 [va_rf v0] = [(0, some (va_rf v0))] from by simp [pargs, cat_rf, cat_r, cat_i, cat_l, cat_d, cat_f]]
  unfold fX4_not at hf
  have hM := Nat.sub_add_cancel hmm.1
  have hN := Nat.sub_add_cancel hmm.2
  refine p_pick [0] ?_
  exact wX4_not_b0 X hG hnm hM hN (Nat.zero_add _) (Nat.zero_add _) hf
theorem dc_X4_negated : decs cX4_negated [(0, .iload_n 1, 1), (1, .bipush 40, 2), (3, .if_icmp .gt 10, 3), (6, .aload_n 0, 1), (7, .invokevirtual 63, 3), (10, .ifCond .eq 8, 3), (13, .aload_n 0, 1), (14, .invokestatic 87, 3), (17, .areturn, 1), (18, .aload_n 0, 1), (19, .getfield 9, 3), (22, .iconst 4, 1), (23, .if_icmp .ne 25, 3), (26, .aload_n 0, 1), (27, .getfield 25, 3), (30, .invokevirtual 71, 3), (33, .ifCond .le 15, 3), (36, .aload_n 0, 1), (37, .getfield 25, 3), (40, .iconst 0, 1), (41, .invokevirtual 75, 3), (44, .checkcast 10, 3), (47, .areturn, 1), (48, .aload_n 0, 1), (49, .getfield 9, 3), (52, .iconst 5, 1), (53, .if_icmp .ne 8, 3), (56, .bipush 6, 2), (58, .goto 4, 3), (61, .iconst 5, 1), (62, .invokestatic 35, 3), (65, .astore_n 2, 1), (66, .iconst 0, 1), (67, .istore_n 3, 1), (68, .iload_n 3, 1), (69, .aload_n 0, 1), (70, .getfield 25, 3), (73, .invokevirtual 71, 3), (76, .if_icmp .ge 34, 3), (79, .aload_n 2, 1), (80, .getfield 25, 3), (83, .aload_n 0, 1), (84, .getfield 25, 3), (87, .iload_n 3, 1), (88, .invokevirtual 75, 3), (91, .checkcast 10, 3), (94, .iload_n 1, 1), (95, .iconst 1, 1), (96, .iadd, 1), (97, .invokestatic 91, 3), (100, .invokevirtual 39, 3), (103, .pop, 1), (104, .iinc 3 1, 3), (107, .goto (-39), 3), (110, .aload_n 2, 1), (111, .areturn, 1)] = true := by decide +kernel
noncomputable def fX4_negated_R_b17 (rc0 : (Option Nat → Int32 → PH → Option (Option Nat × PH))) (t0 : Option Nat) (h : PH) : Option (Option Nat × PH) :=
  some ((t0, h))
set_option maxRecDepth 100000 in
theorem mX4_negated_R_b17 {rc0 : (Option Nat → Int32 → PH → Option (Option Nat × PH))} (hm0 : ∀ {a0 : Option Nat} {a1 : Int32} {h : PH} {r : (Option Nat × PH)}, rc0 a0 a1 h = some r → lez h (hX r.2) (hV r.2)) {t0 : Option Nat} {h : PH} {r : (Option Nat × PH)} (hf : fX4_negated_R_b17 rc0 t0 h = some r) : lez h (hX r.2) (hV r.2) := by
  unfold fX4_negated_R_b17 at hf
  have hle := lez_rf h
  have ee := Option.some.inj hf; subst ee; exact hle
set_option maxRecDepth 100000 in
theorem wX4_negated_R_b17 {E : PE} {p : Program} {l : Launch} {e : Env} {s : State} {m : MethodId} {args : Array Value} {below : List Frame} {meth : Method} {c : Code} {X0 V0 MC MS uc us : Nat} {nn : Nat} (X : Cx E p l e (rmv (8 + nn + 1) MC MS) s m args below meth c RX4 cX4_negated 4 (some (.object "WordFinder$Node"))) (hG : Gs E l) (hnm : meth.name = yX4_negated.name) {rc0 : (Option Nat → Int32 → PH → Option (Option Nat × PH))} (hw0 : ∀ {a0 : Option Nat} {a1 : Int32} {h : PH} {r : (Option Nat × PH)}, rc0 a0 a1 h = some r → Ct E l (8 + nn) ((hX r.2) - hX h) ((hV r.2) - hV h) yX4_negated cX4_negated 4 (some (.object "WordFinder$Node")) [va_rf a0, .int a1] h (fun v u => v = some (va_rf r.1) ∧ u = r.2)) (hm0 : ∀ {a0 : Option Nat} {a1 : Int32} {h : PH} {r : (Option Nat × PH)}, rc0 a0 a1 h = some r → lez h (hX r.2) (hV r.2)) {t0 : Option Nat} {h : PH} {r : (Option Nat × PH)} (hM : MC + X0 = (hX r.2)) (hN : MS + V0 = (hV r.2)) (hu : uc + X0 = hX h) (hv : us + V0 = hV h) (hf : fX4_negated_R_b17 rc0 t0 h = some r)  : PW E p l e (rmv (8 + nn + 1) MC MS) s m args below meth c 4 uc us (MQ below (QG E (fun v u => v = some (va_rf r.1) ∧ u = r.2)) args s MC MS (pA E)) h 17 [] [va_rf t0] := by
  have hm1 : lez h (hX r.2) (hV r.2) := mX4_negated_R_b17 hm0 hf
  have hcm : uc ≤ MC := (by have o0 := hm1.1; have o1 := hM; have o2 := hu; (try simp only [hX_sI, hX_sR, hX_sL, hX_sD, hX_sIa, hX_sRa, hV_sI, hV_sR, hV_sL, hV_sD, hV_sIa, hV_sRa, hX_new, hV_new] at o0 o1 o2 ⊢); omega)
  have hsm : us ≤ MS := (by have o0 := hm1.2; have o1 := hN; have o2 := hv; (try simp only [hX_sI, hX_sR, hX_sL, hX_sD, hX_sIa, hX_sRa, hV_sI, hV_sR, hV_sL, hV_sD, hV_sIa, hV_sRa, hX_new, hV_new] at o0 o1 o2 ⊢); omega)
  clear hm1
  unfold fX4_negated_R_b17 at hf
  have er := Option.some.inj hf
  subst er
  exact p_aret X rfl (Or.inl ⟨_, rfl⟩) (dcg dc_X4_negated 8 rfl) ⟨rfl, rfl⟩ hcm hsm
noncomputable def fX4_negated_R_b13 (rc0 : (Option Nat → Int32 → PH → Option (Option Nat × PH))) (v0 : Option Nat) (h : PH) : Option (Option Nat × PH) :=
  bd (fX4_not v0 h) (fun z1 =>
  fX4_negated_R_b17 rc0 z1.1 z1.2)
set_option maxRecDepth 100000 in
theorem mX4_negated_R_b13 {rc0 : (Option Nat → Int32 → PH → Option (Option Nat × PH))} (hm0 : ∀ {a0 : Option Nat} {a1 : Int32} {h : PH} {r : (Option Nat × PH)}, rc0 a0 a1 h = some r → lez h (hX r.2) (hV r.2)) {v0 : Option Nat} {h : PH} {r : (Option Nat × PH)} (hf : fX4_negated_R_b13 rc0 v0 h = some r) : lez h (hX r.2) (hV r.2) := by
  unfold fX4_negated_R_b13 at hf
  have hle := lez_rf h
  obtain ⟨z1, hz1, hf⟩ := bd_some hf
  have hle := lez_rt (mX4_not hz1) hle
  exact lez_rt (mX4_negated_R_b17 hm0 hf) hle
set_option maxRecDepth 100000 in
theorem wX4_negated_R_b13 {E : PE} {p : Program} {l : Launch} {e : Env} {s : State} {m : MethodId} {args : Array Value} {below : List Frame} {meth : Method} {c : Code} {X0 V0 MC MS uc us : Nat} {nn : Nat} (X : Cx E p l e (rmv (8 + nn + 1) MC MS) s m args below meth c RX4 cX4_negated 4 (some (.object "WordFinder$Node"))) (hG : Gs E l) (hnm : meth.name = yX4_negated.name) {rc0 : (Option Nat → Int32 → PH → Option (Option Nat × PH))} (hw0 : ∀ {a0 : Option Nat} {a1 : Int32} {h : PH} {r : (Option Nat × PH)}, rc0 a0 a1 h = some r → Ct E l (8 + nn) ((hX r.2) - hX h) ((hV r.2) - hV h) yX4_negated cX4_negated 4 (some (.object "WordFinder$Node")) [va_rf a0, .int a1] h (fun v u => v = some (va_rf r.1) ∧ u = r.2)) (hm0 : ∀ {a0 : Option Nat} {a1 : Int32} {h : PH} {r : (Option Nat × PH)}, rc0 a0 a1 h = some r → lez h (hX r.2) (hV r.2)) {v0 : Option Nat} {h : PH} {r : (Option Nat × PH)} (hM : MC + X0 = (hX r.2)) (hN : MS + V0 = (hV r.2)) (hu : uc + X0 = hX h) (hv : us + V0 = hV h) (hf : fX4_negated_R_b13 rc0 v0 h = some r)  : PW E p l e (rmv (8 + nn + 1) MC MS) s m args below meth c 4 uc us (MQ below (QG E (fun v u => v = some (va_rf r.1) ∧ u = r.2)) args s MC MS (pA E)) h 13 [(0, some (va_rf v0))] [] := by
  have hm1 : lez h (hX r.2) (hV r.2) := mX4_negated_R_b13 hm0 hf
  have hcm : uc ≤ MC := (by have o0 := hm1.1; have o1 := hM; have o2 := hu; (try simp only [hX_sI, hX_sR, hX_sL, hX_sD, hX_sIa, hX_sRa, hV_sI, hV_sR, hV_sL, hV_sD, hV_sIa, hV_sRa, hX_new, hV_new] at o0 o1 o2 ⊢); omega)
  have hsm : us ≤ MS := (by have o0 := hm1.2; have o1 := hN; have o2 := hv; (try simp only [hX_sI, hX_sR, hX_sL, hX_sD, hX_sIa, hX_sRa, hV_sI, hV_sR, hV_sL, hV_sD, hV_sIa, hV_sRa, hX_new, hV_new] at o0 o1 o2 ⊢); omega)
  clear hm1
  unfold fX4_negated_R_b13 at hf
  refine p_aloadq_n X (dcg dc_X4_negated 6 rfl) rfl rfl ?_
  obtain ⟨z1, hz1, hf⟩ := bd_some hf
  have hc1 := mX4_not hz1
  have hm1 : lez _ (hX r.2) (hV r.2) := mX4_negated_R_b17 hm0 hf
  refine p_callS (As := [va_rf _]) X ml_X4_87 (dcg dc_X4_negated 7 rfl) rfl rfl  (wX4_not hG hz1) (by omega) (room4 (Nat.le_of_ble_eq_true rfl)) (by have o0 := hm1.1; have o1 := hc1.1; have o2 := hM; have o3 := hu; (try simp only [hX_sI, hX_sR, hX_sL, hX_sD, hX_sIa, hX_sRa, hV_sI, hV_sR, hV_sL, hV_sD, hV_sIa, hV_sRa, hX_new, hV_new] at o0 o1 o2 o3 ⊢); omega) (by have o0 := hm1.2; have o1 := hc1.2; have o2 := hN; have o3 := hv; (try simp only [hX_sI, hX_sR, hX_sL, hX_sD, hX_sIa, hX_sRa, hV_sI, hV_sR, hV_sL, hV_sD, hV_sIa, hV_sRa, hX_new, hV_new] at o0 o1 o2 o3 ⊢); omega) ?_
  rintro _ u9 ⟨rfl, e9⟩; have e9 := e9.symm; subst e9
  refine p_pick [] ?_
  exact wX4_negated_R_b17 X hG hnm hw0 hm0 hM hN (by have o0 := hc1.1; have o1 := hu; (try simp only [hX_sI, hX_sR, hX_sL, hX_sD, hX_sIa, hX_sRa, hV_sI, hV_sR, hV_sL, hV_sD, hV_sIa, hV_sRa, hX_new, hV_new] at o0 o1 ⊢); omega) (by have o0 := hc1.2; have o1 := hv; (try simp only [hX_sI, hX_sR, hX_sL, hX_sD, hX_sIa, hX_sRa, hV_sI, hV_sR, hV_sL, hV_sD, hV_sIa, hV_sRa, hX_new, hV_new] at o0 o1 ⊢); omega) hf 
noncomputable def fX4_negated_R_b103 (rc0 : (Option Nat → Int32 → PH → Option (Option Nat × PH))) (v0 : Option Nat) (v1 : Int32) (v2 : Option Nat) (v3 : Int32) (t0 : Int32) (h : PH) : Option ((Int32 × PH) ⊕ (Option Nat × PH)) :=
  some (.inl ((v3 + 1), h))
set_option maxRecDepth 100000 in
theorem mX4_negated_R_b103 {rc0 : (Option Nat → Int32 → PH → Option (Option Nat × PH))} (hm0 : ∀ {a0 : Option Nat} {a1 : Int32} {h : PH} {r : (Option Nat × PH)}, rc0 a0 a1 h = some r → lez h (hX r.2) (hV r.2)) {v0 : Option Nat} {v1 : Int32} {v2 : Option Nat} {v3 : Int32} {t0 : Int32} {h : PH} {x : ((Int32 × PH) ⊕ (Option Nat × PH))} (hf : fX4_negated_R_b103 rc0 v0 v1 v2 v3 t0 h = some x) : (∀ w9 : (Int32 × PH), x = .inl w9 → lez h (hX (w9.2)) (hV (w9.2))) ∧ (∀ w9 : (Option Nat × PH), x = .inr w9 → lez h (hX w9.2) (hV w9.2)) := by
  unfold fX4_negated_R_b103 at hf
  have hle := lez_rf h
  have ee := Option.some.inj hf; subst ee
  exact ⟨(fun z e => by have ee := Sum.inl.inj (e); subst ee; exact hle), (fun z e => nomatch e)⟩
set_option maxRecDepth 100000 in
theorem wX4_negated_R_b103 {E : PE} {p : Program} {l : Launch} {e : Env} {s : State} {m : MethodId} {args : Array Value} {below : List Frame} {meth : Method} {c : Code} {X0 V0 MC MS uc us : Nat} {nn : Nat} (X : Cx E p l e (rmv (8 + nn + 1) MC MS) s m args below meth c RX4 cX4_negated 4 (some (.object "WordFinder$Node"))) (hG : Gs E l) (hnm : meth.name = yX4_negated.name) {rc0 : (Option Nat → Int32 → PH → Option (Option Nat × PH))} (hw0 : ∀ {a0 : Option Nat} {a1 : Int32} {h : PH} {r : (Option Nat × PH)}, rc0 a0 a1 h = some r → Ct E l (8 + nn) ((hX r.2) - hX h) ((hV r.2) - hV h) yX4_negated cX4_negated 4 (some (.object "WordFinder$Node")) [va_rf a0, .int a1] h (fun v u => v = some (va_rf r.1) ∧ u = r.2)) (hm0 : ∀ {a0 : Option Nat} {a1 : Int32} {h : PH} {r : (Option Nat × PH)}, rc0 a0 a1 h = some r → lez h (hX r.2) (hV r.2)) {v0 : Option Nat} {v1 : Int32} {v2 : Option Nat} {v3 : Int32} {t0 : Int32} {h : PH} {r : (Option Nat × PH)} {x : ((Int32 × PH) ⊕ (Option Nat × PH))} (hM : MC + X0 = (hX r.2)) (hN : MS + V0 = (hV r.2)) (hu : uc + X0 = hX h) (hv : us + V0 = hV h) (hf : fX4_negated_R_b103 rc0 v0 v1 v2 v3 t0 h = some x) (k0 : ∀ (z : (Int32 × PH)) (uc us : Nat), x = .inl z → uc + X0 = hX (z.2) → us + V0 = hV (z.2) → PW E p l e (rmv (8 + nn + 1) MC MS) s m args below meth c 4 uc us (MQ below (QG E (fun v u => v = some (va_rf r.1) ∧ u = r.2)) args s MC MS (pA E)) (z.2) 68 [(0, some (va_rf v0)), (1, some (.int v1)), (2, some (va_rf v2)), (3, some (.int (z.1)))] []) (kl0 : ∀ z : (Int32 × PH), x = .inl z → lez (z.2) (hX r.2) (hV r.2)) (kf : ∀ z : (Option Nat × PH), x = .inr z → z = r) : PW E p l e (rmv (8 + nn + 1) MC MS) s m args below meth c 4 uc us (MQ below (QG E (fun v u => v = some (va_rf r.1) ∧ u = r.2)) args s MC MS (pA E)) h 103 [(0, some (va_rf v0)), (1, some (.int v1)), (2, some (va_rf v2)), (3, some (.int v3))] [.int t0] := by
  have hm1 : lez h (hX r.2) (hV r.2) := by
    obtain ⟨c0, cf⟩ := mX4_negated_R_b103 hm0 hf
    rcases hxx : x with zz | zz
    · exact lez_tr (c0 zz hxx) (kl0 zz hxx)
    · have ee := kf zz hxx; subst ee; exact cf zz hxx
  have hcm : uc ≤ MC := (by have o0 := hm1.1; have o1 := hM; have o2 := hu; (try simp only [hX_sI, hX_sR, hX_sL, hX_sD, hX_sIa, hX_sRa, hV_sI, hV_sR, hV_sL, hV_sD, hV_sIa, hV_sRa, hX_new, hV_new] at o0 o1 o2 ⊢); omega)
  have hsm : us ≤ MS := (by have o0 := hm1.2; have o1 := hN; have o2 := hv; (try simp only [hX_sI, hX_sR, hX_sL, hX_sD, hX_sIa, hX_sRa, hV_sI, hV_sR, hV_sL, hV_sD, hV_sIa, hV_sRa, hX_new, hV_new] at o0 o1 o2 ⊢); omega)
  clear hm1
  unfold fX4_negated_R_b103 at hf
  refine p_pop X (dcg dc_X4_negated 51 rfl) rfl ?_
  refine p_iinc (v := 1) X (dcg dc_X4_negated 52 rfl) rfl (by decide) (by decide) (nwq (k := 2) rfl) ?_
  refine p_goto (tgt := 68) X (dcg dc_X4_negated 53 rfl) (by decide) ?_
  refine p_pick [0, 1, 2, 3] ?_
  exact k0 _ _ _ (Option.some.inj hf).symm hu hv
noncomputable def fX4_negated_R_b100 (rc0 : (Option Nat → Int32 → PH → Option (Option Nat × PH))) (v0 : Option Nat) (v1 : Int32) (v2 : Option Nat) (v3 : Int32) (t0 : Option Nat) (t1 : Option Nat) (h : PH) : Option ((Int32 × PH) ⊕ (Option Nat × PH)) :=
  gs t0 (fun a30 =>
  gd (hK h a30 = 14) (bd (fJx4a65c_add_9ea2d a30 t1 h) (fun z33 =>
  fX4_negated_R_b103 rc0 v0 v1 v2 v3 z33.1 z33.2)))
set_option maxRecDepth 100000 in
theorem mX4_negated_R_b100 {rc0 : (Option Nat → Int32 → PH → Option (Option Nat × PH))} (hm0 : ∀ {a0 : Option Nat} {a1 : Int32} {h : PH} {r : (Option Nat × PH)}, rc0 a0 a1 h = some r → lez h (hX r.2) (hV r.2)) {v0 : Option Nat} {v1 : Int32} {v2 : Option Nat} {v3 : Int32} {t0 : Option Nat} {t1 : Option Nat} {h : PH} {x : ((Int32 × PH) ⊕ (Option Nat × PH))} (hf : fX4_negated_R_b100 rc0 v0 v1 v2 v3 t0 t1 h = some x) : (∀ w9 : (Int32 × PH), x = .inl w9 → lez h (hX (w9.2)) (hV (w9.2))) ∧ (∀ w9 : (Option Nat × PH), x = .inr w9 → lez h (hX w9.2) (hV w9.2)) := by
  unfold fX4_negated_R_b100 at hf
  have hle := lez_rf h
  obtain ⟨a30, e31, hf⟩ := gs_some hf
  obtain ⟨hk32, hf⟩ := gd_some hf
  obtain ⟨z33, hz33, hf⟩ := bd_some hf
  have hle := lez_rt (mJx4a65c_add_9ea2d hz33) hle
  obtain ⟨c0, cf⟩ := mX4_negated_R_b103 hm0 hf
  exact ⟨fun z e => lez_rt (c0 z (e)) hle, fun z e => lez_rt (cf z (e)) hle⟩
set_option maxRecDepth 100000 in
theorem wX4_negated_R_b100 {E : PE} {p : Program} {l : Launch} {e : Env} {s : State} {m : MethodId} {args : Array Value} {below : List Frame} {meth : Method} {c : Code} {X0 V0 MC MS uc us : Nat} {nn : Nat} (X : Cx E p l e (rmv (8 + nn + 1) MC MS) s m args below meth c RX4 cX4_negated 4 (some (.object "WordFinder$Node"))) (hG : Gs E l) (hnm : meth.name = yX4_negated.name) {rc0 : (Option Nat → Int32 → PH → Option (Option Nat × PH))} (hw0 : ∀ {a0 : Option Nat} {a1 : Int32} {h : PH} {r : (Option Nat × PH)}, rc0 a0 a1 h = some r → Ct E l (8 + nn) ((hX r.2) - hX h) ((hV r.2) - hV h) yX4_negated cX4_negated 4 (some (.object "WordFinder$Node")) [va_rf a0, .int a1] h (fun v u => v = some (va_rf r.1) ∧ u = r.2)) (hm0 : ∀ {a0 : Option Nat} {a1 : Int32} {h : PH} {r : (Option Nat × PH)}, rc0 a0 a1 h = some r → lez h (hX r.2) (hV r.2)) {v0 : Option Nat} {v1 : Int32} {v2 : Option Nat} {v3 : Int32} {t0 : Option Nat} {t1 : Option Nat} {h : PH} {r : (Option Nat × PH)} {x : ((Int32 × PH) ⊕ (Option Nat × PH))} (hM : MC + X0 = (hX r.2)) (hN : MS + V0 = (hV r.2)) (hu : uc + X0 = hX h) (hv : us + V0 = hV h) (hf : fX4_negated_R_b100 rc0 v0 v1 v2 v3 t0 t1 h = some x) (k0 : ∀ (z : (Int32 × PH)) (uc us : Nat), x = .inl z → uc + X0 = hX (z.2) → us + V0 = hV (z.2) → PW E p l e (rmv (8 + nn + 1) MC MS) s m args below meth c 4 uc us (MQ below (QG E (fun v u => v = some (va_rf r.1) ∧ u = r.2)) args s MC MS (pA E)) (z.2) 68 [(0, some (va_rf v0)), (1, some (.int v1)), (2, some (va_rf v2)), (3, some (.int (z.1)))] []) (kl0 : ∀ z : (Int32 × PH), x = .inl z → lez (z.2) (hX r.2) (hV r.2)) (kf : ∀ z : (Option Nat × PH), x = .inr z → z = r) : PW E p l e (rmv (8 + nn + 1) MC MS) s m args below meth c 4 uc us (MQ below (QG E (fun v u => v = some (va_rf r.1) ∧ u = r.2)) args s MC MS (pA E)) h 100 [(0, some (va_rf v0)), (1, some (.int v1)), (2, some (va_rf v2)), (3, some (.int v3))] [va_rf t1, va_rf t0] := by
  have hm1 : lez h (hX r.2) (hV r.2) := by
    obtain ⟨c0, cf⟩ := mX4_negated_R_b100 hm0 hf
    rcases hxx : x with zz | zz
    · exact lez_tr (c0 zz hxx) (kl0 zz hxx)
    · have ee := kf zz hxx; subst ee; exact cf zz hxx
  have hcm : uc ≤ MC := (by have o0 := hm1.1; have o1 := hM; have o2 := hu; (try simp only [hX_sI, hX_sR, hX_sL, hX_sD, hX_sIa, hX_sRa, hV_sI, hV_sR, hV_sL, hV_sD, hV_sIa, hV_sRa, hX_new, hV_new] at o0 o1 o2 ⊢); omega)
  have hsm : us ≤ MS := (by have o0 := hm1.2; have o1 := hN; have o2 := hv; (try simp only [hX_sI, hX_sR, hX_sL, hX_sD, hX_sIa, hX_sRa, hV_sI, hV_sR, hV_sL, hV_sD, hV_sIa, hV_sRa, hX_new, hV_new] at o0 o1 o2 ⊢); omega)
  clear hm1
  unfold fX4_negated_R_b100 at hf
  obtain ⟨a30, e31, hf⟩ := gs_some hf
  first | subst e31 | (try rw [e31])
  obtain ⟨hk32, hf⟩ := gd_some hf
  obtain ⟨z33, hz33, hf⟩ := bd_some hf
  have hc1 := mJx4a65c_add_9ea2d hz33
  obtain ⟨c0, cf⟩ := mX4_negated_R_b103 hm0 hf
  have hm1 := (nst1 (fun zz hxx => lez_tr (c0 zz hxx) (kl0 zz hxx)) (fun zz hxx => by have ee := kf zz hxx; subst ee; exact cf zz hxx))
  refine p_callV (As := [va_rf _]) X ml_X4_39 (dcg dc_X4_negated 50 rfl) rfl rfl hk32 (wJx4a65c_add_9ea2d hG hz33) (by omega) (room4 (Nat.le_of_ble_eq_true rfl)) (by have o0 := hm1.1; have o1 := hc1.1; have o2 := hM; have o3 := hu; (try simp only [hX_sI, hX_sR, hX_sL, hX_sD, hX_sIa, hX_sRa, hV_sI, hV_sR, hV_sL, hV_sD, hV_sIa, hV_sRa, hX_new, hV_new] at o0 o1 o2 o3 ⊢); omega) (by have o0 := hm1.2; have o1 := hc1.2; have o2 := hN; have o3 := hv; (try simp only [hX_sI, hX_sR, hX_sL, hX_sD, hX_sIa, hX_sRa, hV_sI, hV_sR, hV_sL, hV_sD, hV_sIa, hV_sRa, hX_new, hV_new] at o0 o1 o2 o3 ⊢); omega) ?_
  rintro _ u9 ⟨rfl, e9⟩; have e9 := e9.symm; subst e9
  refine p_pick [0, 1, 2, 3] ?_
  exact wX4_negated_R_b103 X hG hnm hw0 hm0 hM hN (by have o0 := hc1.1; have o1 := hu; (try simp only [hX_sI, hX_sR, hX_sL, hX_sD, hX_sIa, hX_sRa, hV_sI, hV_sR, hV_sL, hV_sD, hV_sIa, hV_sRa, hX_new, hV_new] at o0 o1 ⊢); omega) (by have o0 := hc1.2; have o1 := hv; (try simp only [hX_sI, hX_sR, hX_sL, hX_sD, hX_sIa, hX_sRa, hV_sI, hV_sR, hV_sL, hV_sD, hV_sIa, hV_sRa, hX_new, hV_new] at o0 o1 ⊢); omega) hf k0 kl0 kf
noncomputable def fX4_negated_R_c68 (rc0 : (Option Nat → Int32 → PH → Option (Option Nat × PH))) (v0 : Option Nat) (v1 : Int32) (v2 : Option Nat) (v3 : Int32) (h : PH) : Option ((Int32 × PH) ⊕ (Option Nat × PH)) :=
  gs v0 (fun a10 =>
  gd (hK h a10 = 4) (gs (hR h 4 a10 3) (fun a13 =>
  gd (hK h a13 = 14) (bd (fJx4a65c_size_8abf5 a13 h) (fun z16 =>
  if (z16 ≤ v3) then (mr (some ((v2, h)))) else
  gs v2 (fun a19 =>
  gd (hK h a19 = 4) (gs (hR h 4 a10 3) (fun a22 =>
  gd (hK h a22 = 14) (bd (fJx4a65c_get_915e3 a22 v3 h) (fun z25 =>
  gs z25 (fun a26 =>
  gd (hK h a26 = 4) (bd (rc0 (some a26) (v1 + (1 : Int32)) h) (fun z29 =>
  fX4_negated_R_b100 rc0 (some a10) v1 (some a19) v3 (hR h 4 a19 3) z29.1 z29.2)))))))))))))
set_option maxRecDepth 100000 in
theorem mX4_negated_R_c68 {rc0 : (Option Nat → Int32 → PH → Option (Option Nat × PH))} (hm0 : ∀ {a0 : Option Nat} {a1 : Int32} {h : PH} {r : (Option Nat × PH)}, rc0 a0 a1 h = some r → lez h (hX r.2) (hV r.2)) {v0 : Option Nat} {v1 : Int32} {v2 : Option Nat} {v3 : Int32} {h : PH} {x : ((Int32 × PH) ⊕ (Option Nat × PH))} (hf : fX4_negated_R_c68 rc0 v0 v1 v2 v3 h = some x) : (∀ w9 : (Int32 × PH), x = .inl w9 → lez h (hX (w9.2)) (hV (w9.2))) ∧ (∀ w9 : (Option Nat × PH), x = .inr w9 → lez h (hX w9.2) (hV w9.2)) := by
  unfold fX4_negated_R_c68 at hf
  have hle := lez_rf h
  obtain ⟨a10, e11, hf⟩ := gs_some hf
  obtain ⟨hk12, hf⟩ := gd_some hf
  obtain ⟨a13, e14, hf⟩ := gs_some hf
  obtain ⟨hk15, hf⟩ := gd_some hf
  obtain ⟨z16, hz16, hf⟩ := bd_some hf
  rcases ite_or hf with ⟨q, hf⟩ | ⟨q, hf⟩
  · have hf := if_t q hf
    obtain ⟨y17, hfm, rfl⟩ := mr_some hf; have hf := hfm; clear hfm
    have ee := Option.some.inj hf; subst ee
    exact ⟨(fun z e => nomatch e), (fun z e => by have ee := Sum.inr.inj (e); subst ee; exact hle)⟩
  · have hf := if_f q hf
    obtain ⟨a19, e20, hf⟩ := gs_some hf
    obtain ⟨hk21, hf⟩ := gd_some hf
    obtain ⟨a22, e23, hf⟩ := gs_some hf
    obtain ⟨hk24, hf⟩ := gd_some hf
    obtain ⟨z25, hz25, hf⟩ := bd_some hf
    obtain ⟨a26, e27, hf⟩ := gs_some hf
    obtain ⟨hk28, hf⟩ := gd_some hf
    obtain ⟨z29, hz29, hf⟩ := bd_some hf
    have hle := lez_rt (hm0 hz29) hle
    obtain ⟨c0, cf⟩ := mX4_negated_R_b100 hm0 hf
    exact ⟨fun z e => lez_rt (c0 z (e)) hle, fun z e => lez_rt (cf z (e)) hle⟩
set_option maxRecDepth 100000 in
theorem wX4_negated_R_c68 {E : PE} {p : Program} {l : Launch} {e : Env} {s : State} {m : MethodId} {args : Array Value} {below : List Frame} {meth : Method} {c : Code} {X0 V0 MC MS uc us : Nat} {nn : Nat} (X : Cx E p l e (rmv (8 + nn + 1) MC MS) s m args below meth c RX4 cX4_negated 4 (some (.object "WordFinder$Node"))) (hG : Gs E l) (hnm : meth.name = yX4_negated.name) {rc0 : (Option Nat → Int32 → PH → Option (Option Nat × PH))} (hw0 : ∀ {a0 : Option Nat} {a1 : Int32} {h : PH} {r : (Option Nat × PH)}, rc0 a0 a1 h = some r → Ct E l (8 + nn) ((hX r.2) - hX h) ((hV r.2) - hV h) yX4_negated cX4_negated 4 (some (.object "WordFinder$Node")) [va_rf a0, .int a1] h (fun v u => v = some (va_rf r.1) ∧ u = r.2)) (hm0 : ∀ {a0 : Option Nat} {a1 : Int32} {h : PH} {r : (Option Nat × PH)}, rc0 a0 a1 h = some r → lez h (hX r.2) (hV r.2)) {v0 : Option Nat} {v1 : Int32} {v2 : Option Nat} {v3 : Int32} {h : PH} {r : (Option Nat × PH)} {x : ((Int32 × PH) ⊕ (Option Nat × PH))} (hM : MC + X0 = (hX r.2)) (hN : MS + V0 = (hV r.2)) (hu : uc + X0 = hX h) (hv : us + V0 = hV h) (hf : fX4_negated_R_c68 rc0 v0 v1 v2 v3 h = some x) (k0 : ∀ (z : (Int32 × PH)) (uc us : Nat), x = .inl z → uc + X0 = hX (z.2) → us + V0 = hV (z.2) → PW E p l e (rmv (8 + nn + 1) MC MS) s m args below meth c 4 uc us (MQ below (QG E (fun v u => v = some (va_rf r.1) ∧ u = r.2)) args s MC MS (pA E)) (z.2) 68 [(0, some (va_rf v0)), (1, some (.int v1)), (2, some (va_rf v2)), (3, some (.int (z.1)))] []) (kl0 : ∀ z : (Int32 × PH), x = .inl z → lez (z.2) (hX r.2) (hV r.2)) (kf : ∀ z : (Option Nat × PH), x = .inr z → z = r) : PW E p l e (rmv (8 + nn + 1) MC MS) s m args below meth c 4 uc us (MQ below (QG E (fun v u => v = some (va_rf r.1) ∧ u = r.2)) args s MC MS (pA E)) h 68 [(0, some (va_rf v0)), (1, some (.int v1)), (2, some (va_rf v2)), (3, some (.int v3))] [] := by
  have hm1 : lez h (hX r.2) (hV r.2) := by
    obtain ⟨c0, cf⟩ := mX4_negated_R_c68 hm0 hf
    rcases hxx : x with zz | zz
    · exact lez_tr (c0 zz hxx) (kl0 zz hxx)
    · have ee := kf zz hxx; subst ee; exact cf zz hxx
  have hcm : uc ≤ MC := (by have o0 := hm1.1; have o1 := hM; have o2 := hu; (try simp only [hX_sI, hX_sR, hX_sL, hX_sD, hX_sIa, hX_sRa, hV_sI, hV_sR, hV_sL, hV_sD, hV_sIa, hV_sRa, hX_new, hV_new] at o0 o1 o2 ⊢); omega)
  have hsm : us ≤ MS := (by have o0 := hm1.2; have o1 := hN; have o2 := hv; (try simp only [hX_sI, hX_sR, hX_sL, hX_sD, hX_sIa, hX_sRa, hV_sI, hV_sR, hV_sL, hV_sD, hV_sIa, hV_sRa, hX_new, hV_new] at o0 o1 o2 ⊢); omega)
  clear hm1
  unfold fX4_negated_R_c68 at hf
  refine p_iload_n X (dcg dc_X4_negated 34 rfl) rfl rfl ?_
  refine p_aloadq_n X (dcg dc_X4_negated 35 rfl) rfl rfl ?_
  obtain ⟨a10, e11, hf⟩ := gs_some hf
  first | subst e11 | (try rw [e11])
  obtain ⟨hk12, hf⟩ := gd_some hf
  refine p_getR X fl_X4_25 rfl (by decide) (dcg dc_X4_negated 36 rfl) hk12 ?_
  obtain ⟨a13, e14, hf⟩ := gs_some hf
  first | subst e14 | (try rw [e14])
  obtain ⟨hk15, hf⟩ := gd_some hf
  obtain ⟨z16, hz16, hf⟩ := bd_some hf
  refine p_callV (As := []) X ml_X4_71 (dcg dc_X4_negated 37 rfl) rfl rfl hk15 (wJx4a65c_size_8abf5 hG hz16) (by omega) (room4 (Nat.le_of_ble_eq_true rfl)) hcm hsm ?_
  rintro _ u9 ⟨rfl, e9⟩; have e9 := e9.symm; subst e9
  refine p_icmp_ge (tgt := 110) X (dcg dc_X4_negated 38 rfl) (by decide) (fun q => ?_) (fun q => ?_)
  · have hf := if_t q hf
    obtain ⟨y17, hf, hy18⟩ := mr_some hf
    have hy18f := kf y17 hy18
    subst hy18f
    refine p_aloadq_n X (dcg dc_X4_negated 54 rfl) rfl rfl ?_
    have er := Option.some.inj hf
    subst er
    exact p_aret X rfl (Or.inl ⟨_, rfl⟩) (dcg dc_X4_negated 55 rfl) ⟨rfl, rfl⟩ hcm hsm
  · have hf := if_f q hf
    refine p_aloadq_n X (dcg dc_X4_negated 39 rfl) rfl rfl ?_
    obtain ⟨a19, e20, hf⟩ := gs_some hf
    first | subst e20 | (try rw [e20])
    obtain ⟨hk21, hf⟩ := gd_some hf
    refine p_getR X fl_X4_25 rfl (by decide) (dcg dc_X4_negated 40 rfl) hk21 ?_
    refine p_aload_n X (dcg dc_X4_negated 41 rfl) rfl rfl ?_
    refine p_getR X fl_X4_25 rfl (by decide) (dcg dc_X4_negated 42 rfl) hk12 ?_
    refine p_iload_n X (dcg dc_X4_negated 43 rfl) rfl rfl ?_
    obtain ⟨a22, e23, hf⟩ := gs_some hf
    first | subst e23 | (try rw [e23])
    obtain ⟨hk24, hf⟩ := gd_some hf
    obtain ⟨z25, hz25, hf⟩ := bd_some hf
    refine p_callV (As := [_]) X ml_X4_75 (dcg dc_X4_negated 44 rfl) rfl rfl hk24 (wJx4a65c_get_915e3 hG hz25) (by omega) (room4 (Nat.le_of_ble_eq_true rfl)) hcm hsm ?_
    rintro _ u9 ⟨rfl, e9⟩; have e9 := e9.symm; subst e9
    obtain ⟨a26, e27, hf⟩ := gs_some hf
    first | subst e27 | (try rw [e27])
    obtain ⟨hk28, hf⟩ := gd_some hf
    refine p_cast (q := (RX4, TX4, 4)) X rfl tw_971 (dcg dc_X4_negated 45 rfl) hk28 ?_
    refine p_iload_n X (dcg dc_X4_negated 46 rfl) rfl rfl ?_
    refine p_iconst (v := 1) X (dcg dc_X4_negated 47 rfl) (by decide) ?_
    refine p_iadd X (dcg dc_X4_negated 48 rfl) ?_
    obtain ⟨z29, hz29, hf⟩ := bd_some hf
    have hc1 := hm0 hz29
    obtain ⟨c0, cf⟩ := mX4_negated_R_b100 hm0 hf
    have hm1 := (nst1 (fun zz hxx => lez_tr (c0 zz hxx) (kl0 zz hxx)) (fun zz hxx => by have ee := kf zz hxx; subst ee; exact cf zz hxx))
    refine p_callS (As := [va_rf (some _), _]) X ml_X4_91 (dcg dc_X4_negated 49 rfl) rfl rfl  (hw0 hz29) (by omega) (room4 (Nat.le_of_ble_eq_true rfl)) (by have o0 := hm1.1; have o1 := hc1.1; have o2 := hM; have o3 := hu; (try simp only [hX_sI, hX_sR, hX_sL, hX_sD, hX_sIa, hX_sRa, hV_sI, hV_sR, hV_sL, hV_sD, hV_sIa, hV_sRa, hX_new, hV_new] at o0 o1 o2 o3 ⊢); omega) (by have o0 := hm1.2; have o1 := hc1.2; have o2 := hN; have o3 := hv; (try simp only [hX_sI, hX_sR, hX_sL, hX_sD, hX_sIa, hX_sRa, hV_sI, hV_sR, hV_sL, hV_sD, hV_sIa, hV_sRa, hX_new, hV_new] at o0 o1 o2 o3 ⊢); omega) ?_
    rintro _ u9 ⟨rfl, e9⟩; have e9 := e9.symm; subst e9
    refine p_pick [0, 1, 2, 3] ?_
    exact wX4_negated_R_b100 X hG hnm hw0 hm0 hM hN (by have o0 := hc1.1; have o1 := hu; (try simp only [hX_sI, hX_sR, hX_sL, hX_sD, hX_sIa, hX_sRa, hV_sI, hV_sR, hV_sL, hV_sD, hV_sIa, hV_sRa, hX_new, hV_new] at o0 o1 ⊢); omega) (by have o0 := hc1.2; have o1 := hv; (try simp only [hX_sI, hX_sR, hX_sL, hX_sD, hX_sIa, hX_sRa, hV_sI, hV_sR, hV_sL, hV_sD, hV_sIa, hV_sRa, hX_new, hV_new] at o0 o1 ⊢); omega) hf k0 kl0 kf
noncomputable def fX4_negated_R_l68 (rc0 : (Option Nat → Int32 → PH → Option (Option Nat × PH))) (v0 : Option Nat) (v1 : Int32) (v2 : Option Nat) (v3 : Int32) (h : PH) : Option (Option Nat × PH) := wh (fun z : (Int32 × PH) => fX4_negated_R_c68 rc0 v0 v1 v2 (z.1) (z.2)) (v3, h)
set_option maxRecDepth 100000 in
theorem mX4_negated_R_l68 {rc0 : (Option Nat → Int32 → PH → Option (Option Nat × PH))} (hm0 : ∀ {a0 : Option Nat} {a1 : Int32} {h : PH} {r : (Option Nat × PH)}, rc0 a0 a1 h = some r → lez h (hX r.2) (hV r.2)) {v0 : Option Nat} {v1 : Int32} {v2 : Option Nat} {v3 : Int32} {h : PH} {r : (Option Nat × PH)} (hf : fX4_negated_R_l68 rc0 v0 v1 v2 v3 h = some r) : lez h (hX r.2) (hV r.2) := by
  unfold fX4_negated_R_l68 at hf
  refine wh_ind (P := fun z => lez (z.2) (hX r.2) (hV r.2)) (fun z x0 hs i1 i2 => ?_) _ hf
  obtain ⟨c0, cf⟩ := mX4_negated_R_c68 (v0 := v0) (v1 := v1) (v2 := v2) (v3 := z.1) (h := z.2) hm0 hs
  rcases hxx : x0 with zz | zz
  · exact lez_tr (c0 zz hxx) (i1 zz hxx)
  · have ee := i2 zz hxx; subst ee; exact cf zz hxx
set_option maxRecDepth 100000 in
theorem wX4_negated_R_l68 {E : PE} {p : Program} {l : Launch} {e : Env} {s : State} {m : MethodId} {args : Array Value} {below : List Frame} {meth : Method} {c : Code} {X0 V0 MC MS uc us : Nat} {nn : Nat} (X : Cx E p l e (rmv (8 + nn + 1) MC MS) s m args below meth c RX4 cX4_negated 4 (some (.object "WordFinder$Node"))) (hG : Gs E l) (hnm : meth.name = yX4_negated.name) {rc0 : (Option Nat → Int32 → PH → Option (Option Nat × PH))} (hw0 : ∀ {a0 : Option Nat} {a1 : Int32} {h : PH} {r : (Option Nat × PH)}, rc0 a0 a1 h = some r → Ct E l (8 + nn) ((hX r.2) - hX h) ((hV r.2) - hV h) yX4_negated cX4_negated 4 (some (.object "WordFinder$Node")) [va_rf a0, .int a1] h (fun v u => v = some (va_rf r.1) ∧ u = r.2)) (hm0 : ∀ {a0 : Option Nat} {a1 : Int32} {h : PH} {r : (Option Nat × PH)}, rc0 a0 a1 h = some r → lez h (hX r.2) (hV r.2)) {v0 : Option Nat} {v1 : Int32} {v2 : Option Nat} {v3 : Int32} {h : PH} {r : (Option Nat × PH)} (hM : MC + X0 = (hX r.2)) (hN : MS + V0 = (hV r.2)) (hu : uc + X0 = hX h) (hv : us + V0 = hV h) (hf : fX4_negated_R_l68 rc0 v0 v1 v2 v3 h = some r)  : PW E p l e (rmv (8 + nn + 1) MC MS) s m args below meth c 4 uc us (MQ below (QG E (fun v u => v = some (va_rf r.1) ∧ u = r.2)) args s MC MS (pA E)) h 68 [(0, some (va_rf v0)), (1, some (.int v1)), (2, some (va_rf v2)), (3, some (.int v3))] [] := by
  unfold fX4_negated_R_l68 at hf
  refine wh_ind2 (P := fun z => ∀ uc us : Nat, uc + X0 = hX (z.2) → us + V0 = hV (z.2) → PW E p l e (rmv (8 + nn + 1) MC MS) s m args below meth c 4 uc us (MQ below (QG E (fun v u => v = some (va_rf r.1) ∧ u = r.2)) args s MC MS (pA E)) (z.2) 68 [(0, some (va_rf v0)), (1, some (.int v1)), (2, some (va_rf v2)), (3, some (.int (z.1)))] []) (fun z x0 hs i1 i2 uc us hu hv => ?_) _ hf uc us hu hv
  exact wX4_negated_R_c68 (r := r) (v0 := v0) (v1 := v1) (v2 := v2) (v3 := z.1) (h := z.2) X hG hnm hw0 hm0 hM hN hu hv hs (fun z1 uc1 us1 e1 e2 e3 => (i1 z1 e1).1 uc1 us1 e2 e3) (fun z1 e1 => mX4_negated_R_l68 (v0 := v0) (v1 := v1) (v2 := v2) (v3 := z1.1) (h := z1.2) hm0 (by unfold fX4_negated_R_l68; exact (i1 z1 e1).2))  i2
noncomputable def fX4_negated_R_b65 (rc0 : (Option Nat → Int32 → PH → Option (Option Nat × PH))) (v0 : Option Nat) (v1 : Int32) (t0 : Option Nat) (h : PH) : Option (Option Nat × PH) :=
  fX4_negated_R_l68 rc0 v0 v1 t0 (0 : Int32) h
set_option maxRecDepth 100000 in
theorem mX4_negated_R_b65 {rc0 : (Option Nat → Int32 → PH → Option (Option Nat × PH))} (hm0 : ∀ {a0 : Option Nat} {a1 : Int32} {h : PH} {r : (Option Nat × PH)}, rc0 a0 a1 h = some r → lez h (hX r.2) (hV r.2)) {v0 : Option Nat} {v1 : Int32} {t0 : Option Nat} {h : PH} {r : (Option Nat × PH)} (hf : fX4_negated_R_b65 rc0 v0 v1 t0 h = some r) : lez h (hX r.2) (hV r.2) := by
  unfold fX4_negated_R_b65 at hf
  have hle := lez_rf h
  exact lez_rt (mX4_negated_R_l68 hm0 hf) hle
set_option maxRecDepth 100000 in
theorem wX4_negated_R_b65 {E : PE} {p : Program} {l : Launch} {e : Env} {s : State} {m : MethodId} {args : Array Value} {below : List Frame} {meth : Method} {c : Code} {X0 V0 MC MS uc us : Nat} {nn : Nat} (X : Cx E p l e (rmv (8 + nn + 1) MC MS) s m args below meth c RX4 cX4_negated 4 (some (.object "WordFinder$Node"))) (hG : Gs E l) (hnm : meth.name = yX4_negated.name) {rc0 : (Option Nat → Int32 → PH → Option (Option Nat × PH))} (hw0 : ∀ {a0 : Option Nat} {a1 : Int32} {h : PH} {r : (Option Nat × PH)}, rc0 a0 a1 h = some r → Ct E l (8 + nn) ((hX r.2) - hX h) ((hV r.2) - hV h) yX4_negated cX4_negated 4 (some (.object "WordFinder$Node")) [va_rf a0, .int a1] h (fun v u => v = some (va_rf r.1) ∧ u = r.2)) (hm0 : ∀ {a0 : Option Nat} {a1 : Int32} {h : PH} {r : (Option Nat × PH)}, rc0 a0 a1 h = some r → lez h (hX r.2) (hV r.2)) {v0 : Option Nat} {v1 : Int32} {t0 : Option Nat} {h : PH} {r : (Option Nat × PH)} (hM : MC + X0 = (hX r.2)) (hN : MS + V0 = (hV r.2)) (hu : uc + X0 = hX h) (hv : us + V0 = hV h) (hf : fX4_negated_R_b65 rc0 v0 v1 t0 h = some r)  : PW E p l e (rmv (8 + nn + 1) MC MS) s m args below meth c 4 uc us (MQ below (QG E (fun v u => v = some (va_rf r.1) ∧ u = r.2)) args s MC MS (pA E)) h 65 [(0, some (va_rf v0)), (1, some (.int v1))] [va_rf t0] := by
  have hm1 : lez h (hX r.2) (hV r.2) := mX4_negated_R_b65 hm0 hf
  have hcm : uc ≤ MC := (by have o0 := hm1.1; have o1 := hM; have o2 := hu; (try simp only [hX_sI, hX_sR, hX_sL, hX_sD, hX_sIa, hX_sRa, hV_sI, hV_sR, hV_sL, hV_sD, hV_sIa, hV_sRa, hX_new, hV_new] at o0 o1 o2 ⊢); omega)
  have hsm : us ≤ MS := (by have o0 := hm1.2; have o1 := hN; have o2 := hv; (try simp only [hX_sI, hX_sR, hX_sL, hX_sD, hX_sIa, hX_sRa, hV_sI, hV_sR, hV_sL, hV_sD, hV_sIa, hV_sRa, hX_new, hV_new] at o0 o1 o2 ⊢); omega)
  clear hm1
  unfold fX4_negated_R_b65 at hf
  refine p_astoreq_n X (dcg dc_X4_negated 31 rfl) rfl (by decide) rfl ?_
  refine p_iconst (v := 0) X (dcg dc_X4_negated 32 rfl) (by decide) ?_
  refine p_istore_n X (dcg dc_X4_negated 33 rfl) rfl (by decide) (nwq (k := 2) rfl) ?_
  refine p_pick [0, 1, 2, 3] ?_
  exact wX4_negated_R_l68 X hG hnm hw0 hm0 hM hN hu hv hf 
noncomputable def fX4_negated_R_b62 (rc0 : (Option Nat → Int32 → PH → Option (Option Nat × PH))) (v0 : Option Nat) (v1 : Int32) (t0 : Int32) (h : PH) : Option (Option Nat × PH) :=
  bd (fX4_joined t0 h) (fun z9 =>
  fX4_negated_R_b65 rc0 v0 v1 z9.1 z9.2)
set_option maxRecDepth 100000 in
theorem mX4_negated_R_b62 {rc0 : (Option Nat → Int32 → PH → Option (Option Nat × PH))} (hm0 : ∀ {a0 : Option Nat} {a1 : Int32} {h : PH} {r : (Option Nat × PH)}, rc0 a0 a1 h = some r → lez h (hX r.2) (hV r.2)) {v0 : Option Nat} {v1 : Int32} {t0 : Int32} {h : PH} {r : (Option Nat × PH)} (hf : fX4_negated_R_b62 rc0 v0 v1 t0 h = some r) : lez h (hX r.2) (hV r.2) := by
  unfold fX4_negated_R_b62 at hf
  have hle := lez_rf h
  obtain ⟨z9, hz9, hf⟩ := bd_some hf
  have hle := lez_rt (mX4_joined hz9) hle
  exact lez_rt (mX4_negated_R_b65 hm0 hf) hle
set_option maxRecDepth 100000 in
theorem wX4_negated_R_b62 {E : PE} {p : Program} {l : Launch} {e : Env} {s : State} {m : MethodId} {args : Array Value} {below : List Frame} {meth : Method} {c : Code} {X0 V0 MC MS uc us : Nat} {nn : Nat} (X : Cx E p l e (rmv (8 + nn + 1) MC MS) s m args below meth c RX4 cX4_negated 4 (some (.object "WordFinder$Node"))) (hG : Gs E l) (hnm : meth.name = yX4_negated.name) {rc0 : (Option Nat → Int32 → PH → Option (Option Nat × PH))} (hw0 : ∀ {a0 : Option Nat} {a1 : Int32} {h : PH} {r : (Option Nat × PH)}, rc0 a0 a1 h = some r → Ct E l (8 + nn) ((hX r.2) - hX h) ((hV r.2) - hV h) yX4_negated cX4_negated 4 (some (.object "WordFinder$Node")) [va_rf a0, .int a1] h (fun v u => v = some (va_rf r.1) ∧ u = r.2)) (hm0 : ∀ {a0 : Option Nat} {a1 : Int32} {h : PH} {r : (Option Nat × PH)}, rc0 a0 a1 h = some r → lez h (hX r.2) (hV r.2)) {v0 : Option Nat} {v1 : Int32} {t0 : Int32} {h : PH} {r : (Option Nat × PH)} (hM : MC + X0 = (hX r.2)) (hN : MS + V0 = (hV r.2)) (hu : uc + X0 = hX h) (hv : us + V0 = hV h) (hf : fX4_negated_R_b62 rc0 v0 v1 t0 h = some r)  : PW E p l e (rmv (8 + nn + 1) MC MS) s m args below meth c 4 uc us (MQ below (QG E (fun v u => v = some (va_rf r.1) ∧ u = r.2)) args s MC MS (pA E)) h 62 [(0, some (va_rf v0)), (1, some (.int v1))] [.int t0] := by
  have hm1 : lez h (hX r.2) (hV r.2) := mX4_negated_R_b62 hm0 hf
  have hcm : uc ≤ MC := (by have o0 := hm1.1; have o1 := hM; have o2 := hu; (try simp only [hX_sI, hX_sR, hX_sL, hX_sD, hX_sIa, hX_sRa, hV_sI, hV_sR, hV_sL, hV_sD, hV_sIa, hV_sRa, hX_new, hV_new] at o0 o1 o2 ⊢); omega)
  have hsm : us ≤ MS := (by have o0 := hm1.2; have o1 := hN; have o2 := hv; (try simp only [hX_sI, hX_sR, hX_sL, hX_sD, hX_sIa, hX_sRa, hV_sI, hV_sR, hV_sL, hV_sD, hV_sIa, hV_sRa, hX_new, hV_new] at o0 o1 o2 ⊢); omega)
  clear hm1
  unfold fX4_negated_R_b62 at hf
  obtain ⟨z9, hz9, hf⟩ := bd_some hf
  have hc1 := mX4_joined hz9
  have hm1 : lez _ (hX r.2) (hV r.2) := mX4_negated_R_b65 hm0 hf
  refine p_callS (As := [_]) X ml_X4_35 (dcg dc_X4_negated 30 rfl) rfl rfl  (wX4_joined hG hz9) (by omega) (room4 (Nat.le_of_ble_eq_true rfl)) (by have o0 := hm1.1; have o1 := hc1.1; have o2 := hM; have o3 := hu; (try simp only [hX_sI, hX_sR, hX_sL, hX_sD, hX_sIa, hX_sRa, hV_sI, hV_sR, hV_sL, hV_sD, hV_sIa, hV_sRa, hX_new, hV_new] at o0 o1 o2 o3 ⊢); omega) (by have o0 := hm1.2; have o1 := hc1.2; have o2 := hN; have o3 := hv; (try simp only [hX_sI, hX_sR, hX_sL, hX_sD, hX_sIa, hX_sRa, hV_sI, hV_sR, hV_sL, hV_sD, hV_sIa, hV_sRa, hX_new, hV_new] at o0 o1 o2 o3 ⊢); omega) ?_
  rintro _ u9 ⟨rfl, e9⟩; have e9 := e9.symm; subst e9
  refine p_pick [0, 1] ?_
  exact wX4_negated_R_b65 X hG hnm hw0 hm0 hM hN (by have o0 := hc1.1; have o1 := hu; (try simp only [hX_sI, hX_sR, hX_sL, hX_sD, hX_sIa, hX_sRa, hV_sI, hV_sR, hV_sL, hV_sD, hV_sIa, hV_sRa, hX_new, hV_new] at o0 o1 ⊢); omega) (by have o0 := hc1.2; have o1 := hv; (try simp only [hX_sI, hX_sR, hX_sL, hX_sD, hX_sIa, hX_sRa, hV_sI, hV_sR, hV_sL, hV_sD, hV_sIa, hV_sRa, hX_new, hV_new] at o0 o1 ⊢); omega) hf 
noncomputable def fX4_negated_R_b48 (rc0 : (Option Nat → Int32 → PH → Option (Option Nat × PH))) (v0 : Option Nat) (v1 : Int32) (h : PH) : Option (Option Nat × PH) :=
  gs v0 (fun a6 =>
  gd (hK h a6 = 4) (if (¬ (hI h 4 a6 0) = (5 : Int32)) then (fX4_negated_R_b62 rc0 (some a6) v1 (5 : Int32) h) else
  fX4_negated_R_b62 rc0 (some a6) v1 (6 : Int32) h))
set_option maxRecDepth 100000 in
theorem mX4_negated_R_b48 {rc0 : (Option Nat → Int32 → PH → Option (Option Nat × PH))} (hm0 : ∀ {a0 : Option Nat} {a1 : Int32} {h : PH} {r : (Option Nat × PH)}, rc0 a0 a1 h = some r → lez h (hX r.2) (hV r.2)) {v0 : Option Nat} {v1 : Int32} {h : PH} {r : (Option Nat × PH)} (hf : fX4_negated_R_b48 rc0 v0 v1 h = some r) : lez h (hX r.2) (hV r.2) := by
  unfold fX4_negated_R_b48 at hf
  have hle := lez_rf h
  obtain ⟨a6, e7, hf⟩ := gs_some hf
  obtain ⟨hk8, hf⟩ := gd_some hf
  rcases ite_or hf with ⟨q, hf⟩ | ⟨q, hf⟩
  · have hf := if_t q hf
    exact lez_rt (mX4_negated_R_b62 hm0 hf) hle
  · have hf := if_f q hf
    exact lez_rt (mX4_negated_R_b62 hm0 hf) hle
set_option maxRecDepth 100000 in
theorem wX4_negated_R_b48 {E : PE} {p : Program} {l : Launch} {e : Env} {s : State} {m : MethodId} {args : Array Value} {below : List Frame} {meth : Method} {c : Code} {X0 V0 MC MS uc us : Nat} {nn : Nat} (X : Cx E p l e (rmv (8 + nn + 1) MC MS) s m args below meth c RX4 cX4_negated 4 (some (.object "WordFinder$Node"))) (hG : Gs E l) (hnm : meth.name = yX4_negated.name) {rc0 : (Option Nat → Int32 → PH → Option (Option Nat × PH))} (hw0 : ∀ {a0 : Option Nat} {a1 : Int32} {h : PH} {r : (Option Nat × PH)}, rc0 a0 a1 h = some r → Ct E l (8 + nn) ((hX r.2) - hX h) ((hV r.2) - hV h) yX4_negated cX4_negated 4 (some (.object "WordFinder$Node")) [va_rf a0, .int a1] h (fun v u => v = some (va_rf r.1) ∧ u = r.2)) (hm0 : ∀ {a0 : Option Nat} {a1 : Int32} {h : PH} {r : (Option Nat × PH)}, rc0 a0 a1 h = some r → lez h (hX r.2) (hV r.2)) {v0 : Option Nat} {v1 : Int32} {h : PH} {r : (Option Nat × PH)} (hM : MC + X0 = (hX r.2)) (hN : MS + V0 = (hV r.2)) (hu : uc + X0 = hX h) (hv : us + V0 = hV h) (hf : fX4_negated_R_b48 rc0 v0 v1 h = some r)  : PW E p l e (rmv (8 + nn + 1) MC MS) s m args below meth c 4 uc us (MQ below (QG E (fun v u => v = some (va_rf r.1) ∧ u = r.2)) args s MC MS (pA E)) h 48 [(0, some (va_rf v0)), (1, some (.int v1))] [] := by
  have hm1 : lez h (hX r.2) (hV r.2) := mX4_negated_R_b48 hm0 hf
  have hcm : uc ≤ MC := (by have o0 := hm1.1; have o1 := hM; have o2 := hu; (try simp only [hX_sI, hX_sR, hX_sL, hX_sD, hX_sIa, hX_sRa, hV_sI, hV_sR, hV_sL, hV_sD, hV_sIa, hV_sRa, hX_new, hV_new] at o0 o1 o2 ⊢); omega)
  have hsm : us ≤ MS := (by have o0 := hm1.2; have o1 := hN; have o2 := hv; (try simp only [hX_sI, hX_sR, hX_sL, hX_sD, hX_sIa, hX_sRa, hV_sI, hV_sR, hV_sL, hV_sD, hV_sIa, hV_sRa, hX_new, hV_new] at o0 o1 o2 ⊢); omega)
  clear hm1
  unfold fX4_negated_R_b48 at hf
  refine p_aloadq_n X (dcg dc_X4_negated 23 rfl) rfl rfl ?_
  obtain ⟨a6, e7, hf⟩ := gs_some hf
  first | subst e7 | (try rw [e7])
  obtain ⟨hk8, hf⟩ := gd_some hf
  refine p_getI X fl_X4_9 rfl (by decide) (dcg dc_X4_negated 24 rfl) hk8 ?_
  refine p_iconst (v := 5) X (dcg dc_X4_negated 25 rfl) (by decide) ?_
  refine p_icmp_ne (tgt := 61) X (dcg dc_X4_negated 26 rfl) (by decide) (fun q => ?_) (fun q => ?_)
  · have hf := if_t q hf
    refine p_iconst (v := 5) X (dcg dc_X4_negated 29 rfl) (by decide) ?_
    refine p_pick [0, 1] ?_
    exact wX4_negated_R_b62 X hG hnm hw0 hm0 hM hN hu hv hf 
  · have hf := if_f q hf
    refine p_bipush (v := 6) X (dcg dc_X4_negated 27 rfl) (by decide) ?_
    refine p_goto (tgt := 62) X (dcg dc_X4_negated 28 rfl) (by decide) ?_
    refine p_pick [0, 1] ?_
    exact wX4_negated_R_b62 X hG hnm hw0 hm0 hM hN hu hv hf 
noncomputable def fX4_negated_R_b0 (rc0 : (Option Nat → Int32 → PH → Option (Option Nat × PH))) (v0 : Option Nat) (v1 : Int32) (h : PH) : Option (Option Nat × PH) :=
  if ((40 : Int32) < v1) then (fX4_negated_R_b13 rc0 v0 h) else
  gs v0 (fun a2 =>
  gd (hK h a2 = 4) (bd (fX4_isSimple a2 h) (fun z5 =>
  if (z5 = 0) then (if (¬ (hI h 4 a2 0) = (4 : Int32)) then (fX4_negated_R_b48 rc0 (some a2) v1 h) else
  gs (hR h 4 a2 3) (fun a34 =>
  gd (hK h a34 = 14) (bd (fJx4a65c_size_8abf5 a34 h) (fun z37 =>
  if (z37 ≤ 0) then (fX4_negated_R_b48 rc0 (some a2) v1 h) else
  gs (hR h 4 a2 3) (fun a38 =>
  gd (hK h a38 = 14) (bd (fJx4a65c_get_915e3 a38 (0 : Int32) h) (fun z41 =>
  gs z41 (fun a42 =>
  gd (hK h a42 = 4) (some (((some a42), h))))))))))) else
  fX4_negated_R_b13 rc0 (some a2) h)))
set_option maxRecDepth 100000 in
theorem mX4_negated_R_b0 {rc0 : (Option Nat → Int32 → PH → Option (Option Nat × PH))} (hm0 : ∀ {a0 : Option Nat} {a1 : Int32} {h : PH} {r : (Option Nat × PH)}, rc0 a0 a1 h = some r → lez h (hX r.2) (hV r.2)) {v0 : Option Nat} {v1 : Int32} {h : PH} {r : (Option Nat × PH)} (hf : fX4_negated_R_b0 rc0 v0 v1 h = some r) : lez h (hX r.2) (hV r.2) := by
  unfold fX4_negated_R_b0 at hf
  have hle := lez_rf h
  rcases ite_or hf with ⟨q, hf⟩ | ⟨q, hf⟩
  · have hf := if_t q hf
    exact lez_rt (mX4_negated_R_b13 hm0 hf) hle
  · have hf := if_f q hf
    obtain ⟨a2, e3, hf⟩ := gs_some hf
    obtain ⟨hk4, hf⟩ := gd_some hf
    obtain ⟨z5, hz5, hf⟩ := bd_some hf
    rcases ite_or hf with ⟨q, hf⟩ | ⟨q, hf⟩
    · have hf := if_t q hf
      rcases ite_or hf with ⟨q, hf⟩ | ⟨q, hf⟩
      · have hf := if_t q hf
        exact lez_rt (mX4_negated_R_b48 hm0 hf) hle
      · have hf := if_f q hf
        obtain ⟨a34, e35, hf⟩ := gs_some hf
        obtain ⟨hk36, hf⟩ := gd_some hf
        obtain ⟨z37, hz37, hf⟩ := bd_some hf
        rcases ite_or hf with ⟨q, hf⟩ | ⟨q, hf⟩
        · have hf := if_t q hf
          exact lez_rt (mX4_negated_R_b48 hm0 hf) hle
        · have hf := if_f q hf
          obtain ⟨a38, e39, hf⟩ := gs_some hf
          obtain ⟨hk40, hf⟩ := gd_some hf
          obtain ⟨z41, hz41, hf⟩ := bd_some hf
          obtain ⟨a42, e43, hf⟩ := gs_some hf
          obtain ⟨hk44, hf⟩ := gd_some hf
          have ee := Option.some.inj hf; subst ee; exact hle
    · have hf := if_f q hf
      exact lez_rt (mX4_negated_R_b13 hm0 hf) hle
set_option maxRecDepth 100000 in
theorem wX4_negated_R_b0 {E : PE} {p : Program} {l : Launch} {e : Env} {s : State} {m : MethodId} {args : Array Value} {below : List Frame} {meth : Method} {c : Code} {X0 V0 MC MS uc us : Nat} {nn : Nat} (X : Cx E p l e (rmv (8 + nn + 1) MC MS) s m args below meth c RX4 cX4_negated 4 (some (.object "WordFinder$Node"))) (hG : Gs E l) (hnm : meth.name = yX4_negated.name) {rc0 : (Option Nat → Int32 → PH → Option (Option Nat × PH))} (hw0 : ∀ {a0 : Option Nat} {a1 : Int32} {h : PH} {r : (Option Nat × PH)}, rc0 a0 a1 h = some r → Ct E l (8 + nn) ((hX r.2) - hX h) ((hV r.2) - hV h) yX4_negated cX4_negated 4 (some (.object "WordFinder$Node")) [va_rf a0, .int a1] h (fun v u => v = some (va_rf r.1) ∧ u = r.2)) (hm0 : ∀ {a0 : Option Nat} {a1 : Int32} {h : PH} {r : (Option Nat × PH)}, rc0 a0 a1 h = some r → lez h (hX r.2) (hV r.2)) {v0 : Option Nat} {v1 : Int32} {h : PH} {r : (Option Nat × PH)} (hM : MC + X0 = (hX r.2)) (hN : MS + V0 = (hV r.2)) (hu : uc + X0 = hX h) (hv : us + V0 = hV h) (hf : fX4_negated_R_b0 rc0 v0 v1 h = some r)  : PW E p l e (rmv (8 + nn + 1) MC MS) s m args below meth c 4 uc us (MQ below (QG E (fun v u => v = some (va_rf r.1) ∧ u = r.2)) args s MC MS (pA E)) h 0 [(0, some (va_rf v0)), (1, some (.int v1))] [] := by
  have hm1 : lez h (hX r.2) (hV r.2) := mX4_negated_R_b0 hm0 hf
  have hcm : uc ≤ MC := (by have o0 := hm1.1; have o1 := hM; have o2 := hu; (try simp only [hX_sI, hX_sR, hX_sL, hX_sD, hX_sIa, hX_sRa, hV_sI, hV_sR, hV_sL, hV_sD, hV_sIa, hV_sRa, hX_new, hV_new] at o0 o1 o2 ⊢); omega)
  have hsm : us ≤ MS := (by have o0 := hm1.2; have o1 := hN; have o2 := hv; (try simp only [hX_sI, hX_sR, hX_sL, hX_sD, hX_sIa, hX_sRa, hV_sI, hV_sR, hV_sL, hV_sD, hV_sIa, hV_sRa, hX_new, hV_new] at o0 o1 o2 ⊢); omega)
  clear hm1
  unfold fX4_negated_R_b0 at hf
  refine p_iload_n X (dcg dc_X4_negated 0 rfl) rfl rfl ?_
  refine p_bipush (v := 40) X (dcg dc_X4_negated 1 rfl) (by decide) ?_
  refine p_icmp_gt (tgt := 13) X (dcg dc_X4_negated 2 rfl) (by decide) (fun q => ?_) (fun q => ?_)
  · have hf := if_t q hf
    refine p_pick [0] ?_
    exact wX4_negated_R_b13 X hG hnm hw0 hm0 hM hN hu hv hf 
  · have hf := if_f q hf
    refine p_aloadq_n X (dcg dc_X4_negated 3 rfl) rfl rfl ?_
    obtain ⟨a2, e3, hf⟩ := gs_some hf
    first | subst e3 | (try rw [e3])
    obtain ⟨hk4, hf⟩ := gd_some hf
    obtain ⟨z5, hz5, hf⟩ := bd_some hf
    refine p_callV (As := []) X ml_X4_63 (dcg dc_X4_negated 4 rfl) rfl rfl hk4 (wX4_isSimple hG hz5) (by omega) (room4 (Nat.le_of_ble_eq_true rfl)) hcm hsm ?_
    rintro _ u9 ⟨rfl, e9⟩; have e9 := e9.symm; subst e9
    refine p_if_eq (tgt := 18) X (dcg dc_X4_negated 5 rfl) (by decide) (fun q => ?_) (fun q => ?_)
    · have hf := if_t q hf
      refine p_aload_n X (dcg dc_X4_negated 9 rfl) rfl rfl ?_
      refine p_getI X fl_X4_9 rfl (by decide) (dcg dc_X4_negated 10 rfl) hk4 ?_
      refine p_iconst (v := 4) X (dcg dc_X4_negated 11 rfl) (by decide) ?_
      refine p_icmp_ne (tgt := 48) X (dcg dc_X4_negated 12 rfl) (by decide) (fun q => ?_) (fun q => ?_)
      · have hf := if_t q hf
        refine p_pick [0, 1] ?_
        exact wX4_negated_R_b48 X hG hnm hw0 hm0 hM hN hu hv hf 
      · have hf := if_f q hf
        refine p_aload_n X (dcg dc_X4_negated 13 rfl) rfl rfl ?_
        refine p_getR X fl_X4_25 rfl (by decide) (dcg dc_X4_negated 14 rfl) hk4 ?_
        obtain ⟨a34, e35, hf⟩ := gs_some hf
        first | subst e35 | (try rw [e35])
        obtain ⟨hk36, hf⟩ := gd_some hf
        obtain ⟨z37, hz37, hf⟩ := bd_some hf
        refine p_callV (As := []) X ml_X4_71 (dcg dc_X4_negated 15 rfl) rfl rfl hk36 (wJx4a65c_size_8abf5 hG hz37) (by omega) (room4 (Nat.le_of_ble_eq_true rfl)) hcm hsm ?_
        rintro _ u9 ⟨rfl, e9⟩; have e9 := e9.symm; subst e9
        refine p_if_le (tgt := 48) X (dcg dc_X4_negated 16 rfl) (by decide) (fun q => ?_) (fun q => ?_)
        · have hf := if_t q hf
          refine p_pick [0, 1] ?_
          exact wX4_negated_R_b48 X hG hnm hw0 hm0 hM hN hu hv hf 
        · have hf := if_f q hf
          refine p_aload_n X (dcg dc_X4_negated 17 rfl) rfl rfl ?_
          refine p_getR X fl_X4_25 rfl (by decide) (dcg dc_X4_negated 18 rfl) hk4 ?_
          refine p_iconst (v := 0) X (dcg dc_X4_negated 19 rfl) (by decide) ?_
          obtain ⟨a38, e39, hf⟩ := gs_some hf
          first | subst e39 | (try rw [e39])
          obtain ⟨hk40, hf⟩ := gd_some hf
          obtain ⟨z41, hz41, hf⟩ := bd_some hf
          refine p_callV (As := [_]) X ml_X4_75 (dcg dc_X4_negated 20 rfl) rfl rfl hk40 (wJx4a65c_get_915e3 hG hz41) (by omega) (room4 (Nat.le_of_ble_eq_true rfl)) hcm hsm ?_
          rintro _ u9 ⟨rfl, e9⟩; have e9 := e9.symm; subst e9
          obtain ⟨a42, e43, hf⟩ := gs_some hf
          first | subst e43 | (try rw [e43])
          obtain ⟨hk44, hf⟩ := gd_some hf
          refine p_cast (q := (RX4, TX4, 4)) X rfl tw_971 (dcg dc_X4_negated 21 rfl) hk44 ?_
          have er := Option.some.inj hf
          subst er
          exact p_aret (r := some _) X rfl (Or.inl ⟨_, rfl⟩) (dcg dc_X4_negated 22 rfl) ⟨rfl, rfl⟩ hcm hsm
    · have hf := if_f q hf
      refine p_pick [0] ?_
      exact wX4_negated_R_b13 X hG hnm hw0 hm0 hM hN hu hv hf 
noncomputable def fX4_negated_R (rc0 : (Option Nat → Int32 → PH → Option (Option Nat × PH))) (v0 : Option Nat) (v1 : Int32) (h : PH) : Option (Option Nat × PH) :=
  fX4_negated_R_b0 rc0 v0 v1 h
set_option maxRecDepth 100000 in
theorem mX4_negated_R {rc0 : (Option Nat → Int32 → PH → Option (Option Nat × PH))} (hm0 : ∀ {a0 : Option Nat} {a1 : Int32} {h : PH} {r : (Option Nat × PH)}, rc0 a0 a1 h = some r → lez h (hX r.2) (hV r.2)) {v0 : Option Nat} {v1 : Int32} {h : PH} {r : (Option Nat × PH)} (hf : fX4_negated_R rc0 v0 v1 h = some r) : lez h (hX r.2) (hV r.2) := by
  unfold fX4_negated_R at hf
  have hle := lez_rf h
  exact lez_rt (mX4_negated_R_b0 hm0 hf) hle
set_option maxRecDepth 100000 in
theorem wX4_negated_R {E : PE} {l : Launch} (hG : Gs E l) {nn : Nat} {rc0 : (Option Nat → Int32 → PH → Option (Option Nat × PH))} (hw0 : ∀ {a0 : Option Nat} {a1 : Int32} {h : PH} {r : (Option Nat × PH)}, rc0 a0 a1 h = some r → Ct E l (8 + nn) ((hX r.2) - hX h) ((hV r.2) - hV h) yX4_negated cX4_negated 4 (some (.object "WordFinder$Node")) [va_rf a0, .int a1] h (fun v u => v = some (va_rf r.1) ∧ u = r.2)) (hm0 : ∀ {a0 : Option Nat} {a1 : Int32} {h : PH} {r : (Option Nat × PH)}, rc0 a0 a1 h = some r → lez h (hX r.2) (hV r.2)) {v0 : Option Nat} {v1 : Int32} {h : PH} {r : (Option Nat × PH)} (hf : fX4_negated_R rc0 v0 v1 h = some r) : Ct E l (8 + nn + 1) ((hX r.2) - hX h) ((hV r.2) - hV h) yX4_negated cX4_negated 4 (some (.object "WordFinder$Node")) [va_rf v0, .int v1] h (fun v u => v = some (va_rf r.1) ∧ u = r.2) := by
  have hmm := mX4_negated_R hm0 hf
  refine ct_of hG (by decide) (by simp [lg_sl, cat_rf, cat_r, cat_i, cat_l, cat_d, cat_f]) ?_
  intro p e s m args below meth c X hnm
  rw [show pargs 0 [va_rf v0, .int v1] = [(0, some (va_rf v0)), (1, some (.int v1))] from by simp [pargs, cat_rf, cat_r, cat_i, cat_l, cat_d, cat_f]]
  unfold fX4_negated_R at hf
  have hM := Nat.sub_add_cancel hmm.1
  have hN := Nat.sub_add_cancel hmm.2
  refine p_pick [0, 1] ?_
  exact wX4_negated_R_b0 X hG hnm hw0 hm0 hM hN (Nat.zero_add _) (Nat.zero_add _) hf
noncomputable def g_X4_negated : Nat → (Option Nat → Int32 → PH → Option (Option Nat × PH))
  | 0 => (fun a0 a1 h => none)
  | n + 1 => (fun a0 a1 h => fX4_negated_R (g_X4_negated n) a0 a1 h)
theorem gm_X4_negated : ∀ n : Nat, ∀ {a0 : Option Nat} {a1 : Int32} {h : PH} {r : (Option Nat × PH)}, (g_X4_negated n) a0 a1 h = some r → lez h (hX r.2) (hV r.2) := by
  intro n
  induction n with
  | zero => exact (fun hf => nomatch (show (none : Option (Option Nat × PH)) = some _ from hf))
  | succ n ih => exact (fun {a0 a1 h r} hf => mX4_negated_R (ih) (show fX4_negated_R (g_X4_negated n) a0 a1 h = some r from hf))
theorem gw_X4_negated {E : PE} {l : Launch} (hG : Gs E l) : ∀ n : Nat, ∀ {a0 : Option Nat} {a1 : Int32} {h : PH} {r : (Option Nat × PH)}, (g_X4_negated n) a0 a1 h = some r → Ct E l (8 + n) ((hX r.2) - hX h) ((hV r.2) - hV h) yX4_negated cX4_negated 4 (some (.object "WordFinder$Node")) [va_rf a0, .int a1] h (fun v u => v = some (va_rf r.1) ∧ u = r.2) := by
  intro n
  induction n with
  | zero => exact (fun hf => nomatch (show (none : Option (Option Nat × PH)) = some _ from hf))
  | succ n ih => exact (fun {a0 a1 h r} hf => wX4_negated_R (nn := n) hG (ih) (gm_X4_negated n) (show fX4_negated_R (g_X4_negated n) a0 a1 h = some r from hf))
noncomputable def fX4_negated (a0 : Option Nat) (a1 : Int32) (h : PH) : Option (Option Nat × PH) := (g_X4_negated 44) a0 a1 h
theorem mX4_negated {a0 : Option Nat} {a1 : Int32} {h : PH} {r : (Option Nat × PH)} (hf : fX4_negated a0 a1 h = some r) : lez h (hX r.2) (hV r.2) := (gm_X4_negated 44) hf
theorem wX4_negated {E : PE} {l : Launch} (hG : Gs E l) {a0 : Option Nat} {a1 : Int32} {h : PH} {r : (Option Nat × PH)} (hf : fX4_negated a0 a1 h = some r) : Ct E l 52 ((hX r.2) - hX h) ((hV r.2) - hV h) yX4_negated cX4_negated 4 (some (.object "WordFinder$Node")) [va_rf a0, .int a1] h (fun v u => v = some (va_rf r.1) ∧ u = r.2) := (gw_X4_negated hG 44) hf
theorem dc_X4_gatherSimple : decs cX4_gatherSimple [(0, .iload_n 2, 1), (1, .bipush 40, 2), (3, .if_icmp .le 4, 3), (6, .return_, 1), (7, .aload_n 0, 1), (8, .invokevirtual 63, 3), (11, .ifCond .eq 9, 3), (14, .aload_n 1, 1), (15, .aload_n 0, 1), (16, .invokevirtual 39, 3), (19, .pop, 1), (20, .iconst 0, 1), (21, .istore_n 3, 1), (22, .iload_n 3, 1), (23, .aload_n 0, 1), (24, .getfield 25, 3), (27, .invokevirtual 71, 3), (30, .if_icmp .ge 27, 3), (33, .aload_n 0, 1), (34, .getfield 25, 3), (37, .iload_n 3, 1), (38, .invokevirtual 75, 3), (41, .checkcast 10, 3), (44, .aload_n 1, 1), (45, .iload_n 2, 1), (46, .iconst 1, 1), (47, .iadd, 1), (48, .invokestatic 95, 3), (51, .iinc 3 1, 3), (54, .goto (-32), 3), (57, .return_, 1)] = true := by decide +kernel
noncomputable def fX4_gatherSimple_R_b51 (rc0 : (Option Nat → Option Nat → Int32 → PH → Option PH)) (v0 : Option Nat) (v1 : Option Nat) (v2 : Int32) (v3 : Int32) (h : PH) : Option ((Int32 × PH) ⊕ PH) :=
  some (.inl ((v3 + 1), h))
set_option maxRecDepth 100000 in
theorem mX4_gatherSimple_R_b51 {rc0 : (Option Nat → Option Nat → Int32 → PH → Option PH)} (hm0 : ∀ {a0 : Option Nat} {a1 : Option Nat} {a2 : Int32} {h : PH} {r : PH}, rc0 a0 a1 a2 h = some r → lez h (hX r) (hV r)) {v0 : Option Nat} {v1 : Option Nat} {v2 : Int32} {v3 : Int32} {h : PH} {x : ((Int32 × PH) ⊕ PH)} (hf : fX4_gatherSimple_R_b51 rc0 v0 v1 v2 v3 h = some x) : (∀ w9 : (Int32 × PH), x = .inl w9 → lez h (hX (w9.2)) (hV (w9.2))) ∧ (∀ w9 : PH, x = .inr w9 → lez h (hX w9) (hV w9)) := by
  unfold fX4_gatherSimple_R_b51 at hf
  have hle := lez_rf h
  have ee := Option.some.inj hf; subst ee
  exact ⟨(fun z e => by have ee := Sum.inl.inj (e); subst ee; exact hle), (fun z e => nomatch e)⟩
set_option maxRecDepth 100000 in
theorem wX4_gatherSimple_R_b51 {E : PE} {p : Program} {l : Launch} {e : Env} {s : State} {m : MethodId} {args : Array Value} {below : List Frame} {meth : Method} {c : Code} {X0 V0 MC MS uc us : Nat} {nn : Nat} (X : Cx E p l e (rmv (7 + nn + 1) MC MS) s m args below meth c RX4 cX4_gatherSimple 4 (none)) (hG : Gs E l) (hnm : meth.name = yX4_gatherSimple.name) {rc0 : (Option Nat → Option Nat → Int32 → PH → Option PH)} (hw0 : ∀ {a0 : Option Nat} {a1 : Option Nat} {a2 : Int32} {h : PH} {r : PH}, rc0 a0 a1 a2 h = some r → Ct E l (7 + nn) ((hX r) - hX h) ((hV r) - hV h) yX4_gatherSimple cX4_gatherSimple 4 (none) [va_rf a0, va_rf a1, .int a2] h (fun v u => v = none ∧ u = r)) (hm0 : ∀ {a0 : Option Nat} {a1 : Option Nat} {a2 : Int32} {h : PH} {r : PH}, rc0 a0 a1 a2 h = some r → lez h (hX r) (hV r)) {v0 : Option Nat} {v1 : Option Nat} {v2 : Int32} {v3 : Int32} {h : PH} {r : PH} {x : ((Int32 × PH) ⊕ PH)} (hM : MC + X0 = (hX r)) (hN : MS + V0 = (hV r)) (hu : uc + X0 = hX h) (hv : us + V0 = hV h) (hf : fX4_gatherSimple_R_b51 rc0 v0 v1 v2 v3 h = some x) (k0 : ∀ (z : (Int32 × PH)) (uc us : Nat), x = .inl z → uc + X0 = hX (z.2) → us + V0 = hV (z.2) → PW E p l e (rmv (7 + nn + 1) MC MS) s m args below meth c 4 uc us (MQ below (QG E (fun v u => v = none ∧ u = r)) args s MC MS (pA E)) (z.2) 22 [(0, some (va_rf v0)), (1, some (va_rf v1)), (2, some (.int v2)), (3, some (.int (z.1)))] []) (kl0 : ∀ z : (Int32 × PH), x = .inl z → lez (z.2) (hX r) (hV r)) (kf : ∀ z : PH, x = .inr z → z = r) : PW E p l e (rmv (7 + nn + 1) MC MS) s m args below meth c 4 uc us (MQ below (QG E (fun v u => v = none ∧ u = r)) args s MC MS (pA E)) h 51 [(0, some (va_rf v0)), (1, some (va_rf v1)), (2, some (.int v2)), (3, some (.int v3))] [] := by
  have hm1 : lez h (hX r) (hV r) := by
    obtain ⟨c0, cf⟩ := mX4_gatherSimple_R_b51 hm0 hf
    rcases hxx : x with zz | zz
    · exact lez_tr (c0 zz hxx) (kl0 zz hxx)
    · have ee := kf zz hxx; subst ee; exact cf zz hxx
  have hcm : uc ≤ MC := (by have o0 := hm1.1; have o1 := hM; have o2 := hu; (try simp only [hX_sI, hX_sR, hX_sL, hX_sD, hX_sIa, hX_sRa, hV_sI, hV_sR, hV_sL, hV_sD, hV_sIa, hV_sRa, hX_new, hV_new] at o0 o1 o2 ⊢); omega)
  have hsm : us ≤ MS := (by have o0 := hm1.2; have o1 := hN; have o2 := hv; (try simp only [hX_sI, hX_sR, hX_sL, hX_sD, hX_sIa, hX_sRa, hV_sI, hV_sR, hV_sL, hV_sD, hV_sIa, hV_sRa, hX_new, hV_new] at o0 o1 o2 ⊢); omega)
  clear hm1
  unfold fX4_gatherSimple_R_b51 at hf
  refine p_iinc (v := 1) X (dcg dc_X4_gatherSimple 28 rfl) rfl (by decide) (by decide) rfl ?_
  refine p_goto (tgt := 22) X (dcg dc_X4_gatherSimple 29 rfl) (by decide) ?_
  refine p_pick [0, 1, 2, 3] ?_
  exact k0 _ _ _ (Option.some.inj hf).symm hu hv
noncomputable def fX4_gatherSimple_R_c22 (rc0 : (Option Nat → Option Nat → Int32 → PH → Option PH)) (v0 : Option Nat) (v1 : Option Nat) (v2 : Int32) (v3 : Int32) (h : PH) : Option ((Int32 × PH) ⊕ PH) :=
  gs v0 (fun a5 =>
  gd (hK h a5 = 4) (gs (hR h 4 a5 3) (fun a8 =>
  gd (hK h a8 = 14) (bd (fJx4a65c_size_8abf5 a8 h) (fun z11 =>
  if (z11 ≤ v3) then (mr (some (h))) else
  gs (hR h 4 a5 3) (fun a14 =>
  gd (hK h a14 = 14) (bd (fJx4a65c_get_915e3 a14 v3 h) (fun z17 =>
  gs z17 (fun a18 =>
  gd (hK h a18 = 4) (bd (rc0 (some a18) v1 (v2 + (1 : Int32)) h) (fun z21 =>
  fX4_gatherSimple_R_b51 rc0 (some a5) v1 v2 v3 z21)))))))))))
set_option maxRecDepth 100000 in
theorem mX4_gatherSimple_R_c22 {rc0 : (Option Nat → Option Nat → Int32 → PH → Option PH)} (hm0 : ∀ {a0 : Option Nat} {a1 : Option Nat} {a2 : Int32} {h : PH} {r : PH}, rc0 a0 a1 a2 h = some r → lez h (hX r) (hV r)) {v0 : Option Nat} {v1 : Option Nat} {v2 : Int32} {v3 : Int32} {h : PH} {x : ((Int32 × PH) ⊕ PH)} (hf : fX4_gatherSimple_R_c22 rc0 v0 v1 v2 v3 h = some x) : (∀ w9 : (Int32 × PH), x = .inl w9 → lez h (hX (w9.2)) (hV (w9.2))) ∧ (∀ w9 : PH, x = .inr w9 → lez h (hX w9) (hV w9)) := by
  unfold fX4_gatherSimple_R_c22 at hf
  have hle := lez_rf h
  obtain ⟨a5, e6, hf⟩ := gs_some hf
  obtain ⟨hk7, hf⟩ := gd_some hf
  obtain ⟨a8, e9, hf⟩ := gs_some hf
  obtain ⟨hk10, hf⟩ := gd_some hf
  obtain ⟨z11, hz11, hf⟩ := bd_some hf
  rcases ite_or hf with ⟨q, hf⟩ | ⟨q, hf⟩
  · have hf := if_t q hf
    obtain ⟨y12, hfm, rfl⟩ := mr_some hf; have hf := hfm; clear hfm
    have ee := Option.some.inj hf; subst ee
    exact ⟨(fun z e => nomatch e), (fun z e => by have ee := Sum.inr.inj (e); subst ee; exact hle)⟩
  · have hf := if_f q hf
    obtain ⟨a14, e15, hf⟩ := gs_some hf
    obtain ⟨hk16, hf⟩ := gd_some hf
    obtain ⟨z17, hz17, hf⟩ := bd_some hf
    obtain ⟨a18, e19, hf⟩ := gs_some hf
    obtain ⟨hk20, hf⟩ := gd_some hf
    obtain ⟨z21, hz21, hf⟩ := bd_some hf
    have hle := lez_rt (hm0 hz21) hle
    obtain ⟨c0, cf⟩ := mX4_gatherSimple_R_b51 hm0 hf
    exact ⟨fun z e => lez_rt (c0 z (e)) hle, fun z e => lez_rt (cf z (e)) hle⟩
set_option maxRecDepth 100000 in
theorem wX4_gatherSimple_R_c22 {E : PE} {p : Program} {l : Launch} {e : Env} {s : State} {m : MethodId} {args : Array Value} {below : List Frame} {meth : Method} {c : Code} {X0 V0 MC MS uc us : Nat} {nn : Nat} (X : Cx E p l e (rmv (7 + nn + 1) MC MS) s m args below meth c RX4 cX4_gatherSimple 4 (none)) (hG : Gs E l) (hnm : meth.name = yX4_gatherSimple.name) {rc0 : (Option Nat → Option Nat → Int32 → PH → Option PH)} (hw0 : ∀ {a0 : Option Nat} {a1 : Option Nat} {a2 : Int32} {h : PH} {r : PH}, rc0 a0 a1 a2 h = some r → Ct E l (7 + nn) ((hX r) - hX h) ((hV r) - hV h) yX4_gatherSimple cX4_gatherSimple 4 (none) [va_rf a0, va_rf a1, .int a2] h (fun v u => v = none ∧ u = r)) (hm0 : ∀ {a0 : Option Nat} {a1 : Option Nat} {a2 : Int32} {h : PH} {r : PH}, rc0 a0 a1 a2 h = some r → lez h (hX r) (hV r)) {v0 : Option Nat} {v1 : Option Nat} {v2 : Int32} {v3 : Int32} {h : PH} {r : PH} {x : ((Int32 × PH) ⊕ PH)} (hM : MC + X0 = (hX r)) (hN : MS + V0 = (hV r)) (hu : uc + X0 = hX h) (hv : us + V0 = hV h) (hf : fX4_gatherSimple_R_c22 rc0 v0 v1 v2 v3 h = some x) (k0 : ∀ (z : (Int32 × PH)) (uc us : Nat), x = .inl z → uc + X0 = hX (z.2) → us + V0 = hV (z.2) → PW E p l e (rmv (7 + nn + 1) MC MS) s m args below meth c 4 uc us (MQ below (QG E (fun v u => v = none ∧ u = r)) args s MC MS (pA E)) (z.2) 22 [(0, some (va_rf v0)), (1, some (va_rf v1)), (2, some (.int v2)), (3, some (.int (z.1)))] []) (kl0 : ∀ z : (Int32 × PH), x = .inl z → lez (z.2) (hX r) (hV r)) (kf : ∀ z : PH, x = .inr z → z = r) : PW E p l e (rmv (7 + nn + 1) MC MS) s m args below meth c 4 uc us (MQ below (QG E (fun v u => v = none ∧ u = r)) args s MC MS (pA E)) h 22 [(0, some (va_rf v0)), (1, some (va_rf v1)), (2, some (.int v2)), (3, some (.int v3))] [] := by
  have hm1 : lez h (hX r) (hV r) := by
    obtain ⟨c0, cf⟩ := mX4_gatherSimple_R_c22 hm0 hf
    rcases hxx : x with zz | zz
    · exact lez_tr (c0 zz hxx) (kl0 zz hxx)
    · have ee := kf zz hxx; subst ee; exact cf zz hxx
  have hcm : uc ≤ MC := (by have o0 := hm1.1; have o1 := hM; have o2 := hu; (try simp only [hX_sI, hX_sR, hX_sL, hX_sD, hX_sIa, hX_sRa, hV_sI, hV_sR, hV_sL, hV_sD, hV_sIa, hV_sRa, hX_new, hV_new] at o0 o1 o2 ⊢); omega)
  have hsm : us ≤ MS := (by have o0 := hm1.2; have o1 := hN; have o2 := hv; (try simp only [hX_sI, hX_sR, hX_sL, hX_sD, hX_sIa, hX_sRa, hV_sI, hV_sR, hV_sL, hV_sD, hV_sIa, hV_sRa, hX_new, hV_new] at o0 o1 o2 ⊢); omega)
  clear hm1
  unfold fX4_gatherSimple_R_c22 at hf
  refine p_iload_n X (dcg dc_X4_gatherSimple 13 rfl) rfl rfl ?_
  refine p_aloadq_n X (dcg dc_X4_gatherSimple 14 rfl) rfl rfl ?_
  obtain ⟨a5, e6, hf⟩ := gs_some hf
  first | subst e6 | (try rw [e6])
  obtain ⟨hk7, hf⟩ := gd_some hf
  refine p_getR X fl_X4_25 rfl (by decide) (dcg dc_X4_gatherSimple 15 rfl) hk7 ?_
  obtain ⟨a8, e9, hf⟩ := gs_some hf
  first | subst e9 | (try rw [e9])
  obtain ⟨hk10, hf⟩ := gd_some hf
  obtain ⟨z11, hz11, hf⟩ := bd_some hf
  refine p_callV (As := []) X ml_X4_71 (dcg dc_X4_gatherSimple 16 rfl) rfl rfl hk10 (wJx4a65c_size_8abf5 hG hz11) (by omega) (room4 (Nat.le_of_ble_eq_true rfl)) hcm hsm ?_
  rintro _ u9 ⟨rfl, e9⟩; have e9 := e9.symm; subst e9
  refine p_icmp_ge (tgt := 57) X (dcg dc_X4_gatherSimple 17 rfl) (by decide) (fun q => ?_) (fun q => ?_)
  · have hf := if_t q hf
    obtain ⟨y12, hf, hy13⟩ := mr_some hf
    have hy13f := kf y12 hy13
    subst hy13f
    have er := Option.some.inj hf
    subst er
    exact p_vret X rfl (dcg dc_X4_gatherSimple 30 rfl) ⟨rfl, rfl⟩ hcm hsm
  · have hf := if_f q hf
    refine p_aload_n X (dcg dc_X4_gatherSimple 18 rfl) rfl rfl ?_
    refine p_getR X fl_X4_25 rfl (by decide) (dcg dc_X4_gatherSimple 19 rfl) hk7 ?_
    refine p_iload_n X (dcg dc_X4_gatherSimple 20 rfl) rfl rfl ?_
    obtain ⟨a14, e15, hf⟩ := gs_some hf
    first | subst e15 | (try rw [e15])
    obtain ⟨hk16, hf⟩ := gd_some hf
    obtain ⟨z17, hz17, hf⟩ := bd_some hf
    refine p_callV (As := [_]) X ml_X4_75 (dcg dc_X4_gatherSimple 21 rfl) rfl rfl hk16 (wJx4a65c_get_915e3 hG hz17) (by omega) (room4 (Nat.le_of_ble_eq_true rfl)) hcm hsm ?_
    rintro _ u9 ⟨rfl, e9⟩; have e9 := e9.symm; subst e9
    obtain ⟨a18, e19, hf⟩ := gs_some hf
    first | subst e19 | (try rw [e19])
    obtain ⟨hk20, hf⟩ := gd_some hf
    refine p_cast (q := (RX4, TX4, 4)) X rfl tw_971 (dcg dc_X4_gatherSimple 22 rfl) hk20 ?_
    refine p_aloadq_n X (dcg dc_X4_gatherSimple 23 rfl) rfl rfl ?_
    refine p_iload_n X (dcg dc_X4_gatherSimple 24 rfl) rfl rfl ?_
    refine p_iconst (v := 1) X (dcg dc_X4_gatherSimple 25 rfl) (by decide) ?_
    refine p_iadd X (dcg dc_X4_gatherSimple 26 rfl) ?_
    obtain ⟨z21, hz21, hf⟩ := bd_some hf
    have hc1 := hm0 hz21
    obtain ⟨c0, cf⟩ := mX4_gatherSimple_R_b51 hm0 hf
    have hm1 := (nst1 (fun zz hxx => lez_tr (c0 zz hxx) (kl0 zz hxx)) (fun zz hxx => by have ee := kf zz hxx; subst ee; exact cf zz hxx))
    refine p_callS (As := [va_rf (some _), va_rf _, _]) X ml_X4_95 (dcg dc_X4_gatherSimple 27 rfl) rfl rfl  (hw0 hz21) (by omega) (room4 (Nat.le_of_ble_eq_true rfl)) (by have o0 := hm1.1; have o1 := hc1.1; have o2 := hM; have o3 := hu; (try simp only [hX_sI, hX_sR, hX_sL, hX_sD, hX_sIa, hX_sRa, hV_sI, hV_sR, hV_sL, hV_sD, hV_sIa, hV_sRa, hX_new, hV_new] at o0 o1 o2 o3 ⊢); omega) (by have o0 := hm1.2; have o1 := hc1.2; have o2 := hN; have o3 := hv; (try simp only [hX_sI, hX_sR, hX_sL, hX_sD, hX_sIa, hX_sRa, hV_sI, hV_sR, hV_sL, hV_sD, hV_sIa, hV_sRa, hX_new, hV_new] at o0 o1 o2 o3 ⊢); omega) ?_
    rintro _ u9 ⟨rfl, e9⟩; have e9 := e9.symm; subst e9
    refine p_pick [0, 1, 2, 3] ?_
    exact wX4_gatherSimple_R_b51 X hG hnm hw0 hm0 hM hN (by have o0 := hc1.1; have o1 := hu; (try simp only [hX_sI, hX_sR, hX_sL, hX_sD, hX_sIa, hX_sRa, hV_sI, hV_sR, hV_sL, hV_sD, hV_sIa, hV_sRa, hX_new, hV_new] at o0 o1 ⊢); omega) (by have o0 := hc1.2; have o1 := hv; (try simp only [hX_sI, hX_sR, hX_sL, hX_sD, hX_sIa, hX_sRa, hV_sI, hV_sR, hV_sL, hV_sD, hV_sIa, hV_sRa, hX_new, hV_new] at o0 o1 ⊢); omega) hf k0 kl0 kf
noncomputable def fX4_gatherSimple_R_l22 (rc0 : (Option Nat → Option Nat → Int32 → PH → Option PH)) (v0 : Option Nat) (v1 : Option Nat) (v2 : Int32) (v3 : Int32) (h : PH) : Option PH := wh (fun z : (Int32 × PH) => fX4_gatherSimple_R_c22 rc0 v0 v1 v2 (z.1) (z.2)) (v3, h)
set_option maxRecDepth 100000 in
theorem mX4_gatherSimple_R_l22 {rc0 : (Option Nat → Option Nat → Int32 → PH → Option PH)} (hm0 : ∀ {a0 : Option Nat} {a1 : Option Nat} {a2 : Int32} {h : PH} {r : PH}, rc0 a0 a1 a2 h = some r → lez h (hX r) (hV r)) {v0 : Option Nat} {v1 : Option Nat} {v2 : Int32} {v3 : Int32} {h : PH} {r : PH} (hf : fX4_gatherSimple_R_l22 rc0 v0 v1 v2 v3 h = some r) : lez h (hX r) (hV r) := by
  unfold fX4_gatherSimple_R_l22 at hf
  refine wh_ind (P := fun z => lez (z.2) (hX r) (hV r)) (fun z x0 hs i1 i2 => ?_) _ hf
  obtain ⟨c0, cf⟩ := mX4_gatherSimple_R_c22 (v0 := v0) (v1 := v1) (v2 := v2) (v3 := z.1) (h := z.2) hm0 hs
  rcases hxx : x0 with zz | zz
  · exact lez_tr (c0 zz hxx) (i1 zz hxx)
  · have ee := i2 zz hxx; subst ee; exact cf zz hxx
set_option maxRecDepth 100000 in
theorem wX4_gatherSimple_R_l22 {E : PE} {p : Program} {l : Launch} {e : Env} {s : State} {m : MethodId} {args : Array Value} {below : List Frame} {meth : Method} {c : Code} {X0 V0 MC MS uc us : Nat} {nn : Nat} (X : Cx E p l e (rmv (7 + nn + 1) MC MS) s m args below meth c RX4 cX4_gatherSimple 4 (none)) (hG : Gs E l) (hnm : meth.name = yX4_gatherSimple.name) {rc0 : (Option Nat → Option Nat → Int32 → PH → Option PH)} (hw0 : ∀ {a0 : Option Nat} {a1 : Option Nat} {a2 : Int32} {h : PH} {r : PH}, rc0 a0 a1 a2 h = some r → Ct E l (7 + nn) ((hX r) - hX h) ((hV r) - hV h) yX4_gatherSimple cX4_gatherSimple 4 (none) [va_rf a0, va_rf a1, .int a2] h (fun v u => v = none ∧ u = r)) (hm0 : ∀ {a0 : Option Nat} {a1 : Option Nat} {a2 : Int32} {h : PH} {r : PH}, rc0 a0 a1 a2 h = some r → lez h (hX r) (hV r)) {v0 : Option Nat} {v1 : Option Nat} {v2 : Int32} {v3 : Int32} {h : PH} {r : PH} (hM : MC + X0 = (hX r)) (hN : MS + V0 = (hV r)) (hu : uc + X0 = hX h) (hv : us + V0 = hV h) (hf : fX4_gatherSimple_R_l22 rc0 v0 v1 v2 v3 h = some r)  : PW E p l e (rmv (7 + nn + 1) MC MS) s m args below meth c 4 uc us (MQ below (QG E (fun v u => v = none ∧ u = r)) args s MC MS (pA E)) h 22 [(0, some (va_rf v0)), (1, some (va_rf v1)), (2, some (.int v2)), (3, some (.int v3))] [] := by
  unfold fX4_gatherSimple_R_l22 at hf
  refine wh_ind2 (P := fun z => ∀ uc us : Nat, uc + X0 = hX (z.2) → us + V0 = hV (z.2) → PW E p l e (rmv (7 + nn + 1) MC MS) s m args below meth c 4 uc us (MQ below (QG E (fun v u => v = none ∧ u = r)) args s MC MS (pA E)) (z.2) 22 [(0, some (va_rf v0)), (1, some (va_rf v1)), (2, some (.int v2)), (3, some (.int (z.1)))] []) (fun z x0 hs i1 i2 uc us hu hv => ?_) _ hf uc us hu hv
  exact wX4_gatherSimple_R_c22 (r := r) (v0 := v0) (v1 := v1) (v2 := v2) (v3 := z.1) (h := z.2) X hG hnm hw0 hm0 hM hN hu hv hs (fun z1 uc1 us1 e1 e2 e3 => (i1 z1 e1).1 uc1 us1 e2 e3) (fun z1 e1 => mX4_gatherSimple_R_l22 (v0 := v0) (v1 := v1) (v2 := v2) (v3 := z1.1) (h := z1.2) hm0 (by unfold fX4_gatherSimple_R_l22; exact (i1 z1 e1).2))  i2
noncomputable def fX4_gatherSimple_R_b20 (rc0 : (Option Nat → Option Nat → Int32 → PH → Option PH)) (v0 : Option Nat) (v1 : Option Nat) (v2 : Int32) (h : PH) : Option PH :=
  fX4_gatherSimple_R_l22 rc0 v0 v1 v2 (0 : Int32) h
set_option maxRecDepth 100000 in
theorem mX4_gatherSimple_R_b20 {rc0 : (Option Nat → Option Nat → Int32 → PH → Option PH)} (hm0 : ∀ {a0 : Option Nat} {a1 : Option Nat} {a2 : Int32} {h : PH} {r : PH}, rc0 a0 a1 a2 h = some r → lez h (hX r) (hV r)) {v0 : Option Nat} {v1 : Option Nat} {v2 : Int32} {h : PH} {r : PH} (hf : fX4_gatherSimple_R_b20 rc0 v0 v1 v2 h = some r) : lez h (hX r) (hV r) := by
  unfold fX4_gatherSimple_R_b20 at hf
  have hle := lez_rf h
  exact lez_rt (mX4_gatherSimple_R_l22 hm0 hf) hle
set_option maxRecDepth 100000 in
theorem wX4_gatherSimple_R_b20 {E : PE} {p : Program} {l : Launch} {e : Env} {s : State} {m : MethodId} {args : Array Value} {below : List Frame} {meth : Method} {c : Code} {X0 V0 MC MS uc us : Nat} {nn : Nat} (X : Cx E p l e (rmv (7 + nn + 1) MC MS) s m args below meth c RX4 cX4_gatherSimple 4 (none)) (hG : Gs E l) (hnm : meth.name = yX4_gatherSimple.name) {rc0 : (Option Nat → Option Nat → Int32 → PH → Option PH)} (hw0 : ∀ {a0 : Option Nat} {a1 : Option Nat} {a2 : Int32} {h : PH} {r : PH}, rc0 a0 a1 a2 h = some r → Ct E l (7 + nn) ((hX r) - hX h) ((hV r) - hV h) yX4_gatherSimple cX4_gatherSimple 4 (none) [va_rf a0, va_rf a1, .int a2] h (fun v u => v = none ∧ u = r)) (hm0 : ∀ {a0 : Option Nat} {a1 : Option Nat} {a2 : Int32} {h : PH} {r : PH}, rc0 a0 a1 a2 h = some r → lez h (hX r) (hV r)) {v0 : Option Nat} {v1 : Option Nat} {v2 : Int32} {h : PH} {r : PH} (hM : MC + X0 = (hX r)) (hN : MS + V0 = (hV r)) (hu : uc + X0 = hX h) (hv : us + V0 = hV h) (hf : fX4_gatherSimple_R_b20 rc0 v0 v1 v2 h = some r)  : PW E p l e (rmv (7 + nn + 1) MC MS) s m args below meth c 4 uc us (MQ below (QG E (fun v u => v = none ∧ u = r)) args s MC MS (pA E)) h 20 [(0, some (va_rf v0)), (1, some (va_rf v1)), (2, some (.int v2))] [] := by
  have hm1 : lez h (hX r) (hV r) := mX4_gatherSimple_R_b20 hm0 hf
  have hcm : uc ≤ MC := (by have o0 := hm1.1; have o1 := hM; have o2 := hu; (try simp only [hX_sI, hX_sR, hX_sL, hX_sD, hX_sIa, hX_sRa, hV_sI, hV_sR, hV_sL, hV_sD, hV_sIa, hV_sRa, hX_new, hV_new] at o0 o1 o2 ⊢); omega)
  have hsm : us ≤ MS := (by have o0 := hm1.2; have o1 := hN; have o2 := hv; (try simp only [hX_sI, hX_sR, hX_sL, hX_sD, hX_sIa, hX_sRa, hV_sI, hV_sR, hV_sL, hV_sD, hV_sIa, hV_sRa, hX_new, hV_new] at o0 o1 o2 ⊢); omega)
  clear hm1
  unfold fX4_gatherSimple_R_b20 at hf
  refine p_iconst (v := 0) X (dcg dc_X4_gatherSimple 11 rfl) (by decide) ?_
  refine p_istore_n X (dcg dc_X4_gatherSimple 12 rfl) rfl (by decide) rfl ?_
  refine p_pick [0, 1, 2, 3] ?_
  exact wX4_gatherSimple_R_l22 X hG hnm hw0 hm0 hM hN hu hv hf 
noncomputable def fX4_gatherSimple_R_b19 (rc0 : (Option Nat → Option Nat → Int32 → PH → Option PH)) (v0 : Option Nat) (v1 : Option Nat) (v2 : Int32) (t0 : Int32) (h : PH) : Option PH :=
  fX4_gatherSimple_R_b20 rc0 v0 v1 v2 h
set_option maxRecDepth 100000 in
theorem mX4_gatherSimple_R_b19 {rc0 : (Option Nat → Option Nat → Int32 → PH → Option PH)} (hm0 : ∀ {a0 : Option Nat} {a1 : Option Nat} {a2 : Int32} {h : PH} {r : PH}, rc0 a0 a1 a2 h = some r → lez h (hX r) (hV r)) {v0 : Option Nat} {v1 : Option Nat} {v2 : Int32} {t0 : Int32} {h : PH} {r : PH} (hf : fX4_gatherSimple_R_b19 rc0 v0 v1 v2 t0 h = some r) : lez h (hX r) (hV r) := by
  unfold fX4_gatherSimple_R_b19 at hf
  have hle := lez_rf h
  exact lez_rt (mX4_gatherSimple_R_b20 hm0 hf) hle
set_option maxRecDepth 100000 in
theorem wX4_gatherSimple_R_b19 {E : PE} {p : Program} {l : Launch} {e : Env} {s : State} {m : MethodId} {args : Array Value} {below : List Frame} {meth : Method} {c : Code} {X0 V0 MC MS uc us : Nat} {nn : Nat} (X : Cx E p l e (rmv (7 + nn + 1) MC MS) s m args below meth c RX4 cX4_gatherSimple 4 (none)) (hG : Gs E l) (hnm : meth.name = yX4_gatherSimple.name) {rc0 : (Option Nat → Option Nat → Int32 → PH → Option PH)} (hw0 : ∀ {a0 : Option Nat} {a1 : Option Nat} {a2 : Int32} {h : PH} {r : PH}, rc0 a0 a1 a2 h = some r → Ct E l (7 + nn) ((hX r) - hX h) ((hV r) - hV h) yX4_gatherSimple cX4_gatherSimple 4 (none) [va_rf a0, va_rf a1, .int a2] h (fun v u => v = none ∧ u = r)) (hm0 : ∀ {a0 : Option Nat} {a1 : Option Nat} {a2 : Int32} {h : PH} {r : PH}, rc0 a0 a1 a2 h = some r → lez h (hX r) (hV r)) {v0 : Option Nat} {v1 : Option Nat} {v2 : Int32} {t0 : Int32} {h : PH} {r : PH} (hM : MC + X0 = (hX r)) (hN : MS + V0 = (hV r)) (hu : uc + X0 = hX h) (hv : us + V0 = hV h) (hf : fX4_gatherSimple_R_b19 rc0 v0 v1 v2 t0 h = some r)  : PW E p l e (rmv (7 + nn + 1) MC MS) s m args below meth c 4 uc us (MQ below (QG E (fun v u => v = none ∧ u = r)) args s MC MS (pA E)) h 19 [(0, some (va_rf v0)), (1, some (va_rf v1)), (2, some (.int v2))] [.int t0] := by
  have hm1 : lez h (hX r) (hV r) := mX4_gatherSimple_R_b19 hm0 hf
  have hcm : uc ≤ MC := (by have o0 := hm1.1; have o1 := hM; have o2 := hu; (try simp only [hX_sI, hX_sR, hX_sL, hX_sD, hX_sIa, hX_sRa, hV_sI, hV_sR, hV_sL, hV_sD, hV_sIa, hV_sRa, hX_new, hV_new] at o0 o1 o2 ⊢); omega)
  have hsm : us ≤ MS := (by have o0 := hm1.2; have o1 := hN; have o2 := hv; (try simp only [hX_sI, hX_sR, hX_sL, hX_sD, hX_sIa, hX_sRa, hV_sI, hV_sR, hV_sL, hV_sD, hV_sIa, hV_sRa, hX_new, hV_new] at o0 o1 o2 ⊢); omega)
  clear hm1
  unfold fX4_gatherSimple_R_b19 at hf
  refine p_pop X (dcg dc_X4_gatherSimple 10 rfl) rfl ?_
  refine p_pick [0, 1, 2] ?_
  exact wX4_gatherSimple_R_b20 X hG hnm hw0 hm0 hM hN hu hv hf 
noncomputable def fX4_gatherSimple_R_b0 (rc0 : (Option Nat → Option Nat → Int32 → PH → Option PH)) (v0 : Option Nat) (v1 : Option Nat) (v2 : Int32) (h : PH) : Option PH :=
  if (v2 ≤ (40 : Int32)) then (gs v0 (fun a1 =>
  gd (hK h a1 = 4) (bd (fX4_isSimple a1 h) (fun z4 =>
  if (z4 = 0) then (fX4_gatherSimple_R_b20 rc0 (some a1) v1 v2 h) else
  gs v1 (fun a22 =>
  gd (hK h a22 = 14) (bd (fJx4a65c_add_9ea2d a22 (some a1) h) (fun z25 =>
  fX4_gatherSimple_R_b19 rc0 (some a1) (some a22) v2 z25.1 z25.2))))))) else
  some (h)
set_option maxRecDepth 100000 in
theorem mX4_gatherSimple_R_b0 {rc0 : (Option Nat → Option Nat → Int32 → PH → Option PH)} (hm0 : ∀ {a0 : Option Nat} {a1 : Option Nat} {a2 : Int32} {h : PH} {r : PH}, rc0 a0 a1 a2 h = some r → lez h (hX r) (hV r)) {v0 : Option Nat} {v1 : Option Nat} {v2 : Int32} {h : PH} {r : PH} (hf : fX4_gatherSimple_R_b0 rc0 v0 v1 v2 h = some r) : lez h (hX r) (hV r) := by
  unfold fX4_gatherSimple_R_b0 at hf
  have hle := lez_rf h
  rcases ite_or hf with ⟨q, hf⟩ | ⟨q, hf⟩
  · have hf := if_t q hf
    obtain ⟨a1, e2, hf⟩ := gs_some hf
    obtain ⟨hk3, hf⟩ := gd_some hf
    obtain ⟨z4, hz4, hf⟩ := bd_some hf
    rcases ite_or hf with ⟨q, hf⟩ | ⟨q, hf⟩
    · have hf := if_t q hf
      exact lez_rt (mX4_gatherSimple_R_b20 hm0 hf) hle
    · have hf := if_f q hf
      obtain ⟨a22, e23, hf⟩ := gs_some hf
      obtain ⟨hk24, hf⟩ := gd_some hf
      obtain ⟨z25, hz25, hf⟩ := bd_some hf
      have hle := lez_rt (mJx4a65c_add_9ea2d hz25) hle
      exact lez_rt (mX4_gatherSimple_R_b19 hm0 hf) hle
  · have hf := if_f q hf
    have ee := Option.some.inj hf; subst ee; exact hle
set_option maxRecDepth 100000 in
theorem wX4_gatherSimple_R_b0 {E : PE} {p : Program} {l : Launch} {e : Env} {s : State} {m : MethodId} {args : Array Value} {below : List Frame} {meth : Method} {c : Code} {X0 V0 MC MS uc us : Nat} {nn : Nat} (X : Cx E p l e (rmv (7 + nn + 1) MC MS) s m args below meth c RX4 cX4_gatherSimple 4 (none)) (hG : Gs E l) (hnm : meth.name = yX4_gatherSimple.name) {rc0 : (Option Nat → Option Nat → Int32 → PH → Option PH)} (hw0 : ∀ {a0 : Option Nat} {a1 : Option Nat} {a2 : Int32} {h : PH} {r : PH}, rc0 a0 a1 a2 h = some r → Ct E l (7 + nn) ((hX r) - hX h) ((hV r) - hV h) yX4_gatherSimple cX4_gatherSimple 4 (none) [va_rf a0, va_rf a1, .int a2] h (fun v u => v = none ∧ u = r)) (hm0 : ∀ {a0 : Option Nat} {a1 : Option Nat} {a2 : Int32} {h : PH} {r : PH}, rc0 a0 a1 a2 h = some r → lez h (hX r) (hV r)) {v0 : Option Nat} {v1 : Option Nat} {v2 : Int32} {h : PH} {r : PH} (hM : MC + X0 = (hX r)) (hN : MS + V0 = (hV r)) (hu : uc + X0 = hX h) (hv : us + V0 = hV h) (hf : fX4_gatherSimple_R_b0 rc0 v0 v1 v2 h = some r)  : PW E p l e (rmv (7 + nn + 1) MC MS) s m args below meth c 4 uc us (MQ below (QG E (fun v u => v = none ∧ u = r)) args s MC MS (pA E)) h 0 [(0, some (va_rf v0)), (1, some (va_rf v1)), (2, some (.int v2))] [] := by
  have hm1 : lez h (hX r) (hV r) := mX4_gatherSimple_R_b0 hm0 hf
  have hcm : uc ≤ MC := (by have o0 := hm1.1; have o1 := hM; have o2 := hu; (try simp only [hX_sI, hX_sR, hX_sL, hX_sD, hX_sIa, hX_sRa, hV_sI, hV_sR, hV_sL, hV_sD, hV_sIa, hV_sRa, hX_new, hV_new] at o0 o1 o2 ⊢); omega)
  have hsm : us ≤ MS := (by have o0 := hm1.2; have o1 := hN; have o2 := hv; (try simp only [hX_sI, hX_sR, hX_sL, hX_sD, hX_sIa, hX_sRa, hV_sI, hV_sR, hV_sL, hV_sD, hV_sIa, hV_sRa, hX_new, hV_new] at o0 o1 o2 ⊢); omega)
  clear hm1
  unfold fX4_gatherSimple_R_b0 at hf
  refine p_iload_n X (dcg dc_X4_gatherSimple 0 rfl) rfl rfl ?_
  refine p_bipush (v := 40) X (dcg dc_X4_gatherSimple 1 rfl) (by decide) ?_
  refine p_icmp_le (tgt := 7) X (dcg dc_X4_gatherSimple 2 rfl) (by decide) (fun q => ?_) (fun q => ?_)
  · have hf := if_t q hf
    refine p_aloadq_n X (dcg dc_X4_gatherSimple 4 rfl) rfl rfl ?_
    obtain ⟨a1, e2, hf⟩ := gs_some hf
    first | subst e2 | (try rw [e2])
    obtain ⟨hk3, hf⟩ := gd_some hf
    obtain ⟨z4, hz4, hf⟩ := bd_some hf
    refine p_callV (As := []) X ml_X4_63 (dcg dc_X4_gatherSimple 5 rfl) rfl rfl hk3 (wX4_isSimple hG hz4) (by omega) (room4 (Nat.le_of_ble_eq_true rfl)) hcm hsm ?_
    rintro _ u9 ⟨rfl, e9⟩; have e9 := e9.symm; subst e9
    refine p_if_eq (tgt := 20) X (dcg dc_X4_gatherSimple 6 rfl) (by decide) (fun q => ?_) (fun q => ?_)
    · have hf := if_t q hf
      refine p_pick [0, 1, 2] ?_
      exact wX4_gatherSimple_R_b20 X hG hnm hw0 hm0 hM hN hu hv hf 
    · have hf := if_f q hf
      refine p_aloadq_n X (dcg dc_X4_gatherSimple 7 rfl) rfl rfl ?_
      refine p_aload_n X (dcg dc_X4_gatherSimple 8 rfl) rfl rfl ?_
      obtain ⟨a22, e23, hf⟩ := gs_some hf
      first | subst e23 | (try rw [e23])
      obtain ⟨hk24, hf⟩ := gd_some hf
      obtain ⟨z25, hz25, hf⟩ := bd_some hf
      have hc1 := mJx4a65c_add_9ea2d hz25
      have hm1 : lez _ (hX r) (hV r) := mX4_gatherSimple_R_b19 hm0 hf
      refine p_callV (As := [va_rf (some _)]) X ml_X4_39 (dcg dc_X4_gatherSimple 9 rfl) rfl rfl hk24 (wJx4a65c_add_9ea2d hG hz25) (by omega) (room4 (Nat.le_of_ble_eq_true rfl)) (by have o0 := hm1.1; have o1 := hc1.1; have o2 := hM; have o3 := hu; (try simp only [hX_sI, hX_sR, hX_sL, hX_sD, hX_sIa, hX_sRa, hV_sI, hV_sR, hV_sL, hV_sD, hV_sIa, hV_sRa, hX_new, hV_new] at o0 o1 o2 o3 ⊢); omega) (by have o0 := hm1.2; have o1 := hc1.2; have o2 := hN; have o3 := hv; (try simp only [hX_sI, hX_sR, hX_sL, hX_sD, hX_sIa, hX_sRa, hV_sI, hV_sR, hV_sL, hV_sD, hV_sIa, hV_sRa, hX_new, hV_new] at o0 o1 o2 o3 ⊢); omega) ?_
      rintro _ u9 ⟨rfl, e9⟩; have e9 := e9.symm; subst e9
      refine p_pick [0, 1, 2] ?_
      exact wX4_gatherSimple_R_b19 X hG hnm hw0 hm0 hM hN (by have o0 := hc1.1; have o1 := hu; (try simp only [hX_sI, hX_sR, hX_sL, hX_sD, hX_sIa, hX_sRa, hV_sI, hV_sR, hV_sL, hV_sD, hV_sIa, hV_sRa, hX_new, hV_new] at o0 o1 ⊢); omega) (by have o0 := hc1.2; have o1 := hv; (try simp only [hX_sI, hX_sR, hX_sL, hX_sD, hX_sIa, hX_sRa, hV_sI, hV_sR, hV_sL, hV_sD, hV_sIa, hV_sRa, hX_new, hV_new] at o0 o1 ⊢); omega) hf 
  · have hf := if_f q hf
    have er := Option.some.inj hf
    subst er
    exact p_vret X rfl (dcg dc_X4_gatherSimple 3 rfl) ⟨rfl, rfl⟩ hcm hsm
noncomputable def fX4_gatherSimple_R (rc0 : (Option Nat → Option Nat → Int32 → PH → Option PH)) (v0 : Option Nat) (v1 : Option Nat) (v2 : Int32) (h : PH) : Option PH :=
  fX4_gatherSimple_R_b0 rc0 v0 v1 v2 h
set_option maxRecDepth 100000 in
theorem mX4_gatherSimple_R {rc0 : (Option Nat → Option Nat → Int32 → PH → Option PH)} (hm0 : ∀ {a0 : Option Nat} {a1 : Option Nat} {a2 : Int32} {h : PH} {r : PH}, rc0 a0 a1 a2 h = some r → lez h (hX r) (hV r)) {v0 : Option Nat} {v1 : Option Nat} {v2 : Int32} {h : PH} {r : PH} (hf : fX4_gatherSimple_R rc0 v0 v1 v2 h = some r) : lez h (hX r) (hV r) := by
  unfold fX4_gatherSimple_R at hf
  have hle := lez_rf h
  exact lez_rt (mX4_gatherSimple_R_b0 hm0 hf) hle
set_option maxRecDepth 100000 in
theorem wX4_gatherSimple_R {E : PE} {l : Launch} (hG : Gs E l) {nn : Nat} {rc0 : (Option Nat → Option Nat → Int32 → PH → Option PH)} (hw0 : ∀ {a0 : Option Nat} {a1 : Option Nat} {a2 : Int32} {h : PH} {r : PH}, rc0 a0 a1 a2 h = some r → Ct E l (7 + nn) ((hX r) - hX h) ((hV r) - hV h) yX4_gatherSimple cX4_gatherSimple 4 (none) [va_rf a0, va_rf a1, .int a2] h (fun v u => v = none ∧ u = r)) (hm0 : ∀ {a0 : Option Nat} {a1 : Option Nat} {a2 : Int32} {h : PH} {r : PH}, rc0 a0 a1 a2 h = some r → lez h (hX r) (hV r)) {v0 : Option Nat} {v1 : Option Nat} {v2 : Int32} {h : PH} {r : PH} (hf : fX4_gatherSimple_R rc0 v0 v1 v2 h = some r) : Ct E l (7 + nn + 1) ((hX r) - hX h) ((hV r) - hV h) yX4_gatherSimple cX4_gatherSimple 4 (none) [va_rf v0, va_rf v1, .int v2] h (fun v u => v = none ∧ u = r) := by
  have hmm := mX4_gatherSimple_R hm0 hf
  refine ct_of hG (by decide) (by simp [lg_sl, cat_rf, cat_r, cat_i, cat_l, cat_d, cat_f]) ?_
  intro p e s m args below meth c X hnm
  rw [show pargs 0 [va_rf v0, va_rf v1, .int v2] = [(0, some (va_rf v0)), (1, some (va_rf v1)), (2, some (.int v2))] from by simp [pargs, cat_rf, cat_r, cat_i, cat_l, cat_d, cat_f]]
  unfold fX4_gatherSimple_R at hf
  have hM := Nat.sub_add_cancel hmm.1
  have hN := Nat.sub_add_cancel hmm.2
  refine p_pick [0, 1, 2] ?_
  exact wX4_gatherSimple_R_b0 X hG hnm hw0 hm0 hM hN (Nat.zero_add _) (Nat.zero_add _) hf
noncomputable def g_X4_gatherSimple : Nat → (Option Nat → Option Nat → Int32 → PH → Option PH)
  | 0 => (fun a0 a1 a2 h => none)
  | n + 1 => (fun a0 a1 a2 h => fX4_gatherSimple_R (g_X4_gatherSimple n) a0 a1 a2 h)
theorem gm_X4_gatherSimple : ∀ n : Nat, ∀ {a0 : Option Nat} {a1 : Option Nat} {a2 : Int32} {h : PH} {r : PH}, (g_X4_gatherSimple n) a0 a1 a2 h = some r → lez h (hX r) (hV r) := by
  intro n
  induction n with
  | zero => exact (fun hf => nomatch (show (none : Option PH) = some _ from hf))
  | succ n ih => exact (fun {a0 a1 a2 h r} hf => mX4_gatherSimple_R (ih) (show fX4_gatherSimple_R (g_X4_gatherSimple n) a0 a1 a2 h = some r from hf))
theorem gw_X4_gatherSimple {E : PE} {l : Launch} (hG : Gs E l) : ∀ n : Nat, ∀ {a0 : Option Nat} {a1 : Option Nat} {a2 : Int32} {h : PH} {r : PH}, (g_X4_gatherSimple n) a0 a1 a2 h = some r → Ct E l (7 + n) ((hX r) - hX h) ((hV r) - hV h) yX4_gatherSimple cX4_gatherSimple 4 (none) [va_rf a0, va_rf a1, .int a2] h (fun v u => v = none ∧ u = r) := by
  intro n
  induction n with
  | zero => exact (fun hf => nomatch (show (none : Option PH) = some _ from hf))
  | succ n ih => exact (fun {a0 a1 a2 h r} hf => wX4_gatherSimple_R (nn := n) hG (ih) (gm_X4_gatherSimple n) (show fX4_gatherSimple_R (g_X4_gatherSimple n) a0 a1 a2 h = some r from hf))
noncomputable def fX4_gatherSimple (a0 : Option Nat) (a1 : Option Nat) (a2 : Int32) (h : PH) : Option PH := (g_X4_gatherSimple 44) a0 a1 a2 h
theorem mX4_gatherSimple {a0 : Option Nat} {a1 : Option Nat} {a2 : Int32} {h : PH} {r : PH} (hf : fX4_gatherSimple a0 a1 a2 h = some r) : lez h (hX r) (hV r) := (gm_X4_gatherSimple 44) hf
theorem wX4_gatherSimple {E : PE} {l : Launch} (hG : Gs E l) {a0 : Option Nat} {a1 : Option Nat} {a2 : Int32} {h : PH} {r : PH} (hf : fX4_gatherSimple a0 a1 a2 h = some r) : Ct E l 51 ((hX r) - hX h) ((hV r) - hV h) yX4_gatherSimple cX4_gatherSimple 4 (none) [va_rf a0, va_rf a1, .int a2] h (fun v u => v = none ∧ u = r) := (gw_X4_gatherSimple hG 44) hf
theorem dc_J5_newCapacity_0f7a4 : decs cJ5_newCapacity_0f7a4 [(0, .aload_n 0, 1), (1, .getfield 15, 3), (4, .arraylength, 1), (5, .istore_n 2, 1), (6, .iload_n 1, 1), (7, .aload_n 0, 1), (8, .getfield 22, 3), (11, .ishl, 1), (12, .istore_n 3, 1), (13, .iload_n 3, 1), (14, .iload_n 2, 1), (15, .isub, 1), (16, .istore 4, 2), (18, .iload_n 2, 1), (19, .iload 4, 2), (21, .iload_n 2, 1), (22, .iconst 2, 1), (23, .aload_n 0, 1), (24, .getfield 22, 3), (27, .ishl, 1), (28, .iadd, 1), (29, .invokestatic 114, 3), (32, .istore 5, 2), (34, .iload 5, 2), (36, .ldc 39, 2), (38, .if_icmp .ne 13, 3), (41, .new 120, 3), (44, .dup, 1), (45, .ldc 122, 2), (47, .invokespecial 124, 3), (50, .athrow, 1), (51, .iload 5, 2), (53, .aload_n 0, 1), (54, .getfield 22, 3), (57, .ishr, 1), (58, .ireturn, 1)] = true := by decide +kernel
noncomputable def fJ5_newCapacity_0f7a4 (v0 : Nat) (v1 : Int32) (h : PH) : Option Int32 :=
  gd (hK h v0 = 13) (gs (hR h 13 v0 0) (fun a2 =>
  gd (hK h a2 = 22) (bd (fJ8_newLength_cabcc (nI (hN h a2)) ((v1 <<< ((hI h 13 v0 1) &&& 31)) - (nI (hN h a2))) ((nI (hN h a2)) + ((2 : Int32) <<< ((hI h 13 v0 1) &&& 31)))) (fun z5 =>
  if (¬ z5 = (2147483647 : Int32)) then (some ((z5 >>> ((hI h 13 v0 1) &&& 31)))) else
  none))))
set_option maxRecDepth 100000 in
theorem wJ5_newCapacity_0f7a4 {E : PE} {l : Launch} (hG : Gs E l) {v0 : Nat} {v1 : Int32} {h : PH} {r : Int32} (hf : fJ5_newCapacity_0f7a4 v0 v1 h = some r) : Ct E l 2 0 0 yJ5_newCapacity_0f7a4 cJ5_newCapacity_0f7a4 6 (some .int) [.ref v0, .int v1] h (fun v u => v = some (.int r) ∧ u = h) := by
  refine ct_of hG (by decide) (Nat.le_of_ble_eq_true rfl) ?_
  intro p e s m args below meth c X hnm
  show PW E p l e _ s m args below meth c _ 0 0 _ h 0 [(0, some (.ref v0)), (1, some (.int v1))] []
  unfold fJ5_newCapacity_0f7a4 at hf
  refine p_aload_n X (dcg dc_J5_newCapacity_0f7a4 0 rfl) rfl rfl ?_
  obtain ⟨hk1, hf⟩ := gd_some hf
  refine p_getR X fl_J5_15 rfl (by decide) (dcg dc_J5_newCapacity_0f7a4 1 rfl) hk1 ?_
  obtain ⟨a2, e3, hf⟩ := gs_some hf
  first | subst e3 | (try rw [e3])
  obtain ⟨hk4, hf⟩ := gd_some hf
  refine p_alen22 X (dcg dc_J5_newCapacity_0f7a4 2 rfl) hk4 ?_
  refine p_istore_n X (dcg dc_J5_newCapacity_0f7a4 3 rfl) rfl (by decide) rfl ?_
  refine p_iload_n X (dcg dc_J5_newCapacity_0f7a4 4 rfl) rfl rfl ?_
  refine p_aload_n X (dcg dc_J5_newCapacity_0f7a4 5 rfl) rfl rfl ?_
  refine p_getI X fl_J5_22 rfl (by decide) (dcg dc_J5_newCapacity_0f7a4 6 rfl) hk1 ?_
  refine p_ishl X (dcg dc_J5_newCapacity_0f7a4 7 rfl) ?_
  refine p_istore_n X (dcg dc_J5_newCapacity_0f7a4 8 rfl) rfl (by decide) rfl ?_
  refine p_iload_n X (dcg dc_J5_newCapacity_0f7a4 9 rfl) rfl rfl ?_
  refine p_iload_n X (dcg dc_J5_newCapacity_0f7a4 10 rfl) rfl rfl ?_
  refine p_isub X (dcg dc_J5_newCapacity_0f7a4 11 rfl) ?_
  refine p_istore X (dcg dc_J5_newCapacity_0f7a4 12 rfl) (by decide) rfl ?_
  refine p_iload_n X (dcg dc_J5_newCapacity_0f7a4 13 rfl) rfl rfl ?_
  refine p_iload X (dcg dc_J5_newCapacity_0f7a4 14 rfl) rfl ?_
  refine p_iload_n X (dcg dc_J5_newCapacity_0f7a4 15 rfl) rfl rfl ?_
  refine p_iconst (v := 2) X (dcg dc_J5_newCapacity_0f7a4 16 rfl) (by decide) ?_
  refine p_aload_n X (dcg dc_J5_newCapacity_0f7a4 17 rfl) rfl rfl ?_
  refine p_getI X fl_J5_22 rfl (by decide) (dcg dc_J5_newCapacity_0f7a4 18 rfl) hk1 ?_
  refine p_ishl X (dcg dc_J5_newCapacity_0f7a4 19 rfl) ?_
  refine p_iadd X (dcg dc_J5_newCapacity_0f7a4 20 rfl) ?_
  obtain ⟨z5, hz5, hf⟩ := bd_some hf
  refine p_callS (As := [_, _, _]) X ml_J5_114 (dcg dc_J5_newCapacity_0f7a4 21 rfl) rfl rfl  (wJ8_newLength_cabcc hG hz5) (by decide) (room4 (Nat.le_of_ble_eq_true rfl)) (Nat.le_refl _) (Nat.le_refl _) ?_
  rintro _ u9 ⟨rfl, e9⟩; have e9 := e9.symm; subst e9
  refine p_istore X (dcg dc_J5_newCapacity_0f7a4 22 rfl) (by decide) rfl ?_
  refine p_iload X (dcg dc_J5_newCapacity_0f7a4 23 rfl) rfl ?_
  refine p_ldc X tw_613 (dcg dc_J5_newCapacity_0f7a4 24 rfl) ?_
  refine p_icmp_ne (tgt := 51) X (dcg dc_J5_newCapacity_0f7a4 25 rfl) (by decide) (fun q => ?_) (fun q => ?_)
  · have hf := if_t q hf
    refine p_iload X (dcg dc_J5_newCapacity_0f7a4 31 rfl) rfl ?_
    refine p_aload_n X (dcg dc_J5_newCapacity_0f7a4 32 rfl) rfl rfl ?_
    refine p_getI X fl_J5_22 rfl (by decide) (dcg dc_J5_newCapacity_0f7a4 33 rfl) hk1 ?_
    refine p_ishr X (dcg dc_J5_newCapacity_0f7a4 34 rfl) ?_
    have er := Option.some.inj hf
    subst er
    exact p_iret X rfl (dcg dc_J5_newCapacity_0f7a4 35 rfl) ⟨rfl, rfl⟩ (Nat.le_refl _) (Nat.le_refl _)
  · have hf := if_f q hf
    cases hf
theorem dc_J7_copyOf_9075b : decs cJ7_copyOf_9075b [(0, .iload_n 1, 1), (1, .aload_n 0, 1), (2, .arraylength, 1), (3, .if_icmp .ne 11, 3), (6, .aload_n 0, 1), (7, .invokevirtual 310, 3), (10, .checkcast 311, 3), (13, .areturn, 1), (14, .iload_n 1, 1), (15, .newarray .byte, 2), (17, .astore_n 2, 1), (18, .aload_n 0, 1), (19, .iconst 0, 1), (20, .aload_n 2, 1), (21, .iconst 0, 1), (22, .aload_n 0, 1), (23, .arraylength, 1), (24, .iload_n 1, 1), (25, .invokestatic 304, 3), (28, .invokestatic 150, 3), (31, .aload_n 2, 1), (32, .areturn, 1)] = true := by decide +kernel
noncomputable def fJ7_copyOf_9075b_b17 (v0 : Option Nat) (v1 : Int32) (t0 : Nat) (h : PH) : Option (Option Nat × PH) :=
  gs v0 (fun a5 =>
  gd (hK h a5 = 22) (gd ((cpyok h 22 a5 t0 (0 : Int32) (0 : Int32) (if v1 < (nI (hN h a5)) then v1 else (nI (hN h a5)))) ∧ bfit h a5 (0 : Int32) (if v1 < (nI (hN h a5)) then v1 else (nI (hN h a5))) = true) (lt (cpyI h 22 a5 t0 (0 : Int32) (0 : Int32) (if v1 < (nI (hN h a5)) then v1 else (nI (hN h a5)))) (fun h9 =>
  some (((some t0), h9))))))
set_option maxRecDepth 100000 in
theorem mJ7_copyOf_9075b_b17 {v0 : Option Nat} {v1 : Int32} {t0 : Nat} {h : PH} {r : (Option Nat × PH)} (hf : fJ7_copyOf_9075b_b17 v0 v1 t0 h = some r) : lez h (hX r.2) (hV r.2) := by
  unfold fJ7_copyOf_9075b_b17 at hf
  have hle := lez_rf h
  obtain ⟨a5, e6, hf⟩ := gs_some hf
  obtain ⟨hk7, hf⟩ := gd_some hf
  obtain ⟨hg8, hf⟩ := gd_some hf
  obtain ⟨h9, rfl, hf⟩ := lt_some hf
  have ee := Option.some.inj hf; subst ee; exact hle
set_option maxRecDepth 100000 in
theorem wJ7_copyOf_9075b_b17 {E : PE} {p : Program} {l : Launch} {e : Env} {s : State} {m : MethodId} {args : Array Value} {below : List Frame} {meth : Method} {c : Code} {X0 V0 MC MS uc us : Nat} (X : Cx E p l e (rmv 1 MC MS) s m args below meth c RJ7 cJ7_copyOf_9075b 3 (some (.array .byte))) (hG : Gs E l) (hnm : meth.name = yJ7_copyOf_9075b.name) {v0 : Option Nat} {v1 : Int32} {t0 : Nat} {h : PH} {r : (Option Nat × PH)} (hM : MC + X0 = (hX r.2)) (hN : MS + V0 = (hV r.2)) (hu : uc + X0 = hX h) (hv : us + V0 = hV h) (hf : fJ7_copyOf_9075b_b17 v0 v1 t0 h = some r)  : PW E p l e (rmv 1 MC MS) s m args below meth c 3 uc us (MQ below (QG E (fun v u => v = some (va_rf r.1) ∧ u = r.2)) args s MC MS (pA E)) h 17 [(0, some (va_rf v0)), (1, some (.int v1))] [.ref t0] := by
  have hm1 : lez h (hX r.2) (hV r.2) := mJ7_copyOf_9075b_b17 hf
  have hcm : uc ≤ MC := (by have o0 := hm1.1; have o1 := hM; have o2 := hu; (try simp only [hX_sI, hX_sR, hX_sL, hX_sD, hX_sIa, hX_sRa, hV_sI, hV_sR, hV_sL, hV_sD, hV_sIa, hV_sRa, hX_new, hV_new] at o0 o1 o2 ⊢); omega)
  have hsm : us ≤ MS := (by have o0 := hm1.2; have o1 := hN; have o2 := hv; (try simp only [hX_sI, hX_sR, hX_sL, hX_sD, hX_sIa, hX_sRa, hV_sI, hV_sR, hV_sL, hV_sD, hV_sIa, hV_sRa, hX_new, hV_new] at o0 o1 o2 ⊢); omega)
  clear hm1
  unfold fJ7_copyOf_9075b_b17 at hf
  refine p_astore_n X (dcg dc_J7_copyOf_9075b 10 rfl) rfl (by decide) rfl ?_
  refine p_aloadq_n X (dcg dc_J7_copyOf_9075b 11 rfl) rfl rfl ?_
  refine p_iconst (v := 0) X (dcg dc_J7_copyOf_9075b 12 rfl) (by decide) ?_
  refine p_aload_n X (dcg dc_J7_copyOf_9075b 13 rfl) rfl rfl ?_
  refine p_iconst (v := 0) X (dcg dc_J7_copyOf_9075b 14 rfl) (by decide) ?_
  refine p_aloadq_n X (dcg dc_J7_copyOf_9075b 15 rfl) rfl rfl ?_
  obtain ⟨a5, e6, hf⟩ := gs_some hf
  first | subst e6 | (try rw [e6])
  obtain ⟨hk7, hf⟩ := gd_some hf
  refine p_alen22 X (dcg dc_J7_copyOf_9075b 16 rfl) hk7 ?_
  refine p_iload_n X (dcg dc_J7_copyOf_9075b 17 rfl) rfl rfl ?_
  refine p_mmin X tw_624 tw_625 tw_123 tw_626 (dcg dc_J7_copyOf_9075b 18 rfl) (Nat.le_of_ble_eq_true rfl) (Nat.le_trans (Nat.add_le_add_right (room4 (Nat.le_of_ble_eq_true rfl)) 13) (Nat.le_of_ble_eq_true rfl)) hcm hsm (fun ls hl => X.2.2.1.trans hl.1.symm) ?_
  obtain ⟨hg8, hf⟩ := gd_some hf
  refine p_copyB X tw_627 tw_629 tw_628 tw_130 hg8.1 (bfit_of hg8.2) (dcg dc_J7_copyOf_9075b 19 rfl) (Nat.le_of_ble_eq_true rfl) (room4 (Nat.le_of_ble_eq_true rfl)) (Nat.le_of_ble_eq_true rfl) ?_
  obtain ⟨h9, rfl, hf⟩ := lt_some hf
  refine p_aload_n X (dcg dc_J7_copyOf_9075b 20 rfl) rfl rfl ?_
  have er := Option.some.inj hf
  subst er
  exact p_aret (r := some _) X rfl (Or.inr ⟨_, rfl⟩) (dcg dc_J7_copyOf_9075b 21 rfl) ⟨rfl, rfl⟩ hcm hsm
noncomputable def fJ7_copyOf_9075b_b0 (v0 : Option Nat) (v1 : Int32) (h : PH) : Option (Option Nat × PH) :=
  gs v0 (fun a1 =>
  gd (hK h a1 = 22) (if (¬ v1 = (nI (hN h a1))) then (gd (¬ v1 < 0 ∧ (Int32.toNatClampNeg v1) ≤ 1000000) (fJ7_copyOf_9075b_b17 (some a1) v1 (hX h) (hnew h 22 (Int32.toNatClampNeg v1)))) else
  none))
set_option maxRecDepth 100000 in
theorem mJ7_copyOf_9075b_b0 {v0 : Option Nat} {v1 : Int32} {h : PH} {r : (Option Nat × PH)} (hf : fJ7_copyOf_9075b_b0 v0 v1 h = some r) : lez h (hX r.2) (hV r.2) := by
  unfold fJ7_copyOf_9075b_b0 at hf
  have hle := lez_rf h
  obtain ⟨a1, e2, hf⟩ := gs_some hf
  obtain ⟨hk3, hf⟩ := gd_some hf
  rcases ite_or hf with ⟨q, hf⟩ | ⟨q, hf⟩
  · have hf := if_t q hf
    obtain ⟨hg4, hf⟩ := gd_some hf
    have hle := lez_nw (c := 22) (n := (Int32.toNatClampNeg v1)) hle
    exact lez_rt (mJ7_copyOf_9075b_b17 hf) hle
  · have hf := if_f q hf
    cases hf
set_option maxRecDepth 100000 in
theorem wJ7_copyOf_9075b_b0 {E : PE} {p : Program} {l : Launch} {e : Env} {s : State} {m : MethodId} {args : Array Value} {below : List Frame} {meth : Method} {c : Code} {X0 V0 MC MS uc us : Nat} (X : Cx E p l e (rmv 1 MC MS) s m args below meth c RJ7 cJ7_copyOf_9075b 3 (some (.array .byte))) (hG : Gs E l) (hnm : meth.name = yJ7_copyOf_9075b.name) {v0 : Option Nat} {v1 : Int32} {h : PH} {r : (Option Nat × PH)} (hM : MC + X0 = (hX r.2)) (hN : MS + V0 = (hV r.2)) (hu : uc + X0 = hX h) (hv : us + V0 = hV h) (hf : fJ7_copyOf_9075b_b0 v0 v1 h = some r)  : PW E p l e (rmv 1 MC MS) s m args below meth c 3 uc us (MQ below (QG E (fun v u => v = some (va_rf r.1) ∧ u = r.2)) args s MC MS (pA E)) h 0 [(0, some (va_rf v0)), (1, some (.int v1))] [] := by
  have hm1 : lez h (hX r.2) (hV r.2) := mJ7_copyOf_9075b_b0 hf
  have hcm : uc ≤ MC := (by have o0 := hm1.1; have o1 := hM; have o2 := hu; (try simp only [hX_sI, hX_sR, hX_sL, hX_sD, hX_sIa, hX_sRa, hV_sI, hV_sR, hV_sL, hV_sD, hV_sIa, hV_sRa, hX_new, hV_new] at o0 o1 o2 ⊢); omega)
  have hsm : us ≤ MS := (by have o0 := hm1.2; have o1 := hN; have o2 := hv; (try simp only [hX_sI, hX_sR, hX_sL, hX_sD, hX_sIa, hX_sRa, hV_sI, hV_sR, hV_sL, hV_sD, hV_sIa, hV_sRa, hX_new, hV_new] at o0 o1 o2 ⊢); omega)
  clear hm1
  unfold fJ7_copyOf_9075b_b0 at hf
  refine p_iload_n X (dcg dc_J7_copyOf_9075b 0 rfl) rfl rfl ?_
  refine p_aloadq_n X (dcg dc_J7_copyOf_9075b 1 rfl) rfl rfl ?_
  obtain ⟨a1, e2, hf⟩ := gs_some hf
  first | subst e2 | (try rw [e2])
  obtain ⟨hk3, hf⟩ := gd_some hf
  refine p_alen22 X (dcg dc_J7_copyOf_9075b 2 rfl) hk3 ?_
  refine p_icmp_ne (tgt := 14) X (dcg dc_J7_copyOf_9075b 3 rfl) (by decide) (fun q => ?_) (fun q => ?_)
  · have hf := if_t q hf
    refine p_iload_n X (dcg dc_J7_copyOf_9075b 8 rfl) rfl rfl ?_
    obtain ⟨hg4, hf⟩ := gd_some hf
    have hm1 : lez _ (hX r.2) (hV r.2) := mJ7_copyOf_9075b_b17 hf
    have hm2 := lez_new hm1
    refine p_newa22 X tw_389 (dcg dc_J7_copyOf_9075b 9 rfl) hg4.1 hg4.2 (show uc + 1 ≤ MC from (by have o0 := hm2.1; have o1 := hM; have o2 := hu; (try simp only [hX_sI, hX_sR, hX_sL, hX_sD, hX_sIa, hX_sRa, hV_sI, hV_sR, hV_sL, hV_sD, hV_sIa, hV_sRa, hX_new, hV_new] at o0 o1 o2 ⊢); omega)) (show us + (Int32.toNatClampNeg v1) ≤ MS from (by have o0 := hm2.2; have o1 := hN; have o2 := hv; (try simp only [hX_sI, hX_sR, hX_sL, hX_sD, hX_sIa, hX_sRa, hV_sI, hV_sR, hV_sL, hV_sD, hV_sIa, hV_sRa, hX_new, hV_new] at o0 o1 o2 ⊢); omega)) ?_
    refine p_pick [0, 1] ?_
    exact wJ7_copyOf_9075b_b17 X hG hnm hM hN (by have o0 := hu; (try simp only [hX_sI, hX_sR, hX_sL, hX_sD, hX_sIa, hX_sRa, hV_sI, hV_sR, hV_sL, hV_sD, hV_sIa, hV_sRa, hX_new, hV_new] at o0 ⊢); omega) (by have o0 := hv; (try simp only [hX_sI, hX_sR, hX_sL, hX_sD, hX_sIa, hX_sRa, hV_sI, hV_sR, hV_sL, hV_sD, hV_sIa, hV_sRa, hX_new, hV_new] at o0 ⊢); omega) hf 
  · have hf := if_f q hf
    refine p_aload_n X (dcg dc_J7_copyOf_9075b 4 rfl) rfl rfl ?_
    cases hf
noncomputable def fJ7_copyOf_9075b (v0 : Option Nat) (v1 : Int32) (h : PH) : Option (Option Nat × PH) :=
  fJ7_copyOf_9075b_b0 v0 v1 h
set_option maxRecDepth 100000 in
theorem mJ7_copyOf_9075b {v0 : Option Nat} {v1 : Int32} {h : PH} {r : (Option Nat × PH)} (hf : fJ7_copyOf_9075b v0 v1 h = some r) : lez h (hX r.2) (hV r.2) := by
  unfold fJ7_copyOf_9075b at hf
  have hle := lez_rf h
  exact lez_rt (mJ7_copyOf_9075b_b0 hf) hle
set_option maxRecDepth 100000 in
theorem wJ7_copyOf_9075b {E : PE} {l : Launch} (hG : Gs E l) {v0 : Option Nat} {v1 : Int32} {h : PH} {r : (Option Nat × PH)} (hf : fJ7_copyOf_9075b v0 v1 h = some r) : Ct E l 1 ((hX r.2) - hX h) ((hV r.2) - hV h) yJ7_copyOf_9075b cJ7_copyOf_9075b 3 (some (.array .byte)) [va_rf v0, .int v1] h (fun v u => v = some (va_rf r.1) ∧ u = r.2) := by
  have hmm := mJ7_copyOf_9075b hf
  refine ct_of hG (by decide) (by simp [lg_sl, cat_rf, cat_r, cat_i, cat_l, cat_d, cat_f]) ?_
  intro p e s m args below meth c X hnm
  rw [show pargs 0 [va_rf v0, .int v1] = [(0, some (va_rf v0)), (1, some (.int v1))] from by simp [pargs, cat_rf, cat_r, cat_i, cat_l, cat_d, cat_f]]
  unfold fJ7_copyOf_9075b at hf
  have hM := Nat.sub_add_cancel hmm.1
  have hN := Nat.sub_add_cancel hmm.2
  refine p_pick [0, 1] ?_
  exact wJ7_copyOf_9075b_b0 X hG hnm hM hN (Nat.zero_add _) (Nat.zero_add _) hf
theorem dc_J5_ensureCapacityInternal_d00df : decs cJ5_ensureCapacityInternal_d00df [(0, .aload_n 0, 1), (1, .getfield 15, 3), (4, .arraylength, 1), (5, .aload_n 0, 1), (6, .getfield 22, 3), (9, .ishr, 1), (10, .istore_n 2, 1), (11, .iload_n 1, 1), (12, .iload_n 2, 1), (13, .isub, 1), (14, .ifCond .le 24, 3), (17, .aload_n 0, 1), (18, .aload_n 0, 1), (19, .getfield 15, 3), (22, .aload_n 0, 1), (23, .iload_n 1, 1), (24, .invokevirtual 104, 3), (27, .aload_n 0, 1), (28, .getfield 22, 3), (31, .ishl, 1), (32, .invokestatic 108, 3), (35, .putfield 15, 3), (38, .return_, 1)] = true := by decide +kernel
noncomputable def fJ5_ensureCapacityInternal_d00df_b38  (h : PH) : Option PH :=
  some (h)
set_option maxRecDepth 100000 in
theorem mJ5_ensureCapacityInternal_d00df_b38  {h : PH} {r : PH} (hf : fJ5_ensureCapacityInternal_d00df_b38  h = some r) : lez h (hX r) (hV r) := by
  unfold fJ5_ensureCapacityInternal_d00df_b38 at hf
  have hle := lez_rf h
  have ee := Option.some.inj hf; subst ee; exact hle
set_option maxRecDepth 100000 in
theorem wJ5_ensureCapacityInternal_d00df_b38 {E : PE} {p : Program} {l : Launch} {e : Env} {s : State} {m : MethodId} {args : Array Value} {below : List Frame} {meth : Method} {c : Code} {X0 V0 MC MS uc us : Nat} (X : Cx E p l e (rmv 3 MC MS) s m args below meth c RJ5 cJ5_ensureCapacityInternal_d00df 3 (none)) (hG : Gs E l) (hnm : meth.name = yJ5_ensureCapacityInternal_d00df.name)  {h : PH} {r : PH} (hM : MC + X0 = (hX r)) (hN : MS + V0 = (hV r)) (hu : uc + X0 = hX h) (hv : us + V0 = hV h) (hf : fJ5_ensureCapacityInternal_d00df_b38  h = some r)  : PW E p l e (rmv 3 MC MS) s m args below meth c 3 uc us (MQ below (QG E (fun v u => v = none ∧ u = r)) args s MC MS (pA E)) h 38 [] [] := by
  have hm1 : lez h (hX r) (hV r) := mJ5_ensureCapacityInternal_d00df_b38 hf
  have hcm : uc ≤ MC := (by have o0 := hm1.1; have o1 := hM; have o2 := hu; (try simp only [hX_sI, hX_sR, hX_sL, hX_sD, hX_sIa, hX_sRa, hV_sI, hV_sR, hV_sL, hV_sD, hV_sIa, hV_sRa, hX_new, hV_new] at o0 o1 o2 ⊢); omega)
  have hsm : us ≤ MS := (by have o0 := hm1.2; have o1 := hN; have o2 := hv; (try simp only [hX_sI, hX_sR, hX_sL, hX_sD, hX_sIa, hX_sRa, hV_sI, hV_sR, hV_sL, hV_sD, hV_sIa, hV_sRa, hX_new, hV_new] at o0 o1 o2 ⊢); omega)
  clear hm1
  unfold fJ5_ensureCapacityInternal_d00df_b38 at hf
  have er := Option.some.inj hf
  subst er
  exact p_vret X rfl (dcg dc_J5_ensureCapacityInternal_d00df 22 rfl) ⟨rfl, rfl⟩ hcm hsm
noncomputable def fJ5_ensureCapacityInternal_d00df_b35 (t0 : Nat) (t1 : Option Nat) (h : PH) : Option PH :=
  gd (hK h t0 = 13) (lt (sR h 13 t0 0 t1) (fun h8 =>
  fJ5_ensureCapacityInternal_d00df_b38  h8))
set_option maxRecDepth 100000 in
theorem mJ5_ensureCapacityInternal_d00df_b35 {t0 : Nat} {t1 : Option Nat} {h : PH} {r : PH} (hf : fJ5_ensureCapacityInternal_d00df_b35 t0 t1 h = some r) : lez h (hX r) (hV r) := by
  unfold fJ5_ensureCapacityInternal_d00df_b35 at hf
  have hle := lez_rf h
  obtain ⟨hk7, hf⟩ := gd_some hf
  obtain ⟨h8, rfl, hf⟩ := lt_some hf
  exact lez_rt (mJ5_ensureCapacityInternal_d00df_b38 hf) hle
set_option maxRecDepth 100000 in
theorem wJ5_ensureCapacityInternal_d00df_b35 {E : PE} {p : Program} {l : Launch} {e : Env} {s : State} {m : MethodId} {args : Array Value} {below : List Frame} {meth : Method} {c : Code} {X0 V0 MC MS uc us : Nat} (X : Cx E p l e (rmv 3 MC MS) s m args below meth c RJ5 cJ5_ensureCapacityInternal_d00df 3 (none)) (hG : Gs E l) (hnm : meth.name = yJ5_ensureCapacityInternal_d00df.name) {t0 : Nat} {t1 : Option Nat} {h : PH} {r : PH} (hM : MC + X0 = (hX r)) (hN : MS + V0 = (hV r)) (hu : uc + X0 = hX h) (hv : us + V0 = hV h) (hf : fJ5_ensureCapacityInternal_d00df_b35 t0 t1 h = some r)  : PW E p l e (rmv 3 MC MS) s m args below meth c 3 uc us (MQ below (QG E (fun v u => v = none ∧ u = r)) args s MC MS (pA E)) h 35 [] [va_rf t1, .ref t0] := by
  have hm1 : lez h (hX r) (hV r) := mJ5_ensureCapacityInternal_d00df_b35 hf
  have hcm : uc ≤ MC := (by have o0 := hm1.1; have o1 := hM; have o2 := hu; (try simp only [hX_sI, hX_sR, hX_sL, hX_sD, hX_sIa, hX_sRa, hV_sI, hV_sR, hV_sL, hV_sD, hV_sIa, hV_sRa, hX_new, hV_new] at o0 o1 o2 ⊢); omega)
  have hsm : us ≤ MS := (by have o0 := hm1.2; have o1 := hN; have o2 := hv; (try simp only [hX_sI, hX_sR, hX_sL, hX_sD, hX_sIa, hX_sRa, hV_sI, hV_sR, hV_sL, hV_sD, hV_sIa, hV_sRa, hX_new, hV_new] at o0 o1 o2 ⊢); omega)
  clear hm1
  unfold fJ5_ensureCapacityInternal_d00df_b35 at hf
  obtain ⟨hk7, hf⟩ := gd_some hf
  refine p_putR X fl_J5_15 rfl (by decide) (fun q hq => by cases hq; rfl) (nar_rf _ (by decide)) (fit_rf _ (by decide)) (dcg dc_J5_ensureCapacityInternal_d00df 21 rfl) hk7 ?_
  obtain ⟨h8, rfl, hf⟩ := lt_some hf
  refine p_pick [] ?_
  exact wJ5_ensureCapacityInternal_d00df_b38 X hG hnm hM hN hu hv hf 
noncomputable def fJ5_ensureCapacityInternal_d00df_b0 (v0 : Nat) (v1 : Int32) (h : PH) : Option PH :=
  gd (hK h v0 = 13) (gs (hR h 13 v0 0) (fun a2 =>
  gd (hK h a2 = 22) (if ((v1 - ((nI (hN h a2)) >>> ((hI h 13 v0 1) &&& 31))) ≤ 0) then (fJ5_ensureCapacityInternal_d00df_b38  h) else
  bd (fJ5_newCapacity_0f7a4 v0 v1 h) (fun z5 =>
  bd (fJ7_copyOf_9075b (hR h 13 v0 0) (z5 <<< ((hI h 13 v0 1) &&& 31)) h) (fun z6 =>
  fJ5_ensureCapacityInternal_d00df_b35 v0 z6.1 z6.2)))))
set_option maxRecDepth 100000 in
theorem mJ5_ensureCapacityInternal_d00df_b0 {v0 : Nat} {v1 : Int32} {h : PH} {r : PH} (hf : fJ5_ensureCapacityInternal_d00df_b0 v0 v1 h = some r) : lez h (hX r) (hV r) := by
  unfold fJ5_ensureCapacityInternal_d00df_b0 at hf
  have hle := lez_rf h
  obtain ⟨hk1, hf⟩ := gd_some hf
  obtain ⟨a2, e3, hf⟩ := gs_some hf
  obtain ⟨hk4, hf⟩ := gd_some hf
  rcases ite_or hf with ⟨q, hf⟩ | ⟨q, hf⟩
  · have hf := if_t q hf
    exact lez_rt (mJ5_ensureCapacityInternal_d00df_b38 hf) hle
  · have hf := if_f q hf
    obtain ⟨z5, hz5, hf⟩ := bd_some hf
    obtain ⟨z6, hz6, hf⟩ := bd_some hf
    have hle := lez_rt (mJ7_copyOf_9075b hz6) hle
    exact lez_rt (mJ5_ensureCapacityInternal_d00df_b35 hf) hle
set_option maxRecDepth 100000 in
theorem wJ5_ensureCapacityInternal_d00df_b0 {E : PE} {p : Program} {l : Launch} {e : Env} {s : State} {m : MethodId} {args : Array Value} {below : List Frame} {meth : Method} {c : Code} {X0 V0 MC MS uc us : Nat} (X : Cx E p l e (rmv 3 MC MS) s m args below meth c RJ5 cJ5_ensureCapacityInternal_d00df 3 (none)) (hG : Gs E l) (hnm : meth.name = yJ5_ensureCapacityInternal_d00df.name) {v0 : Nat} {v1 : Int32} {h : PH} {r : PH} (hM : MC + X0 = (hX r)) (hN : MS + V0 = (hV r)) (hu : uc + X0 = hX h) (hv : us + V0 = hV h) (hf : fJ5_ensureCapacityInternal_d00df_b0 v0 v1 h = some r)  : PW E p l e (rmv 3 MC MS) s m args below meth c 3 uc us (MQ below (QG E (fun v u => v = none ∧ u = r)) args s MC MS (pA E)) h 0 [(0, some (.ref v0)), (1, some (.int v1))] [] := by
  have hm1 : lez h (hX r) (hV r) := mJ5_ensureCapacityInternal_d00df_b0 hf
  have hcm : uc ≤ MC := (by have o0 := hm1.1; have o1 := hM; have o2 := hu; (try simp only [hX_sI, hX_sR, hX_sL, hX_sD, hX_sIa, hX_sRa, hV_sI, hV_sR, hV_sL, hV_sD, hV_sIa, hV_sRa, hX_new, hV_new] at o0 o1 o2 ⊢); omega)
  have hsm : us ≤ MS := (by have o0 := hm1.2; have o1 := hN; have o2 := hv; (try simp only [hX_sI, hX_sR, hX_sL, hX_sD, hX_sIa, hX_sRa, hV_sI, hV_sR, hV_sL, hV_sD, hV_sIa, hV_sRa, hX_new, hV_new] at o0 o1 o2 ⊢); omega)
  clear hm1
  unfold fJ5_ensureCapacityInternal_d00df_b0 at hf
  refine p_aload_n X (dcg dc_J5_ensureCapacityInternal_d00df 0 rfl) rfl rfl ?_
  obtain ⟨hk1, hf⟩ := gd_some hf
  refine p_getR X fl_J5_15 rfl (by decide) (dcg dc_J5_ensureCapacityInternal_d00df 1 rfl) hk1 ?_
  obtain ⟨a2, e3, hf⟩ := gs_some hf
  first | subst e3 | (try rw [e3])
  obtain ⟨hk4, hf⟩ := gd_some hf
  refine p_alen22 X (dcg dc_J5_ensureCapacityInternal_d00df 2 rfl) hk4 ?_
  refine p_aload_n X (dcg dc_J5_ensureCapacityInternal_d00df 3 rfl) rfl rfl ?_
  refine p_getI X fl_J5_22 rfl (by decide) (dcg dc_J5_ensureCapacityInternal_d00df 4 rfl) hk1 ?_
  refine p_ishr X (dcg dc_J5_ensureCapacityInternal_d00df 5 rfl) ?_
  refine p_istore_n X (dcg dc_J5_ensureCapacityInternal_d00df 6 rfl) rfl (by decide) rfl ?_
  refine p_iload_n X (dcg dc_J5_ensureCapacityInternal_d00df 7 rfl) rfl rfl ?_
  refine p_iload_n X (dcg dc_J5_ensureCapacityInternal_d00df 8 rfl) rfl rfl ?_
  refine p_isub X (dcg dc_J5_ensureCapacityInternal_d00df 9 rfl) ?_
  refine p_if_le (tgt := 38) X (dcg dc_J5_ensureCapacityInternal_d00df 10 rfl) (by decide) (fun q => ?_) (fun q => ?_)
  · have hf := if_t q hf
    refine p_pick [] ?_
    exact wJ5_ensureCapacityInternal_d00df_b38 X hG hnm hM hN hu hv hf 
  · have hf := if_f q hf
    refine p_aload_n X (dcg dc_J5_ensureCapacityInternal_d00df 11 rfl) rfl rfl ?_
    refine p_aload_n X (dcg dc_J5_ensureCapacityInternal_d00df 12 rfl) rfl rfl ?_
    refine p_getR X fl_J5_15 rfl (by decide) (dcg dc_J5_ensureCapacityInternal_d00df 13 rfl) hk1 ?_
    refine p_aload_n X (dcg dc_J5_ensureCapacityInternal_d00df 14 rfl) rfl rfl ?_
    refine p_iload_n X (dcg dc_J5_ensureCapacityInternal_d00df 15 rfl) rfl rfl ?_
    obtain ⟨z5, hz5, hf⟩ := bd_some hf
    refine p_callP (As := [_]) X ml_J5_104 (dcg dc_J5_ensureCapacityInternal_d00df 16 rfl) rfl rfl hk1 (wJ5_newCapacity_0f7a4 hG hz5) (by decide) (room4 (Nat.le_of_ble_eq_true rfl)) hcm hsm ?_
    rintro _ u9 ⟨rfl, e9⟩; have e9 := e9.symm; subst e9
    refine p_aload_n X (dcg dc_J5_ensureCapacityInternal_d00df 17 rfl) rfl rfl ?_
    refine p_getI X fl_J5_22 rfl (by decide) (dcg dc_J5_ensureCapacityInternal_d00df 18 rfl) hk1 ?_
    refine p_ishl X (dcg dc_J5_ensureCapacityInternal_d00df 19 rfl) ?_
    obtain ⟨z6, hz6, hf⟩ := bd_some hf
    have hc1 := mJ7_copyOf_9075b hz6
    have hm1 : lez _ (hX r) (hV r) := mJ5_ensureCapacityInternal_d00df_b35 hf
    refine p_callS (As := [va_rf _, _]) X ml_J5_108 (dcg dc_J5_ensureCapacityInternal_d00df 20 rfl) rfl rfl  (wJ7_copyOf_9075b hG hz6) (by decide) (room4 (Nat.le_of_ble_eq_true rfl)) (by have o0 := hm1.1; have o1 := hc1.1; have o2 := hM; have o3 := hu; (try simp only [hX_sI, hX_sR, hX_sL, hX_sD, hX_sIa, hX_sRa, hV_sI, hV_sR, hV_sL, hV_sD, hV_sIa, hV_sRa, hX_new, hV_new] at o0 o1 o2 o3 ⊢); omega) (by have o0 := hm1.2; have o1 := hc1.2; have o2 := hN; have o3 := hv; (try simp only [hX_sI, hX_sR, hX_sL, hX_sD, hX_sIa, hX_sRa, hV_sI, hV_sR, hV_sL, hV_sD, hV_sIa, hV_sRa, hX_new, hV_new] at o0 o1 o2 o3 ⊢); omega) ?_
    rintro _ u9 ⟨rfl, e9⟩; have e9 := e9.symm; subst e9
    refine p_pick [] ?_
    exact wJ5_ensureCapacityInternal_d00df_b35 X hG hnm hM hN (by have o0 := hc1.1; have o1 := hu; (try simp only [hX_sI, hX_sR, hX_sL, hX_sD, hX_sIa, hX_sRa, hV_sI, hV_sR, hV_sL, hV_sD, hV_sIa, hV_sRa, hX_new, hV_new] at o0 o1 ⊢); omega) (by have o0 := hc1.2; have o1 := hv; (try simp only [hX_sI, hX_sR, hX_sL, hX_sD, hX_sIa, hX_sRa, hV_sI, hV_sR, hV_sL, hV_sD, hV_sIa, hV_sRa, hX_new, hV_new] at o0 o1 ⊢); omega) hf 
noncomputable def fJ5_ensureCapacityInternal_d00df (v0 : Nat) (v1 : Int32) (h : PH) : Option PH :=
  fJ5_ensureCapacityInternal_d00df_b0 v0 v1 h
set_option maxRecDepth 100000 in
theorem mJ5_ensureCapacityInternal_d00df {v0 : Nat} {v1 : Int32} {h : PH} {r : PH} (hf : fJ5_ensureCapacityInternal_d00df v0 v1 h = some r) : lez h (hX r) (hV r) := by
  unfold fJ5_ensureCapacityInternal_d00df at hf
  have hle := lez_rf h
  exact lez_rt (mJ5_ensureCapacityInternal_d00df_b0 hf) hle
set_option maxRecDepth 100000 in
theorem wJ5_ensureCapacityInternal_d00df {E : PE} {l : Launch} (hG : Gs E l) {v0 : Nat} {v1 : Int32} {h : PH} {r : PH} (hf : fJ5_ensureCapacityInternal_d00df v0 v1 h = some r) : Ct E l 3 ((hX r) - hX h) ((hV r) - hV h) yJ5_ensureCapacityInternal_d00df cJ5_ensureCapacityInternal_d00df 3 (none) [.ref v0, .int v1] h (fun v u => v = none ∧ u = r) := by
  have hmm := mJ5_ensureCapacityInternal_d00df hf
  refine ct_of hG (by decide) (Nat.le_of_ble_eq_true rfl) ?_
  intro p e s m args below meth c X hnm
  show PW E p l e _ s m args below meth c _ 0 0 _ h 0 [(0, some (.ref v0)), (1, some (.int v1))] []
  unfold fJ5_ensureCapacityInternal_d00df at hf
  have hM := Nat.sub_add_cancel hmm.1
  have hN := Nat.sub_add_cancel hmm.2
  refine p_pick [0, 1] ?_
  exact wJ5_ensureCapacityInternal_d00df_b0 X hG hnm hM hN (Nat.zero_add _) (Nat.zero_add _) hf
theorem dc_J5_isLatin1_aae02 : decs cJ5_isLatin1_aae02 [(0, .getstatic 18, 3), (3, .ifCond .eq 14, 3), (6, .aload_n 0, 1), (7, .getfield 22, 3), (10, .ifCond .ne 7, 3), (13, .iconst 1, 1), (14, .goto 4, 3), (17, .iconst 0, 1), (18, .ireturn, 1)] = true := by decide +kernel
noncomputable def fJ5_isLatin1_aae02_b18 (t0 : Int32) (h : PH) : Option Int32 :=
  gd (t0 &&& 1 = t0) (some (t0))
set_option maxRecDepth 100000 in
theorem wJ5_isLatin1_aae02_b18 {E : PE} {p : Program} {l : Launch} {e : Env} {s : State} {m : MethodId} {args : Array Value} {below : List Frame} {meth : Method} {c : Code} (X : Cx E p l e (rmv 0 0 0) s m args below meth c RJ5 cJ5_isLatin1_aae02 1 (some .boolean)) (hG : Gs E l) (hnm : meth.name = yJ5_isLatin1_aae02.name) {t0 : Int32} {h : PH} {r : Int32} (hf : fJ5_isLatin1_aae02_b18 t0 h = some r)  : PW E p l e (rmv 0 0 0) s m args below meth c 1 0 0 (MQ below (QG E (fun v u => v = some (.int r) ∧ u = h)) args s 0 0 (pA E)) h 18 [] [.int t0] := by
  unfold fJ5_isLatin1_aae02_b18 at hf
  obtain ⟨hg1, hf⟩ := gd_some hf
  have er := Option.some.inj hf
  subst er
  exact p_zret X rfl (congrArg Value.int hg1) (dcg dc_J5_isLatin1_aae02 8 rfl) ⟨rfl, rfl⟩ (Nat.le_refl _) (Nat.le_refl _)
noncomputable def fJ5_isLatin1_aae02_b17  (h : PH) : Option Int32 :=
  fJ5_isLatin1_aae02_b18 (0 : Int32) h
set_option maxRecDepth 100000 in
theorem wJ5_isLatin1_aae02_b17 {E : PE} {p : Program} {l : Launch} {e : Env} {s : State} {m : MethodId} {args : Array Value} {below : List Frame} {meth : Method} {c : Code} (X : Cx E p l e (rmv 0 0 0) s m args below meth c RJ5 cJ5_isLatin1_aae02 1 (some .boolean)) (hG : Gs E l) (hnm : meth.name = yJ5_isLatin1_aae02.name)  {h : PH} {r : Int32} (hf : fJ5_isLatin1_aae02_b17  h = some r)  : PW E p l e (rmv 0 0 0) s m args below meth c 1 0 0 (MQ below (QG E (fun v u => v = some (.int r) ∧ u = h)) args s 0 0 (pA E)) h 17 [] [] := by
  unfold fJ5_isLatin1_aae02_b17 at hf
  refine p_iconst (v := 0) X (dcg dc_J5_isLatin1_aae02 7 rfl) (by decide) ?_
  refine p_pick [] ?_
  exact wJ5_isLatin1_aae02_b18 X hG hnm hf 
noncomputable def fJ5_isLatin1_aae02 (v0 : Nat) (h : PH) : Option Int32 :=
  if ((1 : Int32) = 0) then (fJ5_isLatin1_aae02_b17  h) else
  gd (hK h v0 = 13) (if (¬ (hI h 13 v0 1) = 0) then (fJ5_isLatin1_aae02_b17  h) else
  fJ5_isLatin1_aae02_b18 (1 : Int32) h)
set_option maxRecDepth 100000 in
theorem wJ5_isLatin1_aae02 {E : PE} {l : Launch} (hG : Gs E l) {v0 : Nat} {h : PH} {r : Int32} (hf : fJ5_isLatin1_aae02 v0 h = some r) : Ct E l 0 0 0 yJ5_isLatin1_aae02 cJ5_isLatin1_aae02 1 (some .boolean) [.ref v0] h (fun v u => v = some (.int r) ∧ u = h) := by
  refine ct_of hG (by decide) (Nat.le_of_ble_eq_true rfl) ?_
  intro p e s m args below meth c X hnm
  show PW E p l e _ s m args below meth c _ 0 0 _ h 0 [(0, some (.ref v0))] []
  unfold fJ5_isLatin1_aae02 at hf
  refine p_gets (v := .int (1 : Int32)) X (gz_cmp hG) tw_366 (dcg dc_J5_isLatin1_aae02 0 rfl) ?_
  refine p_if_eq (tgt := 17) X (dcg dc_J5_isLatin1_aae02 1 rfl) (by decide) (fun q => ?_) (fun q => ?_)
  · have hf := if_t q hf
    refine p_pick [] ?_
    exact wJ5_isLatin1_aae02_b17 X hG hnm hf 
  · have hf := if_f q hf
    refine p_aload_n X (dcg dc_J5_isLatin1_aae02 2 rfl) rfl rfl ?_
    obtain ⟨hk2, hf⟩ := gd_some hf
    refine p_getI X fl_J5_22 rfl (by decide) (dcg dc_J5_isLatin1_aae02 3 rfl) hk2 ?_
    refine p_if_ne (tgt := 17) X (dcg dc_J5_isLatin1_aae02 4 rfl) (by decide) (fun q => ?_) (fun q => ?_)
    · have hf := if_t q hf
      refine p_pick [] ?_
      exact wJ5_isLatin1_aae02_b17 X hG hnm hf 
    · have hf := if_f q hf
      refine p_iconst (v := 1) X (dcg dc_J5_isLatin1_aae02 5 rfl) (by decide) ?_
      refine p_goto (tgt := 18) X (dcg dc_J5_isLatin1_aae02 6 rfl) (by decide) ?_
      refine p_pick [] ?_
      exact wJ5_isLatin1_aae02_b18 X hG hnm hf 
theorem dc_J1_canEncode_fc78d : decs cJ1_canEncode_fc78d [(0, .iload_n 0, 1), (1, .sipush 255, 3), (4, .if_icmp .gt 7, 3), (7, .iconst 1, 1), (8, .goto 4, 3), (11, .iconst 0, 1), (12, .ireturn, 1)] = true := by decide +kernel
noncomputable def fJ1_canEncode_fc78d_b12 (t0 : Int32) : Option Int32 :=
  gd (t0 &&& 1 = t0) (some (t0))
set_option maxRecDepth 100000 in
theorem wJ1_canEncode_fc78d_b12 {E : PE} {p : Program} {l : Launch} {e : Env} {s : State} {m : MethodId} {args : Array Value} {below : List Frame} {meth : Method} {c : Code} (X : Cx E p l e (rmv 0 0 0) s m args below meth c RJ1 cJ1_canEncode_fc78d 1 (some .boolean)) (hG : Gs E l) (hnm : meth.name = yJ1_canEncode_fc78d.name) {t0 : Int32} {h : PH} {r : Int32} (hf : fJ1_canEncode_fc78d_b12 t0 = some r)  : PW E p l e (rmv 0 0 0) s m args below meth c 1 0 0 (MQ below (QG E (fun v u => v = some (.int r) ∧ u = h)) args s 0 0 (pA E)) h 12 [] [.int t0] := by
  unfold fJ1_canEncode_fc78d_b12 at hf
  obtain ⟨hg1, hf⟩ := gd_some hf
  have er := Option.some.inj hf
  subst er
  exact p_zret X rfl (congrArg Value.int hg1) (dcg dc_J1_canEncode_fc78d 6 rfl) ⟨rfl, rfl⟩ (Nat.le_refl _) (Nat.le_refl _)
noncomputable def fJ1_canEncode_fc78d (v0 : Int32) : Option Int32 :=
  if ((255 : Int32) < v0) then (fJ1_canEncode_fc78d_b12 (0 : Int32)) else
  fJ1_canEncode_fc78d_b12 (1 : Int32)
set_option maxRecDepth 100000 in
theorem wJ1_canEncode_fc78d {E : PE} {l : Launch} (hG : Gs E l) {v0 : Int32} {h : PH} {r : Int32} (hf : fJ1_canEncode_fc78d v0 = some r) : Ct E l 0 0 0 yJ1_canEncode_fc78d cJ1_canEncode_fc78d 1 (some .boolean) [.int v0] h (fun v u => v = some (.int r) ∧ u = h) := by
  refine ct_of hG (by decide) (Nat.le_of_ble_eq_true rfl) ?_
  intro p e s m args below meth c X hnm
  show PW E p l e _ s m args below meth c _ 0 0 _ h 0 [(0, some (.int v0))] []
  unfold fJ1_canEncode_fc78d at hf
  refine p_iload_n X (dcg dc_J1_canEncode_fc78d 0 rfl) rfl rfl ?_
  refine p_sipush (v := 255) X (dcg dc_J1_canEncode_fc78d 1 rfl) (by decide) ?_
  refine p_icmp_gt (tgt := 11) X (dcg dc_J1_canEncode_fc78d 2 rfl) (by decide) (fun q => ?_) (fun q => ?_)
  · have hf := if_t q hf
    refine p_iconst (v := 0) X (dcg dc_J1_canEncode_fc78d 5 rfl) (by decide) ?_
    refine p_pick [] ?_
    exact wJ1_canEncode_fc78d_b12 X hG hnm hf 
  · have hf := if_f q hf
    refine p_iconst (v := 1) X (dcg dc_J1_canEncode_fc78d 3 rfl) (by decide) ?_
    refine p_goto (tgt := 12) X (dcg dc_J1_canEncode_fc78d 4 rfl) (by decide) ?_
    refine p_pick [] ?_
    exact wJ1_canEncode_fc78d_b12 X hG hnm hf 
