/-! test (by program: wip/whole/gen2.py) -/
theorem dc_X8_placeOf : decs cX8_placeOf [(0, .iload_n 2, 1), (1, .istore_n 3, 1), (2, .iconst 0, 1), (3, .istore 4, 2), (5, .iload 4, 2), (7, .aload_n 0, 1), (8, .getfield 15, 3), (11, .if_icmp .ge 34, 3), (14, .iload_n 3, 1), (15, .ifCond .lt 30, 3), (18, .aload_n 0, 1), (19, .getfield 11, 3), (22, .iload 4, 2), (24, .iaload, 1), (25, .iload_n 1, 1), (26, .if_icmp .ne 13, 3), (29, .iload_n 3, 1), (30, .ifCond .ne 6, 3), (33, .iload 4, 2), (35, .ireturn, 1), (36, .iinc 3 (-1), 3), (39, .iinc 4 1, 3), (42, .goto (-37), 3), (45, .iconst (-1), 1), (46, .ireturn, 1)] = true := by decide +kernel
noncomputable def fX8_placeOf_b45  (h : PH) : Option Int32 :=
  some ((-1 : Int32))
set_option maxRecDepth 100000 in
theorem wX8_placeOf_b45 {E : PE} {p : Program} {l : Launch} {e : Env} {s : State} {m : MethodId} {args : Array Value} {below : List Frame} {meth : Method} {c : Code} (X : Cx E p l e (rmv 0 0 0) s m args below meth c RX8 cX8_placeOf 5 (some .int)) (hG : Gs E l) (hnm : meth.name = yX8_placeOf.name)  {h : PH} {r : Int32} (hf : fX8_placeOf_b45  h = some r)  : PW E p l e (rmv 0 0 0) s m args below meth c 5 0 0 (MQ below (QG E (fun v u => v = some (.int r) ∧ u = h)) args s 0 0 (pA E)) h 45 [] [] := by
  unfold fX8_placeOf_b45 at hf
  refine p_iconst (v := -1) X (dcg dc_X8_placeOf 23 rfl) (by decide) ?_
  have er := Option.some.inj hf
  subst er
  exact p_iret X rfl (dcg dc_X8_placeOf 24 rfl) ⟨rfl, rfl⟩ (Nat.le_refl _) (Nat.le_refl _)
noncomputable def fX8_placeOf_b39 (v0 : Nat) (v1 : Int32) (v3 : Int32) (v4 : Int32) (h : PH) : Option ((Int32 × Int32) ⊕ Int32) :=
  some (.inl (v3, (v4 + 1)))
set_option maxRecDepth 100000 in
theorem wX8_placeOf_b39 {E : PE} {p : Program} {l : Launch} {e : Env} {s : State} {m : MethodId} {args : Array Value} {below : List Frame} {meth : Method} {c : Code} (X : Cx E p l e (rmv 0 0 0) s m args below meth c RX8 cX8_placeOf 5 (some .int)) (hG : Gs E l) (hnm : meth.name = yX8_placeOf.name) {v0 : Nat} {v1 : Int32} {v3 : Int32} {v4 : Int32} {h : PH} {r : Int32} {x : ((Int32 × Int32) ⊕ Int32)} (hf : fX8_placeOf_b39 v0 v1 v3 v4 h = some x) (k0 : ∀ z : (Int32 × Int32), x = .inl z → PW E p l e (rmv 0 0 0) s m args below meth c 5 0 0 (MQ below (QG E (fun v u => v = some (.int r) ∧ u = h)) args s 0 0 (pA E)) h 5 [(0, some (.ref v0)), (1, some (.int v1)), (3, some (.int (z.1))), (4, some (.int (z.2)))] []) (kf : ∀ z : Int32, x = .inr z → z = r) : PW E p l e (rmv 0 0 0) s m args below meth c 5 0 0 (MQ below (QG E (fun v u => v = some (.int r) ∧ u = h)) args s 0 0 (pA E)) h 39 [(0, some (.ref v0)), (1, some (.int v1)), (3, some (.int v3)), (4, some (.int v4))] [] := by
  unfold fX8_placeOf_b39 at hf
  refine p_iinc (v := 1) X (dcg dc_X8_placeOf 21 rfl) rfl (by decide) (by decide) rfl ?_
  refine p_goto (tgt := 5) X (dcg dc_X8_placeOf 22 rfl) (by decide) ?_
  refine p_pick [0, 1, 3, 4] ?_
  exact k0 _ (Option.some.inj hf).symm
noncomputable def fX8_placeOf_c5 (v0 : Nat) (v1 : Int32) (v3 : Int32) (v4 : Int32) (h : PH) : Option ((Int32 × Int32) ⊕ Int32) :=
  gd (hK h v0 = 8) (if ((hI h 8 v0 1) ≤ v4) then (mr (fX8_placeOf_b45  h)) else
  if (v3 < 0) then (mr (fX8_placeOf_b45  h)) else
  gs (hR h 8 v0 0) (fun a6 =>
  gd (hK h a6 = 20 ∧ inb v4 (hN h a6)) (if (¬ (hI h 20 a6 (Int32.toNatClampNeg v4)) = v1) then (fX8_placeOf_b39 v0 v1 v3 v4 h) else
  if (¬ v3 = 0) then (fX8_placeOf_b39 v0 v1 (v3 + (-1)) v4 h) else
  mr (some (v4)))))
set_option maxRecDepth 100000 in
theorem wX8_placeOf_c5 {E : PE} {p : Program} {l : Launch} {e : Env} {s : State} {m : MethodId} {args : Array Value} {below : List Frame} {meth : Method} {c : Code} (X : Cx E p l e (rmv 0 0 0) s m args below meth c RX8 cX8_placeOf 5 (some .int)) (hG : Gs E l) (hnm : meth.name = yX8_placeOf.name) {v0 : Nat} {v1 : Int32} {v3 : Int32} {v4 : Int32} {h : PH} {r : Int32} {x : ((Int32 × Int32) ⊕ Int32)} (hf : fX8_placeOf_c5 v0 v1 v3 v4 h = some x) (k0 : ∀ z : (Int32 × Int32), x = .inl z → PW E p l e (rmv 0 0 0) s m args below meth c 5 0 0 (MQ below (QG E (fun v u => v = some (.int r) ∧ u = h)) args s 0 0 (pA E)) h 5 [(0, some (.ref v0)), (1, some (.int v1)), (3, some (.int (z.1))), (4, some (.int (z.2)))] []) (kf : ∀ z : Int32, x = .inr z → z = r) : PW E p l e (rmv 0 0 0) s m args below meth c 5 0 0 (MQ below (QG E (fun v u => v = some (.int r) ∧ u = h)) args s 0 0 (pA E)) h 5 [(0, some (.ref v0)), (1, some (.int v1)), (3, some (.int v3)), (4, some (.int v4))] [] := by
  unfold fX8_placeOf_c5 at hf
  refine p_iload X (dcg dc_X8_placeOf 4 rfl) rfl ?_
  refine p_aload_n X (dcg dc_X8_placeOf 5 rfl) rfl rfl ?_
  obtain ⟨hk1, hf⟩ := gd_some hf
  refine p_getI X fl_X8_15 rfl (by decide) (dcg dc_X8_placeOf 6 rfl) hk1 ?_
  refine p_icmp_ge (tgt := 45) X (dcg dc_X8_placeOf 7 rfl) (by decide) (fun q => ?_) (fun q => ?_)
  · have hf := if_t q hf
    obtain ⟨y2, hf, hy3⟩ := mr_some hf
    have hy3f := kf y2 hy3
    subst hy3f
    refine p_pick [] ?_
    exact wX8_placeOf_b45 X hG hnm hf 
  · have hf := if_f q hf
    refine p_iload_n X (dcg dc_X8_placeOf 8 rfl) rfl rfl ?_
    refine p_if_lt (tgt := 45) X (dcg dc_X8_placeOf 9 rfl) (by decide) (fun q => ?_) (fun q => ?_)
    · have hf := if_t q hf
      obtain ⟨y4, hf, hy5⟩ := mr_some hf
      have hy5f := kf y4 hy5
      subst hy5f
      refine p_pick [] ?_
      exact wX8_placeOf_b45 X hG hnm hf 
    · have hf := if_f q hf
      refine p_aload_n X (dcg dc_X8_placeOf 10 rfl) rfl rfl ?_
      refine p_getR X fl_X8_11 rfl (by decide) (dcg dc_X8_placeOf 11 rfl) hk1 ?_
      refine p_iload X (dcg dc_X8_placeOf 12 rfl) rfl ?_
      obtain ⟨a6, e7, hf⟩ := gs_some hf
      first | subst e7 | (try rw [e7])
      obtain ⟨⟨hk9, hb8⟩, hf⟩ := gd_some hf
      refine p_iald X (dcg dc_X8_placeOf 13 rfl) hk9 (vp_of_inb hb8) ?_
      refine p_iload_n X (dcg dc_X8_placeOf 14 rfl) rfl rfl ?_
      refine p_icmp_ne (tgt := 39) X (dcg dc_X8_placeOf 15 rfl) (by decide) (fun q => ?_) (fun q => ?_)
      · have hf := if_t q hf
        refine p_pick [0, 1, 3, 4] ?_
        exact wX8_placeOf_b39 X hG hnm hf k0 kf
      · have hf := if_f q hf
        refine p_iload_n X (dcg dc_X8_placeOf 16 rfl) rfl rfl ?_
        refine p_if_ne (tgt := 36) X (dcg dc_X8_placeOf 17 rfl) (by decide) (fun q => ?_) (fun q => ?_)
        · have hf := if_t q hf
          refine p_iinc (v := -1) X (dcg dc_X8_placeOf 20 rfl) rfl (by decide) (by decide) rfl ?_
          refine p_pick [0, 1, 3, 4] ?_
          exact wX8_placeOf_b39 X hG hnm hf k0 kf
        · have hf := if_f q hf
          obtain ⟨y10, hf, hy11⟩ := mr_some hf
          have hy11f := kf y10 hy11
          subst hy11f
          refine p_iload X (dcg dc_X8_placeOf 18 rfl) rfl ?_
          have er := Option.some.inj hf
          subst er
          exact p_iret X rfl (dcg dc_X8_placeOf 19 rfl) ⟨rfl, rfl⟩ (Nat.le_refl _) (Nat.le_refl _)
noncomputable def fX8_placeOf_l5 (v0 : Nat) (v1 : Int32) (v3 : Int32) (v4 : Int32) (h : PH) : Option Int32 := wh (fun z : (Int32 × Int32) => fX8_placeOf_c5 v0 v1 (z.1) (z.2) h) (v3, v4)
set_option maxRecDepth 100000 in
theorem wX8_placeOf_l5 {E : PE} {p : Program} {l : Launch} {e : Env} {s : State} {m : MethodId} {args : Array Value} {below : List Frame} {meth : Method} {c : Code} (X : Cx E p l e (rmv 0 0 0) s m args below meth c RX8 cX8_placeOf 5 (some .int)) (hG : Gs E l) (hnm : meth.name = yX8_placeOf.name) {v0 : Nat} {v1 : Int32} {v3 : Int32} {v4 : Int32} {h : PH} {r : Int32} (hf : fX8_placeOf_l5 v0 v1 v3 v4 h = some r)  : PW E p l e (rmv 0 0 0) s m args below meth c 5 0 0 (MQ below (QG E (fun v u => v = some (.int r) ∧ u = h)) args s 0 0 (pA E)) h 5 [(0, some (.ref v0)), (1, some (.int v1)), (3, some (.int v3)), (4, some (.int v4))] [] := by
  unfold fX8_placeOf_l5 at hf
  refine wh_ind (P := fun z => PW E p l e (rmv 0 0 0) s m args below meth c 5 0 0 (MQ below (QG E (fun v u => v = some (.int r) ∧ u = h)) args s 0 0 (pA E)) h 5 [(0, some (.ref v0)), (1, some (.int v1)), (3, some (.int (z.1))), (4, some (.int (z.2)))] []) (fun z x0 hs i1 i2 => ?_) _ hf
  exact wX8_placeOf_c5 (r := r) (v0 := v0) (v1 := v1) (v3 := z.1) (v4 := z.2) (h := h) X hG hnm hs i1  i2
noncomputable def fX8_placeOf (v0 : Nat) (v1 : Int32) (v2 : Int32) (h : PH) : Option Int32 :=
  fX8_placeOf_l5 v0 v1 v2 (0 : Int32) h
set_option maxRecDepth 100000 in
theorem wX8_placeOf {E : PE} {l : Launch} (hG : Gs E l) {v0 : Nat} {v1 : Int32} {v2 : Int32} {h : PH} {r : Int32} (hf : fX8_placeOf v0 v1 v2 h = some r) : Ct E l 0 0 0 yX8_placeOf cX8_placeOf 5 (some .int) [.ref v0, .int v1, .int v2] h (fun v u => v = some (.int r) ∧ u = h) := by
  refine ct_of hG (by decide) (Nat.le_of_ble_eq_true rfl) ?_
  intro p e s m args below meth c X hnm
  show PW E p l e _ s m args below meth c _ 0 0 _ h 0 [(0, some (.ref v0)), (1, some (.int v1)), (2, some (.int v2))] []
  unfold fX8_placeOf at hf
  refine p_iload_n X (dcg dc_X8_placeOf 0 rfl) rfl rfl ?_
  refine p_istore_n X (dcg dc_X8_placeOf 1 rfl) rfl (by decide) rfl ?_
  refine p_iconst (v := 0) X (dcg dc_X8_placeOf 2 rfl) (by decide) ?_
  refine p_istore X (dcg dc_X8_placeOf 3 rfl) (by decide) rfl ?_
  refine p_pick [0, 1, 3, 4] ?_
  exact wX8_placeOf_l5 X hG hnm hf 
theorem dc_X8_countNear : decs cX8_countNear [(0, .iconst 0, 1), (1, .istore 4, 2), (3, .iconst 0, 1), (4, .istore 5, 2), (6, .iload 5, 2), (8, .aload_n 0, 1), (9, .getfield 15, 3), (12, .if_icmp .ge 74, 3), (15, .aload_n 0, 1), (16, .getfield 11, 3), (19, .iload 5, 2), (21, .iaload, 1), (22, .iload_n 1, 1), (23, .if_icmp .eq 6, 3), (26, .goto 54, 3), (29, .iconst 0, 1), (30, .istore 6, 2), (32, .iload 6, 2), (34, .aload_n 0, 1), (35, .getfield 15, 3), (38, .if_icmp .ge 42, 3), (41, .iload 6, 2), (43, .iload 5, 2), (45, .if_icmp .eq 29, 3), (48, .aload_n 0, 1), (49, .getfield 11, 3), (52, .iload 6, 2), (54, .iaload, 1), (55, .iload_n 2, 1), (56, .if_icmp .ne 18, 3), (59, .iload 5, 2), (61, .iload 6, 2), (63, .isub, 1), (64, .invokestatic 34, 3), (67, .iload_n 3, 1), (68, .if_icmp .gt 6, 3), (71, .iinc 4 1, 3), (74, .iinc 6 1, 3), (77, .goto (-45), 3), (80, .iinc 5 1, 3), (83, .goto (-77), 3), (86, .iload 4, 2), (88, .ireturn, 1)] = true := by decide +kernel
noncomputable def fX8_countNear_b80 (v0 : Nat) (v1 : Int32) (v2 : Int32) (v3 : Int32) (v4 : Int32) (v5 : Int32) (h : PH) : Option ((Int32 × Int32) ⊕ Int32) :=
  some (.inl (v4, (v5 + 1)))
set_option maxRecDepth 100000 in
theorem wX8_countNear_b80 {E : PE} {p : Program} {l : Launch} {e : Env} {s : State} {m : MethodId} {args : Array Value} {below : List Frame} {meth : Method} {c : Code} (X : Cx E p l e (rmv 1 0 0) s m args below meth c RX8 cX8_countNear 7 (some .int)) (hG : Gs E l) (hnm : meth.name = yX8_countNear.name) {v0 : Nat} {v1 : Int32} {v2 : Int32} {v3 : Int32} {v4 : Int32} {v5 : Int32} {h : PH} {r : Int32} {x : ((Int32 × Int32) ⊕ Int32)} (hf : fX8_countNear_b80 v0 v1 v2 v3 v4 v5 h = some x) (k0 : ∀ z : (Int32 × Int32), x = .inl z → PW E p l e (rmv 1 0 0) s m args below meth c 7 0 0 (MQ below (QG E (fun v u => v = some (.int r) ∧ u = h)) args s 0 0 (pA E)) h 6 [(0, some (.ref v0)), (1, some (.int v1)), (2, some (.int v2)), (3, some (.int v3)), (4, some (.int (z.1))), (5, some (.int (z.2)))] []) (kf : ∀ z : Int32, x = .inr z → z = r) : PW E p l e (rmv 1 0 0) s m args below meth c 7 0 0 (MQ below (QG E (fun v u => v = some (.int r) ∧ u = h)) args s 0 0 (pA E)) h 80 [(0, some (.ref v0)), (1, some (.int v1)), (2, some (.int v2)), (3, some (.int v3)), (4, some (.int v4)), (5, some (.int v5))] [] := by
  unfold fX8_countNear_b80 at hf
  refine p_iinc (v := 1) X (dcg dc_X8_countNear 39 rfl) rfl (by decide) (by decide) rfl ?_
  refine p_goto (tgt := 6) X (dcg dc_X8_countNear 40 rfl) (by decide) ?_
  refine p_pick [0, 1, 2, 3, 4, 5] ?_
  exact k0 _ (Option.some.inj hf).symm
noncomputable def fX8_countNear_b74 (v0 : Nat) (v1 : Int32) (v2 : Int32) (v3 : Int32) (v4 : Int32) (v5 : Int32) (v6 : Int32) (h : PH) : Option ((Int32 × Int32) ⊕ ((Int32 × Int32) ⊕ Int32)) :=
  some (.inl (v4, (v6 + 1)))
set_option maxRecDepth 100000 in
theorem wX8_countNear_b74 {E : PE} {p : Program} {l : Launch} {e : Env} {s : State} {m : MethodId} {args : Array Value} {below : List Frame} {meth : Method} {c : Code} (X : Cx E p l e (rmv 1 0 0) s m args below meth c RX8 cX8_countNear 7 (some .int)) (hG : Gs E l) (hnm : meth.name = yX8_countNear.name) {v0 : Nat} {v1 : Int32} {v2 : Int32} {v3 : Int32} {v4 : Int32} {v5 : Int32} {v6 : Int32} {h : PH} {r : Int32} {x : ((Int32 × Int32) ⊕ ((Int32 × Int32) ⊕ Int32))} (hf : fX8_countNear_b74 v0 v1 v2 v3 v4 v5 v6 h = some x) (k0 : ∀ z : (Int32 × Int32), x = .inl z → PW E p l e (rmv 1 0 0) s m args below meth c 7 0 0 (MQ below (QG E (fun v u => v = some (.int r) ∧ u = h)) args s 0 0 (pA E)) h 32 [(0, some (.ref v0)), (1, some (.int v1)), (2, some (.int v2)), (3, some (.int v3)), (4, some (.int (z.1))), (5, some (.int v5)), (6, some (.int (z.2)))] []) (k1 : ∀ z : (Int32 × Int32), x = .inr (.inl z) → PW E p l e (rmv 1 0 0) s m args below meth c 7 0 0 (MQ below (QG E (fun v u => v = some (.int r) ∧ u = h)) args s 0 0 (pA E)) h 6 [(0, some (.ref v0)), (1, some (.int v1)), (2, some (.int v2)), (3, some (.int v3)), (4, some (.int (z.1))), (5, some (.int (z.2)))] []) (kf : ∀ z : Int32, x = .inr (.inr z) → z = r) : PW E p l e (rmv 1 0 0) s m args below meth c 7 0 0 (MQ below (QG E (fun v u => v = some (.int r) ∧ u = h)) args s 0 0 (pA E)) h 74 [(0, some (.ref v0)), (1, some (.int v1)), (2, some (.int v2)), (3, some (.int v3)), (4, some (.int v4)), (5, some (.int v5)), (6, some (.int v6))] [] := by
  unfold fX8_countNear_b74 at hf
  refine p_iinc (v := 1) X (dcg dc_X8_countNear 37 rfl) rfl (by decide) (by decide) rfl ?_
  refine p_goto (tgt := 32) X (dcg dc_X8_countNear 38 rfl) (by decide) ?_
  refine p_pick [0, 1, 2, 3, 4, 5, 6] ?_
  exact k0 _ (Option.some.inj hf).symm
noncomputable def fX8_countNear_c32 (v0 : Nat) (v1 : Int32) (v2 : Int32) (v3 : Int32) (v4 : Int32) (v5 : Int32) (v6 : Int32) (h : PH) : Option ((Int32 × Int32) ⊕ ((Int32 × Int32) ⊕ Int32)) :=
  gd (hK h v0 = 8) (if ((hI h 8 v0 1) ≤ v6) then (mr (fX8_countNear_b80 v0 v1 v2 v3 v4 v5 h)) else
  if (v6 = v5) then (fX8_countNear_b74 v0 v1 v2 v3 v4 v5 v6 h) else
  gs (hR h 8 v0 0) (fun a11 =>
  gd (hK h a11 = 20 ∧ inb v6 (hN h a11)) (if (¬ (hI h 20 a11 (Int32.toNatClampNeg v6)) = v2) then (fX8_countNear_b74 v0 v1 v2 v3 v4 v5 v6 h) else
  if (v3 < (if 0 ≤ (v5 - v6) then (v5 - v6) else 0 - (v5 - v6))) then (fX8_countNear_b74 v0 v1 v2 v3 v4 v5 v6 h) else
  fX8_countNear_b74 v0 v1 v2 v3 (v4 + 1) v5 v6 h)))
set_option maxRecDepth 100000 in
theorem wX8_countNear_c32 {E : PE} {p : Program} {l : Launch} {e : Env} {s : State} {m : MethodId} {args : Array Value} {below : List Frame} {meth : Method} {c : Code} (X : Cx E p l e (rmv 1 0 0) s m args below meth c RX8 cX8_countNear 7 (some .int)) (hG : Gs E l) (hnm : meth.name = yX8_countNear.name) {v0 : Nat} {v1 : Int32} {v2 : Int32} {v3 : Int32} {v4 : Int32} {v5 : Int32} {v6 : Int32} {h : PH} {r : Int32} {x : ((Int32 × Int32) ⊕ ((Int32 × Int32) ⊕ Int32))} (hf : fX8_countNear_c32 v0 v1 v2 v3 v4 v5 v6 h = some x) (k0 : ∀ z : (Int32 × Int32), x = .inl z → PW E p l e (rmv 1 0 0) s m args below meth c 7 0 0 (MQ below (QG E (fun v u => v = some (.int r) ∧ u = h)) args s 0 0 (pA E)) h 32 [(0, some (.ref v0)), (1, some (.int v1)), (2, some (.int v2)), (3, some (.int v3)), (4, some (.int (z.1))), (5, some (.int v5)), (6, some (.int (z.2)))] []) (k1 : ∀ z : (Int32 × Int32), x = .inr (.inl z) → PW E p l e (rmv 1 0 0) s m args below meth c 7 0 0 (MQ below (QG E (fun v u => v = some (.int r) ∧ u = h)) args s 0 0 (pA E)) h 6 [(0, some (.ref v0)), (1, some (.int v1)), (2, some (.int v2)), (3, some (.int v3)), (4, some (.int (z.1))), (5, some (.int (z.2)))] []) (kf : ∀ z : Int32, x = .inr (.inr z) → z = r) : PW E p l e (rmv 1 0 0) s m args below meth c 7 0 0 (MQ below (QG E (fun v u => v = some (.int r) ∧ u = h)) args s 0 0 (pA E)) h 32 [(0, some (.ref v0)), (1, some (.int v1)), (2, some (.int v2)), (3, some (.int v3)), (4, some (.int v4)), (5, some (.int v5)), (6, some (.int v6))] [] := by
  unfold fX8_countNear_c32 at hf
  refine p_iload X (dcg dc_X8_countNear 17 rfl) rfl ?_
  refine p_aload_n X (dcg dc_X8_countNear 18 rfl) rfl rfl ?_
  obtain ⟨hk8, hf⟩ := gd_some hf
  refine p_getI X fl_X8_15 rfl (by decide) (dcg dc_X8_countNear 19 rfl) hk8 ?_
  refine p_icmp_ge (tgt := 80) X (dcg dc_X8_countNear 20 rfl) (by decide) (fun q => ?_) (fun q => ?_)
  · have hf := if_t q hf
    obtain ⟨y9, hf, hy10⟩ := mr_some hf
    refine p_pick [0, 1, 2, 3, 4, 5] ?_
    exact wX8_countNear_b80 X hG hnm hf (fun z0 e0 => k1 z0 (by rw [hy10, e0])) (fun z0 e0 => kf z0 (by rw [hy10, e0]))
  · have hf := if_f q hf
    refine p_iload X (dcg dc_X8_countNear 21 rfl) rfl ?_
    refine p_iload X (dcg dc_X8_countNear 22 rfl) rfl ?_
    refine p_icmp_eq (tgt := 74) X (dcg dc_X8_countNear 23 rfl) (by decide) (fun q => ?_) (fun q => ?_)
    · have hf := if_t q hf
      refine p_pick [0, 1, 2, 3, 4, 5, 6] ?_
      exact wX8_countNear_b74 X hG hnm hf k0 k1 kf
    · have hf := if_f q hf
      refine p_aload_n X (dcg dc_X8_countNear 24 rfl) rfl rfl ?_
      refine p_getR X fl_X8_11 rfl (by decide) (dcg dc_X8_countNear 25 rfl) hk8 ?_
      refine p_iload X (dcg dc_X8_countNear 26 rfl) rfl ?_
      obtain ⟨a11, e12, hf⟩ := gs_some hf
      first | subst e12 | (try rw [e12])
      obtain ⟨⟨hk14, hb13⟩, hf⟩ := gd_some hf
      refine p_iald X (dcg dc_X8_countNear 27 rfl) hk14 (vp_of_inb hb13) ?_
      refine p_iload_n X (dcg dc_X8_countNear 28 rfl) rfl rfl ?_
      refine p_icmp_ne (tgt := 74) X (dcg dc_X8_countNear 29 rfl) (by decide) (fun q => ?_) (fun q => ?_)
      · have hf := if_t q hf
        refine p_pick [0, 1, 2, 3, 4, 5, 6] ?_
        exact wX8_countNear_b74 X hG hnm hf k0 k1 kf
      · have hf := if_f q hf
        refine p_iload X (dcg dc_X8_countNear 30 rfl) rfl ?_
        refine p_iload X (dcg dc_X8_countNear 31 rfl) rfl ?_
        refine p_isub X (dcg dc_X8_countNear 32 rfl) ?_
        refine p_mabs X tw_958 tw_959 tw_123 tw_960 (dcg dc_X8_countNear 33 rfl) (Nat.le_of_ble_eq_true rfl) (Nat.le_trans (Nat.add_le_add_right (room4 (Nat.le_of_ble_eq_true rfl)) 13) (Nat.le_of_ble_eq_true rfl)) (Nat.le_refl _) (Nat.le_refl _) (fun ls hl => X.2.2.1.trans hl.1.symm) ?_
        refine p_iload_n X (dcg dc_X8_countNear 34 rfl) rfl rfl ?_
        refine p_icmp_gt (tgt := 74) X (dcg dc_X8_countNear 35 rfl) (by decide) (fun q => ?_) (fun q => ?_)
        · have hf := if_t q hf
          refine p_pick [0, 1, 2, 3, 4, 5, 6] ?_
          exact wX8_countNear_b74 X hG hnm hf k0 k1 kf
        · have hf := if_f q hf
          refine p_iinc (v := 1) X (dcg dc_X8_countNear 36 rfl) rfl (by decide) (by decide) rfl ?_
          refine p_pick [0, 1, 2, 3, 4, 5, 6] ?_
          exact wX8_countNear_b74 X hG hnm hf k0 k1 kf
noncomputable def fX8_countNear_l32 (v0 : Nat) (v1 : Int32) (v2 : Int32) (v3 : Int32) (v4 : Int32) (v5 : Int32) (v6 : Int32) (h : PH) : Option ((Int32 × Int32) ⊕ Int32) := wh (fun z : (Int32 × Int32) => fX8_countNear_c32 v0 v1 v2 v3 (z.1) v5 (z.2) h) (v4, v6)
set_option maxRecDepth 100000 in
theorem wX8_countNear_l32 {E : PE} {p : Program} {l : Launch} {e : Env} {s : State} {m : MethodId} {args : Array Value} {below : List Frame} {meth : Method} {c : Code} (X : Cx E p l e (rmv 1 0 0) s m args below meth c RX8 cX8_countNear 7 (some .int)) (hG : Gs E l) (hnm : meth.name = yX8_countNear.name) {v0 : Nat} {v1 : Int32} {v2 : Int32} {v3 : Int32} {v4 : Int32} {v5 : Int32} {v6 : Int32} {h : PH} {r : Int32} {x : ((Int32 × Int32) ⊕ Int32)} (hf : fX8_countNear_l32 v0 v1 v2 v3 v4 v5 v6 h = some x) (k0 : ∀ z : (Int32 × Int32), x = .inl z → PW E p l e (rmv 1 0 0) s m args below meth c 7 0 0 (MQ below (QG E (fun v u => v = some (.int r) ∧ u = h)) args s 0 0 (pA E)) h 6 [(0, some (.ref v0)), (1, some (.int v1)), (2, some (.int v2)), (3, some (.int v3)), (4, some (.int (z.1))), (5, some (.int (z.2)))] []) (kf : ∀ z : Int32, x = .inr z → z = r) : PW E p l e (rmv 1 0 0) s m args below meth c 7 0 0 (MQ below (QG E (fun v u => v = some (.int r) ∧ u = h)) args s 0 0 (pA E)) h 32 [(0, some (.ref v0)), (1, some (.int v1)), (2, some (.int v2)), (3, some (.int v3)), (4, some (.int v4)), (5, some (.int v5)), (6, some (.int v6))] [] := by
  unfold fX8_countNear_l32 at hf
  refine wh_ind (P := fun z => PW E p l e (rmv 1 0 0) s m args below meth c 7 0 0 (MQ below (QG E (fun v u => v = some (.int r) ∧ u = h)) args s 0 0 (pA E)) h 32 [(0, some (.ref v0)), (1, some (.int v1)), (2, some (.int v2)), (3, some (.int v3)), (4, some (.int (z.1))), (5, some (.int v5)), (6, some (.int (z.2)))] []) (fun z x0 hs i1 i2 => ?_) _ hf
  exact wX8_countNear_c32 (r := r) (v0 := v0) (v1 := v1) (v2 := v2) (v3 := v3) (v4 := z.1) (v5 := v5) (v6 := z.2) (h := h) X hG hnm hs i1 (fun z1 e1 => k0 z1 (i2 _ e1).symm) (fun z1 e1 => kf z1 (i2 _ e1).symm)
noncomputable def fX8_countNear_c6 (v0 : Nat) (v1 : Int32) (v2 : Int32) (v3 : Int32) (v4 : Int32) (v5 : Int32) (h : PH) : Option ((Int32 × Int32) ⊕ Int32) :=
  gd (hK h v0 = 8) (if ((hI h 8 v0 1) ≤ v5) then (mr (some (v4))) else
  gs (hR h 8 v0 0) (fun a4 =>
  gd (hK h a4 = 20 ∧ inb v5 (hN h a4)) (if ((hI h 20 a4 (Int32.toNatClampNeg v5)) = v1) then (fX8_countNear_l32 v0 v1 v2 v3 v4 v5 (0 : Int32) h) else
  fX8_countNear_b80 v0 v1 v2 v3 v4 v5 h)))
set_option maxRecDepth 100000 in
theorem wX8_countNear_c6 {E : PE} {p : Program} {l : Launch} {e : Env} {s : State} {m : MethodId} {args : Array Value} {below : List Frame} {meth : Method} {c : Code} (X : Cx E p l e (rmv 1 0 0) s m args below meth c RX8 cX8_countNear 7 (some .int)) (hG : Gs E l) (hnm : meth.name = yX8_countNear.name) {v0 : Nat} {v1 : Int32} {v2 : Int32} {v3 : Int32} {v4 : Int32} {v5 : Int32} {h : PH} {r : Int32} {x : ((Int32 × Int32) ⊕ Int32)} (hf : fX8_countNear_c6 v0 v1 v2 v3 v4 v5 h = some x) (k0 : ∀ z : (Int32 × Int32), x = .inl z → PW E p l e (rmv 1 0 0) s m args below meth c 7 0 0 (MQ below (QG E (fun v u => v = some (.int r) ∧ u = h)) args s 0 0 (pA E)) h 6 [(0, some (.ref v0)), (1, some (.int v1)), (2, some (.int v2)), (3, some (.int v3)), (4, some (.int (z.1))), (5, some (.int (z.2)))] []) (kf : ∀ z : Int32, x = .inr z → z = r) : PW E p l e (rmv 1 0 0) s m args below meth c 7 0 0 (MQ below (QG E (fun v u => v = some (.int r) ∧ u = h)) args s 0 0 (pA E)) h 6 [(0, some (.ref v0)), (1, some (.int v1)), (2, some (.int v2)), (3, some (.int v3)), (4, some (.int v4)), (5, some (.int v5))] [] := by
  unfold fX8_countNear_c6 at hf
  refine p_iload X (dcg dc_X8_countNear 4 rfl) rfl ?_
  refine p_aload_n X (dcg dc_X8_countNear 5 rfl) rfl rfl ?_
  obtain ⟨hk1, hf⟩ := gd_some hf
  refine p_getI X fl_X8_15 rfl (by decide) (dcg dc_X8_countNear 6 rfl) hk1 ?_
  refine p_icmp_ge (tgt := 86) X (dcg dc_X8_countNear 7 rfl) (by decide) (fun q => ?_) (fun q => ?_)
  · have hf := if_t q hf
    obtain ⟨y2, hf, hy3⟩ := mr_some hf
    have hy3f := kf y2 hy3
    subst hy3f
    refine p_iload X (dcg dc_X8_countNear 41 rfl) rfl ?_
    have er := Option.some.inj hf
    subst er
    exact p_iret X rfl (dcg dc_X8_countNear 42 rfl) ⟨rfl, rfl⟩ (Nat.le_refl _) (Nat.le_refl _)
  · have hf := if_f q hf
    refine p_aload_n X (dcg dc_X8_countNear 8 rfl) rfl rfl ?_
    refine p_getR X fl_X8_11 rfl (by decide) (dcg dc_X8_countNear 9 rfl) hk1 ?_
    refine p_iload X (dcg dc_X8_countNear 10 rfl) rfl ?_
    obtain ⟨a4, e5, hf⟩ := gs_some hf
    first | subst e5 | (try rw [e5])
    obtain ⟨⟨hk7, hb6⟩, hf⟩ := gd_some hf
    refine p_iald X (dcg dc_X8_countNear 11 rfl) hk7 (vp_of_inb hb6) ?_
    refine p_iload_n X (dcg dc_X8_countNear 12 rfl) rfl rfl ?_
    refine p_icmp_eq (tgt := 29) X (dcg dc_X8_countNear 13 rfl) (by decide) (fun q => ?_) (fun q => ?_)
    · have hf := if_t q hf
      refine p_iconst (v := 0) X (dcg dc_X8_countNear 15 rfl) (by decide) ?_
      refine p_istore X (dcg dc_X8_countNear 16 rfl) (by decide) rfl ?_
      refine p_pick [0, 1, 2, 3, 4, 5, 6] ?_
      exact wX8_countNear_l32 X hG hnm hf k0 kf
    · have hf := if_f q hf
      refine p_goto (tgt := 80) X (dcg dc_X8_countNear 14 rfl) (by decide) ?_
      refine p_pick [0, 1, 2, 3, 4, 5] ?_
      exact wX8_countNear_b80 X hG hnm hf k0 kf
noncomputable def fX8_countNear_l6 (v0 : Nat) (v1 : Int32) (v2 : Int32) (v3 : Int32) (v4 : Int32) (v5 : Int32) (h : PH) : Option Int32 := wh (fun z : (Int32 × Int32) => fX8_countNear_c6 v0 v1 v2 v3 (z.1) (z.2) h) (v4, v5)
set_option maxRecDepth 100000 in
theorem wX8_countNear_l6 {E : PE} {p : Program} {l : Launch} {e : Env} {s : State} {m : MethodId} {args : Array Value} {below : List Frame} {meth : Method} {c : Code} (X : Cx E p l e (rmv 1 0 0) s m args below meth c RX8 cX8_countNear 7 (some .int)) (hG : Gs E l) (hnm : meth.name = yX8_countNear.name) {v0 : Nat} {v1 : Int32} {v2 : Int32} {v3 : Int32} {v4 : Int32} {v5 : Int32} {h : PH} {r : Int32} (hf : fX8_countNear_l6 v0 v1 v2 v3 v4 v5 h = some r)  : PW E p l e (rmv 1 0 0) s m args below meth c 7 0 0 (MQ below (QG E (fun v u => v = some (.int r) ∧ u = h)) args s 0 0 (pA E)) h 6 [(0, some (.ref v0)), (1, some (.int v1)), (2, some (.int v2)), (3, some (.int v3)), (4, some (.int v4)), (5, some (.int v5))] [] := by
  unfold fX8_countNear_l6 at hf
  refine wh_ind (P := fun z => PW E p l e (rmv 1 0 0) s m args below meth c 7 0 0 (MQ below (QG E (fun v u => v = some (.int r) ∧ u = h)) args s 0 0 (pA E)) h 6 [(0, some (.ref v0)), (1, some (.int v1)), (2, some (.int v2)), (3, some (.int v3)), (4, some (.int (z.1))), (5, some (.int (z.2)))] []) (fun z x0 hs i1 i2 => ?_) _ hf
  exact wX8_countNear_c6 (r := r) (v0 := v0) (v1 := v1) (v2 := v2) (v3 := v3) (v4 := z.1) (v5 := z.2) (h := h) X hG hnm hs i1  i2
noncomputable def fX8_countNear (v0 : Nat) (v1 : Int32) (v2 : Int32) (v3 : Int32) (h : PH) : Option Int32 :=
  fX8_countNear_l6 v0 v1 v2 v3 (0 : Int32) (0 : Int32) h
set_option maxRecDepth 100000 in
theorem wX8_countNear {E : PE} {l : Launch} (hG : Gs E l) {v0 : Nat} {v1 : Int32} {v2 : Int32} {v3 : Int32} {h : PH} {r : Int32} (hf : fX8_countNear v0 v1 v2 v3 h = some r) : Ct E l 1 0 0 yX8_countNear cX8_countNear 7 (some .int) [.ref v0, .int v1, .int v2, .int v3] h (fun v u => v = some (.int r) ∧ u = h) := by
  refine ct_of hG (by decide) (Nat.le_of_ble_eq_true rfl) ?_
  intro p e s m args below meth c X hnm
  show PW E p l e _ s m args below meth c _ 0 0 _ h 0 [(0, some (.ref v0)), (1, some (.int v1)), (2, some (.int v2)), (3, some (.int v3))] []
  unfold fX8_countNear at hf
  refine p_iconst (v := 0) X (dcg dc_X8_countNear 0 rfl) (by decide) ?_
  refine p_istore X (dcg dc_X8_countNear 1 rfl) (by decide) rfl ?_
  refine p_iconst (v := 0) X (dcg dc_X8_countNear 2 rfl) (by decide) ?_
  refine p_istore X (dcg dc_X8_countNear 3 rfl) (by decide) rfl ?_
  refine p_pick [0, 1, 2, 3, 4, 5] ?_
  exact wX8_countNear_l6 X hG hnm hf 
theorem dc_X8_add : decs cX8_add [(0, .aload_n 0, 1), (1, .getfield 15, 3), (4, .bipush 40, 2), (6, .if_icmp .ge 23, 3), (9, .aload_n 0, 1), (10, .getfield 11, 3), (13, .aload_n 0, 1), (14, .getfield 15, 3), (17, .iload_n 1, 1), (18, .iastore, 1), (19, .aload_n 0, 1), (20, .dup, 1), (21, .getfield 15, 3), (24, .iconst 1, 1), (25, .iadd, 1), (26, .putfield 15, 3), (29, .return_, 1)] = true := by decide +kernel
noncomputable def fX8_add_b29  (h : PH) : Option PH :=
  some (h)
set_option maxRecDepth 100000 in
theorem mX8_add_b29  {h : PH} {r : PH} (hf : fX8_add_b29  h = some r) : eqz h (hX r) (hV r) := by
  unfold fX8_add_b29 at hf
  have hle := eqz_rf h
  have ee := Option.some.inj hf; subst ee; exact hle
set_option maxRecDepth 100000 in
theorem wX8_add_b29 {E : PE} {p : Program} {l : Launch} {e : Env} {s : State} {m : MethodId} {args : Array Value} {below : List Frame} {meth : Method} {c : Code} (X : Cx E p l e (rmv 0 0 0) s m args below meth c RX8 cX8_add 2 (none)) (hG : Gs E l) (hnm : meth.name = yX8_add.name)  {h : PH} {r : PH} (hf : fX8_add_b29  h = some r)  : PW E p l e (rmv 0 0 0) s m args below meth c 2 0 0 (MQ below (QG E (fun v u => v = none ∧ u = r)) args s 0 0 (pA E)) h 29 [] [] := by
  unfold fX8_add_b29 at hf
  have er := Option.some.inj hf
  subst er
  exact p_vret X rfl (dcg dc_X8_add 16 rfl) ⟨rfl, rfl⟩ (Nat.le_refl _) (Nat.le_refl _)
noncomputable def fX8_add (v0 : Nat) (v1 : Int32) (h : PH) : Option PH :=
  gd (hK h v0 = 8) (if ((40 : Int32) ≤ (hI h 8 v0 1)) then (fX8_add_b29  h) else
  gs (hR h 8 v0 0) (fun a2 =>
  gd (hK h a2 = 20 ∧ inb (hI h 8 v0 1) (hN h a2)) (lt (sI h 20 a2 (Int32.toNatClampNeg (hI h 8 v0 1)) v1) (fun h6 =>
  lt (sI h6 8 v0 1 ((hI h6 8 v0 1) + (1 : Int32))) (fun h7 =>
  fX8_add_b29  h7)))))
set_option maxRecDepth 100000 in
theorem mX8_add {v0 : Nat} {v1 : Int32} {h : PH} {r : PH} (hf : fX8_add v0 v1 h = some r) : eqz h (hX r) (hV r) := by
  unfold fX8_add at hf
  have hle := eqz_rf h
  obtain ⟨hk1, hf⟩ := gd_some hf
  rcases ite_or hf with ⟨q, hf⟩ | ⟨q, hf⟩
  · have hf := if_t q hf
    exact eqz_rt (mX8_add_b29 hf) hle
  · have hf := if_f q hf
    obtain ⟨a2, e3, hf⟩ := gs_some hf
    obtain ⟨⟨hk5, hb4⟩, hf⟩ := gd_some hf
    obtain ⟨h6, rfl, hf⟩ := lt_some hf
    obtain ⟨h7, rfl, hf⟩ := lt_some hf
    exact eqz_rt (mX8_add_b29 hf) hle
set_option maxRecDepth 100000 in
theorem wX8_add {E : PE} {l : Launch} (hG : Gs E l) {v0 : Nat} {v1 : Int32} {h : PH} {r : PH} (hf : fX8_add v0 v1 h = some r) : Ct E l 0 0 0 yX8_add cX8_add 2 (none) [.ref v0, .int v1] h (fun v u => v = none ∧ u = r) := by
  refine ct_of hG (by decide) (Nat.le_of_ble_eq_true rfl) ?_
  intro p e s m args below meth c X hnm
  show PW E p l e _ s m args below meth c _ 0 0 _ h 0 [(0, some (.ref v0)), (1, some (.int v1))] []
  unfold fX8_add at hf
  refine p_aload_n X (dcg dc_X8_add 0 rfl) rfl rfl ?_
  obtain ⟨hk1, hf⟩ := gd_some hf
  refine p_getI X fl_X8_15 rfl (by decide) (dcg dc_X8_add 1 rfl) hk1 ?_
  refine p_bipush (v := 40) X (dcg dc_X8_add 2 rfl) (by decide) ?_
  refine p_icmp_ge (tgt := 29) X (dcg dc_X8_add 3 rfl) (by decide) (fun q => ?_) (fun q => ?_)
  · have hf := if_t q hf
    refine p_pick [] ?_
    exact wX8_add_b29 X hG hnm hf 
  · have hf := if_f q hf
    refine p_aload_n X (dcg dc_X8_add 4 rfl) rfl rfl ?_
    refine p_getR X fl_X8_11 rfl (by decide) (dcg dc_X8_add 5 rfl) hk1 ?_
    refine p_aload_n X (dcg dc_X8_add 6 rfl) rfl rfl ?_
    refine p_getI X fl_X8_15 rfl (by decide) (dcg dc_X8_add 7 rfl) hk1 ?_
    refine p_iload_n X (dcg dc_X8_add 8 rfl) rfl rfl ?_
    obtain ⟨a2, e3, hf⟩ := gs_some hf
    first | subst e3 | (try rw [e3])
    obtain ⟨⟨hk5, hb4⟩, hf⟩ := gd_some hf
    refine p_iast X (dcg dc_X8_add 9 rfl) hk5 (vp_of_inb hb4) ?_
    obtain ⟨h6, rfl, hf⟩ := lt_some hf
    refine p_aload_n X (dcg dc_X8_add 10 rfl) rfl rfl ?_
    refine p_dup X (dcg dc_X8_add 11 rfl) rfl ?_
    refine p_getI X fl_X8_15 rfl (by decide) (dcg dc_X8_add 12 rfl) hk1 ?_
    refine p_iconst (v := 1) X (dcg dc_X8_add 13 rfl) (by decide) ?_
    refine p_iadd X (dcg dc_X8_add 14 rfl) ?_
    refine p_putI X fl_X8_15 rfl (by decide) (fun q hq => by cases hq; rfl) rfl rfl (dcg dc_X8_add 15 rfl) hk1 ?_
    obtain ⟨h7, rfl, hf⟩ := lt_some hf
    refine p_pick [] ?_
    exact wX8_add_b29 X hG hnm hf 
theorem dc_X7_addBytes : decs cX7_addBytes [(0, .bipush 24, 2), (2, .istore_n 2, 1), (3, .iload_n 2, 1), (4, .ifCond .lt 51, 3), (7, .iload_n 1, 1), (8, .iload_n 2, 1), (9, .iushr, 1), (10, .sipush 255, 3), (13, .iand, 1), (14, .istore_n 3, 1), (15, .iload_n 3, 1), (16, .ifCond .eq 33, 3), (19, .aload_n 0, 1), (20, .getfield 19, 3), (23, .sipush 300, 3), (26, .if_icmp .ge 23, 3), (29, .aload_n 0, 1), (30, .getfield 11, 3), (33, .aload_n 0, 1), (34, .getfield 19, 3), (37, .iload_n 3, 1), (38, .iastore, 1), (39, .aload_n 0, 1), (40, .dup, 1), (41, .getfield 19, 3), (44, .iconst 1, 1), (45, .iadd, 1), (46, .putfield 19, 3), (49, .iinc 2 (-8), 3), (52, .goto (-49), 3), (55, .return_, 1)] = true := by decide +kernel
noncomputable def fX7_addBytes_b49 (v0 : Nat) (v1 : Int32) (v2 : Int32) (h : PH) : Option ((Int32 × PH) ⊕ PH) :=
  some (.inl ((v2 + (-8)), h))
set_option maxRecDepth 100000 in
theorem mX7_addBytes_b49 {v0 : Nat} {v1 : Int32} {v2 : Int32} {h : PH} {x : ((Int32 × PH) ⊕ PH)} (hf : fX7_addBytes_b49 v0 v1 v2 h = some x) : (∀ z : (Int32 × PH), x = .inl z → eqz h (hX (z.2)) (hV (z.2))) ∧ (∀ z : PH, x = .inr z → eqz h (hX z) (hV z)) := by
  unfold fX7_addBytes_b49 at hf
  have hle := eqz_rf h
  have ee := Option.some.inj hf; subst ee
  exact ⟨(fun z e => by have ee := Sum.inl.inj (e); subst ee; exact hle), (fun z e => nomatch e)⟩
set_option maxRecDepth 100000 in
theorem wX7_addBytes_b49 {E : PE} {p : Program} {l : Launch} {e : Env} {s : State} {m : MethodId} {args : Array Value} {below : List Frame} {meth : Method} {c : Code} (X : Cx E p l e (rmv 0 0 0) s m args below meth c RX7 cX7_addBytes 4 (none)) (hG : Gs E l) (hnm : meth.name = yX7_addBytes.name) {v0 : Nat} {v1 : Int32} {v2 : Int32} {h : PH} {r : PH} {x : ((Int32 × PH) ⊕ PH)} (hf : fX7_addBytes_b49 v0 v1 v2 h = some x) (k0 : ∀ z : (Int32 × PH), x = .inl z → PW E p l e (rmv 0 0 0) s m args below meth c 4 0 0 (MQ below (QG E (fun v u => v = none ∧ u = r)) args s 0 0 (pA E)) (z.2) 3 [(0, some (.ref v0)), (1, some (.int v1)), (2, some (.int (z.1)))] []) (kf : ∀ z : PH, x = .inr z → z = r) : PW E p l e (rmv 0 0 0) s m args below meth c 4 0 0 (MQ below (QG E (fun v u => v = none ∧ u = r)) args s 0 0 (pA E)) h 49 [(0, some (.ref v0)), (1, some (.int v1)), (2, some (.int v2))] [] := by
  unfold fX7_addBytes_b49 at hf
  refine p_iinc (v := -8) X (dcg dc_X7_addBytes 28 rfl) rfl (by decide) (by decide) rfl ?_
  refine p_goto (tgt := 3) X (dcg dc_X7_addBytes 29 rfl) (by decide) ?_
  refine p_pick [0, 1, 2] ?_
  exact k0 _ (Option.some.inj hf).symm
noncomputable def fX7_addBytes_c3 (v0 : Nat) (v1 : Int32) (v2 : Int32) (h : PH) : Option ((Int32 × PH) ⊕ PH) :=
  if (v2 < 0) then (mr (some (h))) else
  if (((Int32.toUInt32 v1 >>> (Int32.toUInt32 v2 &&& Int32.toUInt32 31)).toInt32 &&& (255 : Int32)) = 0) then (fX7_addBytes_b49 v0 v1 v2 h) else
  gd (hK h v0 = 7) (if ((300 : Int32) ≤ (hI h 7 v0 1)) then (fX7_addBytes_b49 v0 v1 v2 h) else
  gs (hR h 7 v0 0) (fun a4 =>
  gd (hK h a4 = 20 ∧ inb (hI h 7 v0 1) (hN h a4)) (lt (sI h 20 a4 (Int32.toNatClampNeg (hI h 7 v0 1)) ((Int32.toUInt32 v1 >>> (Int32.toUInt32 v2 &&& Int32.toUInt32 31)).toInt32 &&& (255 : Int32))) (fun h8 =>
  lt (sI h8 7 v0 1 ((hI h8 7 v0 1) + (1 : Int32))) (fun h9 =>
  fX7_addBytes_b49 v0 v1 v2 h9)))))
set_option maxRecDepth 100000 in
theorem mX7_addBytes_c3 {v0 : Nat} {v1 : Int32} {v2 : Int32} {h : PH} {x : ((Int32 × PH) ⊕ PH)} (hf : fX7_addBytes_c3 v0 v1 v2 h = some x) : (∀ z : (Int32 × PH), x = .inl z → eqz h (hX (z.2)) (hV (z.2))) ∧ (∀ z : PH, x = .inr z → eqz h (hX z) (hV z)) := by
  unfold fX7_addBytes_c3 at hf
  have hle := eqz_rf h
  rcases ite_or hf with ⟨q, hf⟩ | ⟨q, hf⟩
  · have hf := if_t q hf
    obtain ⟨y1, hfm, rfl⟩ := mr_some hf; have hf := hfm; clear hfm
    have ee := Option.some.inj hf; subst ee
    exact ⟨(fun z e => nomatch e), (fun z e => by have ee := Sum.inr.inj (e); subst ee; exact hle)⟩
  · have hf := if_f q hf
    rcases ite_or hf with ⟨q, hf⟩ | ⟨q, hf⟩
    · have hf := if_t q hf
      obtain ⟨c0, cf⟩ := mX7_addBytes_b49 hf
      exact ⟨fun z e => eqz_rt (c0 z (e)) hle, fun z e => eqz_rt (cf z (e)) hle⟩
    · have hf := if_f q hf
      obtain ⟨hk3, hf⟩ := gd_some hf
      rcases ite_or hf with ⟨q, hf⟩ | ⟨q, hf⟩
      · have hf := if_t q hf
        obtain ⟨c0, cf⟩ := mX7_addBytes_b49 hf
        exact ⟨fun z e => eqz_rt (c0 z (e)) hle, fun z e => eqz_rt (cf z (e)) hle⟩
      · have hf := if_f q hf
        obtain ⟨a4, e5, hf⟩ := gs_some hf
        obtain ⟨⟨hk7, hb6⟩, hf⟩ := gd_some hf
        obtain ⟨h8, rfl, hf⟩ := lt_some hf
        obtain ⟨h9, rfl, hf⟩ := lt_some hf
        obtain ⟨c0, cf⟩ := mX7_addBytes_b49 hf
        exact ⟨fun z e => eqz_rt (c0 z (e)) hle, fun z e => eqz_rt (cf z (e)) hle⟩
set_option maxRecDepth 100000 in
theorem wX7_addBytes_c3 {E : PE} {p : Program} {l : Launch} {e : Env} {s : State} {m : MethodId} {args : Array Value} {below : List Frame} {meth : Method} {c : Code} (X : Cx E p l e (rmv 0 0 0) s m args below meth c RX7 cX7_addBytes 4 (none)) (hG : Gs E l) (hnm : meth.name = yX7_addBytes.name) {v0 : Nat} {v1 : Int32} {v2 : Int32} {h : PH} {r : PH} {x : ((Int32 × PH) ⊕ PH)} (hf : fX7_addBytes_c3 v0 v1 v2 h = some x) (k0 : ∀ z : (Int32 × PH), x = .inl z → PW E p l e (rmv 0 0 0) s m args below meth c 4 0 0 (MQ below (QG E (fun v u => v = none ∧ u = r)) args s 0 0 (pA E)) (z.2) 3 [(0, some (.ref v0)), (1, some (.int v1)), (2, some (.int (z.1)))] []) (kf : ∀ z : PH, x = .inr z → z = r) : PW E p l e (rmv 0 0 0) s m args below meth c 4 0 0 (MQ below (QG E (fun v u => v = none ∧ u = r)) args s 0 0 (pA E)) h 3 [(0, some (.ref v0)), (1, some (.int v1)), (2, some (.int v2))] [] := by
  unfold fX7_addBytes_c3 at hf
  refine p_iload_n X (dcg dc_X7_addBytes 2 rfl) rfl rfl ?_
  refine p_if_lt (tgt := 55) X (dcg dc_X7_addBytes 3 rfl) (by decide) (fun q => ?_) (fun q => ?_)
  · have hf := if_t q hf
    obtain ⟨y1, hf, hy2⟩ := mr_some hf
    have hy2f := kf y1 hy2
    subst hy2f
    have er := Option.some.inj hf
    subst er
    exact p_vret X rfl (dcg dc_X7_addBytes 30 rfl) ⟨rfl, rfl⟩ (Nat.le_refl _) (Nat.le_refl _)
  · have hf := if_f q hf
    refine p_iload_n X (dcg dc_X7_addBytes 4 rfl) rfl rfl ?_
    refine p_iload_n X (dcg dc_X7_addBytes 5 rfl) rfl rfl ?_
    refine p_iushr X (dcg dc_X7_addBytes 6 rfl) ?_
    refine p_sipush (v := 255) X (dcg dc_X7_addBytes 7 rfl) (by decide) ?_
    refine p_iand X (dcg dc_X7_addBytes 8 rfl) ?_
    refine p_istore_n X (dcg dc_X7_addBytes 9 rfl) rfl (by decide) rfl ?_
    refine p_iload_n X (dcg dc_X7_addBytes 10 rfl) rfl rfl ?_
    refine p_if_eq (tgt := 49) X (dcg dc_X7_addBytes 11 rfl) (by decide) (fun q => ?_) (fun q => ?_)
    · have hf := if_t q hf
      refine p_pick [0, 1, 2] ?_
      exact wX7_addBytes_b49 X hG hnm hf k0 kf
    · have hf := if_f q hf
      refine p_aload_n X (dcg dc_X7_addBytes 12 rfl) rfl rfl ?_
      obtain ⟨hk3, hf⟩ := gd_some hf
      refine p_getI X fl_X7_19 rfl (by decide) (dcg dc_X7_addBytes 13 rfl) hk3 ?_
      refine p_sipush (v := 300) X (dcg dc_X7_addBytes 14 rfl) (by decide) ?_
      refine p_icmp_ge (tgt := 49) X (dcg dc_X7_addBytes 15 rfl) (by decide) (fun q => ?_) (fun q => ?_)
      · have hf := if_t q hf
        refine p_pick [0, 1, 2] ?_
        exact wX7_addBytes_b49 X hG hnm hf k0 kf
      · have hf := if_f q hf
        refine p_aload_n X (dcg dc_X7_addBytes 16 rfl) rfl rfl ?_
        refine p_getR X fl_X7_11 rfl (by decide) (dcg dc_X7_addBytes 17 rfl) hk3 ?_
        refine p_aload_n X (dcg dc_X7_addBytes 18 rfl) rfl rfl ?_
        refine p_getI X fl_X7_19 rfl (by decide) (dcg dc_X7_addBytes 19 rfl) hk3 ?_
        refine p_iload_n X (dcg dc_X7_addBytes 20 rfl) rfl rfl ?_
        obtain ⟨a4, e5, hf⟩ := gs_some hf
        first | subst e5 | (try rw [e5])
        obtain ⟨⟨hk7, hb6⟩, hf⟩ := gd_some hf
        refine p_iast X (dcg dc_X7_addBytes 21 rfl) hk7 (vp_of_inb hb6) ?_
        obtain ⟨h8, rfl, hf⟩ := lt_some hf
        refine p_aload_n X (dcg dc_X7_addBytes 22 rfl) rfl rfl ?_
        refine p_dup X (dcg dc_X7_addBytes 23 rfl) rfl ?_
        refine p_getI X fl_X7_19 rfl (by decide) (dcg dc_X7_addBytes 24 rfl) hk3 ?_
        refine p_iconst (v := 1) X (dcg dc_X7_addBytes 25 rfl) (by decide) ?_
        refine p_iadd X (dcg dc_X7_addBytes 26 rfl) ?_
        refine p_putI X fl_X7_19 rfl (by decide) (fun q hq => by cases hq; rfl) rfl rfl (dcg dc_X7_addBytes 27 rfl) hk3 ?_
        obtain ⟨h9, rfl, hf⟩ := lt_some hf
        refine p_pick [0, 1, 2] ?_
        exact wX7_addBytes_b49 X hG hnm hf k0 kf
noncomputable def fX7_addBytes_l3 (v0 : Nat) (v1 : Int32) (v2 : Int32) (h : PH) : Option PH := wh (fun z : (Int32 × PH) => fX7_addBytes_c3 v0 v1 (z.1) (z.2)) (v2, h)
set_option maxRecDepth 100000 in
theorem mX7_addBytes_l3 {v0 : Nat} {v1 : Int32} {v2 : Int32} {h : PH} {r : PH} (hf : fX7_addBytes_l3 v0 v1 v2 h = some r) : eqz h (hX r) (hV r) := by
  unfold fX7_addBytes_l3 at hf
  refine wh_ind (P := fun z => eqz (z.2) (hX r) (hV r)) (fun z x0 hs i1 i2 => ?_) _ hf
  obtain ⟨c0, cf⟩ := mX7_addBytes_c3 (v0 := v0) (v1 := v1) (v2 := z.1) (h := z.2) hs
  rcases hxx : x0 with zz | zz
  · exact eqz_tr (c0 zz hxx) (i1 zz hxx)
  · have ee := i2 zz hxx; subst ee; exact cf zz hxx
set_option maxRecDepth 100000 in
theorem wX7_addBytes_l3 {E : PE} {p : Program} {l : Launch} {e : Env} {s : State} {m : MethodId} {args : Array Value} {below : List Frame} {meth : Method} {c : Code} (X : Cx E p l e (rmv 0 0 0) s m args below meth c RX7 cX7_addBytes 4 (none)) (hG : Gs E l) (hnm : meth.name = yX7_addBytes.name) {v0 : Nat} {v1 : Int32} {v2 : Int32} {h : PH} {r : PH} (hf : fX7_addBytes_l3 v0 v1 v2 h = some r)  : PW E p l e (rmv 0 0 0) s m args below meth c 4 0 0 (MQ below (QG E (fun v u => v = none ∧ u = r)) args s 0 0 (pA E)) h 3 [(0, some (.ref v0)), (1, some (.int v1)), (2, some (.int v2))] [] := by
  unfold fX7_addBytes_l3 at hf
  refine wh_ind (P := fun z => PW E p l e (rmv 0 0 0) s m args below meth c 4 0 0 (MQ below (QG E (fun v u => v = none ∧ u = r)) args s 0 0 (pA E)) (z.2) 3 [(0, some (.ref v0)), (1, some (.int v1)), (2, some (.int (z.1)))] []) (fun z x0 hs i1 i2 => ?_) _ hf
  exact wX7_addBytes_c3 (r := r) (v0 := v0) (v1 := v1) (v2 := z.1) (h := z.2) X hG hnm hs i1  i2
noncomputable def fX7_addBytes (v0 : Nat) (v1 : Int32) (h : PH) : Option PH :=
  fX7_addBytes_l3 v0 v1 (24 : Int32) h
set_option maxRecDepth 100000 in
theorem mX7_addBytes {v0 : Nat} {v1 : Int32} {h : PH} {r : PH} (hf : fX7_addBytes v0 v1 h = some r) : eqz h (hX r) (hV r) := by
  unfold fX7_addBytes at hf
  have hle := eqz_rf h
  exact eqz_rt (mX7_addBytes_l3 hf) hle
set_option maxRecDepth 100000 in
theorem wX7_addBytes {E : PE} {l : Launch} (hG : Gs E l) {v0 : Nat} {v1 : Int32} {h : PH} {r : PH} (hf : fX7_addBytes v0 v1 h = some r) : Ct E l 0 0 0 yX7_addBytes cX7_addBytes 4 (none) [.ref v0, .int v1] h (fun v u => v = none ∧ u = r) := by
  refine ct_of hG (by decide) (Nat.le_of_ble_eq_true rfl) ?_
  intro p e s m args below meth c X hnm
  show PW E p l e _ s m args below meth c _ 0 0 _ h 0 [(0, some (.ref v0)), (1, some (.int v1))] []
  unfold fX7_addBytes at hf
  refine p_bipush (v := 24) X (dcg dc_X7_addBytes 0 rfl) (by decide) ?_
  refine p_istore_n X (dcg dc_X7_addBytes 1 rfl) rfl (by decide) rfl ?_
  refine p_pick [0, 1, 2] ?_
  exact wX7_addBytes_l3 X hG hnm hf 
