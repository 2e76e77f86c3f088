/-! methods of the program (by program: wip/whole/gen2.py) -/
theorem dc_X9_has : decs cX9_has [(0, .iload_n 1, 1), (1, .ifCond .lt 9, 3), (4, .iload_n 1, 1), (5, .bipush 100, 2), (7, .if_icmp .lt 5, 3), (10, .iconst 0, 1), (11, .ireturn, 1), (12, .iload_n 1, 1), (13, .bipush 64, 2), (15, .if_icmp .ge 10, 3), (18, .aload_n 0, 1), (19, .getfield 11, 3), (22, .goto 7, 3), (25, .aload_n 0, 1), (26, .getfield 15, 3), (29, .lstore_n 2, 1), (30, .lload_n 2, 1), (31, .iload_n 1, 1), (32, .bipush 64, 2), (34, .irem, 1), (35, .lushr, 1), (36, .lconst 1, 1), (37, .land, 1), (38, .lconst 0, 1), (39, .lcmp, 1), (40, .ifCond .eq 7, 3), (43, .iconst 1, 1), (44, .goto 4, 3), (47, .iconst 0, 1), (48, .ireturn, 1)] = true := by decide +kernel
noncomputable def fX9_has_b10  (h : PH) : Option Int32 :=
  some ((0 : Int32))
set_option maxRecDepth 100000 in
theorem wX9_has_b10 {E : PE} {p : Program} {l : Launch} {e : Env} {s : State} {m : MethodId} {args : Array Value} {below : List Frame} {meth : Method} {c : Code} (X : Cx E p l e (rmv 0 0 0) s m args below meth c RX9 cX9_has 4 (some .boolean)) (hG : Gs E l) (hnm : meth.name = yX9_has.name)  {h : PH} {r : Int32} (hf : fX9_has_b10  h = some r)  : PW E p l e (rmv 0 0 0) s m args below meth c 4 0 0 (MQ below (QG E (fun v u => v = some (.int r) ∧ u = h)) args s 0 0 (pA E)) h 10 [] [] := by
  unfold fX9_has_b10 at hf
  refine p_iconst (v := 0) X (dcg dc_X9_has 5 rfl) (by decide) ?_
  have er := Option.some.inj hf
  subst er
  exact p_zret X rfl rfl (dcg dc_X9_has 6 rfl) ⟨rfl, rfl⟩ (Nat.le_refl _) (Nat.le_refl _)
noncomputable def fX9_has_b48 (t0 : Int32) (h : PH) : Option Int32 :=
  gd (t0 &&& 1 = t0) (some (t0))
set_option maxRecDepth 100000 in
theorem wX9_has_b48 {E : PE} {p : Program} {l : Launch} {e : Env} {s : State} {m : MethodId} {args : Array Value} {below : List Frame} {meth : Method} {c : Code} (X : Cx E p l e (rmv 0 0 0) s m args below meth c RX9 cX9_has 4 (some .boolean)) (hG : Gs E l) (hnm : meth.name = yX9_has.name) {t0 : Int32} {h : PH} {r : Int32} (hf : fX9_has_b48 t0 h = some r)  : PW E p l e (rmv 0 0 0) s m args below meth c 4 0 0 (MQ below (QG E (fun v u => v = some (.int r) ∧ u = h)) args s 0 0 (pA E)) h 48 [] [.int t0] := by
  unfold fX9_has_b48 at hf
  obtain ⟨hg2, hf⟩ := gd_some hf
  have er := Option.some.inj hf
  subst er
  exact p_zret X rfl (congrArg Value.int hg2) (dcg dc_X9_has 29 rfl) ⟨rfl, rfl⟩ (Nat.le_refl _) (Nat.le_refl _)
noncomputable def fX9_has_b29 (v1 : Int32) (t0 : Int64) (h : PH) : Option Int32 :=
  if ((lg_cmp ((Int64.toUInt64 t0 >>> ((Int32.toInt64 (v1 - v1 / (64 : Int32) * (64 : Int32))).toUInt64 &&& Int64.toUInt64 63)).toInt64 &&& (1 : Int64)) (0 : Int64)) = 0) then (fX9_has_b48 (0 : Int32) h) else
  fX9_has_b48 (1 : Int32) h
set_option maxRecDepth 100000 in
theorem wX9_has_b29 {E : PE} {p : Program} {l : Launch} {e : Env} {s : State} {m : MethodId} {args : Array Value} {below : List Frame} {meth : Method} {c : Code} (X : Cx E p l e (rmv 0 0 0) s m args below meth c RX9 cX9_has 4 (some .boolean)) (hG : Gs E l) (hnm : meth.name = yX9_has.name) {v1 : Int32} {t0 : Int64} {h : PH} {r : Int32} (hf : fX9_has_b29 v1 t0 h = some r)  : PW E p l e (rmv 0 0 0) s m args below meth c 4 0 0 (MQ below (QG E (fun v u => v = some (.int r) ∧ u = h)) args s 0 0 (pA E)) h 29 [(1, some (.int v1))] [.long t0] := by
  unfold fX9_has_b29 at hf
  refine p_lstore_n X (dcg dc_X9_has 15 rfl) rfl (by decide) rfl ?_
  refine p_lload_n X (dcg dc_X9_has 16 rfl) rfl rfl ?_
  refine p_iload_n X (dcg dc_X9_has 17 rfl) rfl rfl ?_
  refine p_bipush (v := 64) X (dcg dc_X9_has 18 rfl) (by decide) ?_
  refine p_irem X (dcg dc_X9_has 19 rfl) (by decide) ?_
  refine p_lushr X (dcg dc_X9_has 20 rfl) ?_
  refine p_lconst (v := 1) X (dcg dc_X9_has 21 rfl) (by decide) ?_
  refine p_land X (dcg dc_X9_has 22 rfl) ?_
  refine p_lconst (v := 0) X (dcg dc_X9_has 23 rfl) (by decide) ?_
  refine p_lcmp X (dcg dc_X9_has 24 rfl) ?_
  refine p_if_eq (tgt := 47) X (dcg dc_X9_has 25 rfl) (by decide) (fun q => ?_) (fun q => ?_)
  · have hf := if_t q hf
    refine p_iconst (v := 0) X (dcg dc_X9_has 28 rfl) (by decide) ?_
    refine p_pick [] ?_
    exact wX9_has_b48 X hG hnm hf 
  · have hf := if_f q hf
    refine p_iconst (v := 1) X (dcg dc_X9_has 26 rfl) (by decide) ?_
    refine p_goto (tgt := 48) X (dcg dc_X9_has 27 rfl) (by decide) ?_
    refine p_pick [] ?_
    exact wX9_has_b48 X hG hnm hf 
noncomputable def fX9_has (v0 : Nat) (v1 : Int32) (h : PH) : Option Int32 :=
  if (v1 < 0) then (fX9_has_b10  h) else
  if (v1 < (100 : Int32)) then (if ((64 : Int32) ≤ v1) then (gd (hK h v0 = 9) (fX9_has_b29 v1 (hL h 9 v0 1) h)) else
  gd (hK h v0 = 9) (fX9_has_b29 v1 (hL h 9 v0 0) h)) else
  fX9_has_b10  h
set_option maxRecDepth 100000 in
theorem wX9_has {E : PE} {l : Launch} (hG : Gs E l) {v0 : Nat} {v1 : Int32} {h : PH} {r : Int32} (hf : fX9_has v0 v1 h = some r) : Ct E l 0 0 0 yX9_has cX9_has 4 (some .boolean) [.ref v0, .int v1] h (fun v u => v = some (.int r) ∧ u = h) := by
  refine ct_of hG (by decide) (Nat.le_of_ble_eq_true rfl) ?_
  intro p e s m args below meth c X hnm
  show PW E p l e _ s m args below meth c _ 0 0 _ h 0 [(0, some (.ref v0)), (1, some (.int v1))] []
  unfold fX9_has at hf
  refine p_iload_n X (dcg dc_X9_has 0 rfl) rfl rfl ?_
  refine p_if_lt (tgt := 10) X (dcg dc_X9_has 1 rfl) (by decide) (fun q => ?_) (fun q => ?_)
  · have hf := if_t q hf
    refine p_pick [] ?_
    exact wX9_has_b10 X hG hnm hf 
  · have hf := if_f q hf
    refine p_iload_n X (dcg dc_X9_has 2 rfl) rfl rfl ?_
    refine p_bipush (v := 100) X (dcg dc_X9_has 3 rfl) (by decide) ?_
    refine p_icmp_lt (tgt := 12) X (dcg dc_X9_has 4 rfl) (by decide) (fun q => ?_) (fun q => ?_)
    · have hf := if_t q hf
      refine p_iload_n X (dcg dc_X9_has 7 rfl) rfl rfl ?_
      refine p_bipush (v := 64) X (dcg dc_X9_has 8 rfl) (by decide) ?_
      refine p_icmp_ge (tgt := 25) X (dcg dc_X9_has 9 rfl) (by decide) (fun q => ?_) (fun q => ?_)
      · have hf := if_t q hf
        refine p_aload_n X (dcg dc_X9_has 13 rfl) rfl rfl ?_
        obtain ⟨hk1, hf⟩ := gd_some hf
        refine p_getL X fl_X9_15 rfl (by decide) (dcg dc_X9_has 14 rfl) hk1 ?_
        refine p_pick [1] ?_
        exact wX9_has_b29 X hG hnm hf 
      · have hf := if_f q hf
        refine p_aload_n X (dcg dc_X9_has 10 rfl) rfl rfl ?_
        obtain ⟨hk3, hf⟩ := gd_some hf
        refine p_getL X fl_X9_11 rfl (by decide) (dcg dc_X9_has 11 rfl) hk3 ?_
        refine p_goto (tgt := 29) X (dcg dc_X9_has 12 rfl) (by decide) ?_
        refine p_pick [1] ?_
        exact wX9_has_b29 X hG hnm hf 
    · have hf := if_f q hf
      refine p_pick [] ?_
      exact wX9_has_b10 X hG hnm hf 
theorem dc_X3_tellsTooMuch : decs cX3_tellsTooMuch [(0, .iconst 0, 1), (1, .istore_n 2, 1), (2, .iload_n 2, 1), (3, .aload_n 1, 1), (4, .arraylength, 1), (5, .if_icmp .ge 41, 3), (8, .aload_n 0, 1), (9, .getfield 69, 3), (12, .iload_n 2, 1), (13, .invokevirtual 113, 3), (16, .ifCond .eq 24, 3), (19, .aload_n 1, 1), (20, .iload_n 2, 1), (21, .aaload, 1), (22, .ifnull 16, 3), (25, .aload_n 1, 1), (26, .iload_n 2, 1), (27, .aaload, 1), (28, .aload_n 0, 1), (29, .getfield 32, 3), (32, .invokevirtual 56, 3), (35, .ifCond .ne 5, 3), (38, .iconst 1, 1), (39, .ireturn, 1), (40, .iinc 2 1, 3), (43, .goto (-41), 3), (46, .aload_n 0, 1), (47, .getfield 69, 3), (50, .invokevirtual 82, 3), (53, .ifCond .ne 7, 3), (56, .iconst 1, 1), (57, .goto 4, 3), (60, .iconst 0, 1), (61, .ireturn, 1)] = true := by decide +kernel
noncomputable def fX3_tellsTooMuch_b61 (t0 : Int32) (h : PH) : Option Int32 :=
  gd (t0 &&& 1 = t0) (some (t0))
set_option maxRecDepth 100000 in
theorem wX3_tellsTooMuch_b61 {E : PE} {p : Program} {l : Launch} {e : Env} {s : State} {m : MethodId} {args : Array Value} {below : List Frame} {meth : Method} {c : Code} (X : Cx E p l e (rmv 2 0 0) s m args below meth c RX3 cX3_tellsTooMuch 3 (some .boolean)) (hG : Gs E l) (hnm : meth.name = yX3_tellsTooMuch.name) {t0 : Int32} {h : PH} {r : Int32} (hf : fX3_tellsTooMuch_b61 t0 h = some r)  : PW E p l e (rmv 2 0 0) s m args below meth c 3 0 0 (MQ below (QG E (fun v u => v = some (.int r) ∧ u = h)) args s 0 0 (pA E)) h 61 [] [.int t0] := by
  unfold fX3_tellsTooMuch_b61 at hf
  obtain ⟨hg13, hf⟩ := gd_some hf
  have er := Option.some.inj hf
  subst er
  exact p_zret X rfl (congrArg Value.int hg13) (dcg dc_X3_tellsTooMuch 33 rfl) ⟨rfl, rfl⟩ (Nat.le_refl _) (Nat.le_refl _)
noncomputable def fX3_tellsTooMuch_b40 (v0 : Option Nat) (v1 : Option Nat) (v2 : Int32) (h : PH) : Option ((Int32) ⊕ Int32) :=
  some (.inl ((v2 + 1)))
set_option maxRecDepth 100000 in
theorem wX3_tellsTooMuch_b40 {E : PE} {p : Program} {l : Launch} {e : Env} {s : State} {m : MethodId} {args : Array Value} {below : List Frame} {meth : Method} {c : Code} (X : Cx E p l e (rmv 2 0 0) s m args below meth c RX3 cX3_tellsTooMuch 3 (some .boolean)) (hG : Gs E l) (hnm : meth.name = yX3_tellsTooMuch.name) {v0 : Option Nat} {v1 : Option Nat} {v2 : Int32} {h : PH} {r : Int32} {x : ((Int32) ⊕ Int32)} (hf : fX3_tellsTooMuch_b40 v0 v1 v2 h = some x) (k0 : ∀ z : (Int32), x = .inl z → PW E p l e (rmv 2 0 0) s m args below meth c 3 0 0 (MQ below (QG E (fun v u => v = some (.int r) ∧ u = h)) args s 0 0 (pA E)) h 2 [(0, some (va_rf v0)), (1, some (va_rf v1)), (2, some (.int (z)))] []) (kf : ∀ z : Int32, x = .inr z → z = r) : PW E p l e (rmv 2 0 0) s m args below meth c 3 0 0 (MQ below (QG E (fun v u => v = some (.int r) ∧ u = h)) args s 0 0 (pA E)) h 40 [(0, some (va_rf v0)), (1, some (va_rf v1)), (2, some (.int v2))] [] := by
  unfold fX3_tellsTooMuch_b40 at hf
  refine p_iinc (v := 1) X (dcg dc_X3_tellsTooMuch 24 rfl) rfl (by decide) (by decide) (nwq (k := 1) rfl) ?_
  refine p_goto (tgt := 2) X (dcg dc_X3_tellsTooMuch 25 rfl) (by decide) ?_
  refine p_pick [0, 1, 2] ?_
  exact k0 _ (Option.some.inj hf).symm
noncomputable def fX3_tellsTooMuch_b38  (h : PH) : Option Int32 :=
  some ((1 : Int32))
set_option maxRecDepth 100000 in
theorem wX3_tellsTooMuch_b38 {E : PE} {p : Program} {l : Launch} {e : Env} {s : State} {m : MethodId} {args : Array Value} {below : List Frame} {meth : Method} {c : Code} (X : Cx E p l e (rmv 2 0 0) s m args below meth c RX3 cX3_tellsTooMuch 3 (some .boolean)) (hG : Gs E l) (hnm : meth.name = yX3_tellsTooMuch.name)  {h : PH} {r : Int32} (hf : fX3_tellsTooMuch_b38  h = some r)  : PW E p l e (rmv 2 0 0) s m args below meth c 3 0 0 (MQ below (QG E (fun v u => v = some (.int r) ∧ u = h)) args s 0 0 (pA E)) h 38 [] [] := by
  unfold fX3_tellsTooMuch_b38 at hf
  refine p_iconst (v := 1) X (dcg dc_X3_tellsTooMuch 22 rfl) (by decide) ?_
  have er := Option.some.inj hf
  subst er
  exact p_zret X rfl rfl (dcg dc_X3_tellsTooMuch 23 rfl) ⟨rfl, rfl⟩ (Nat.le_refl _) (Nat.le_refl _)
noncomputable def fX3_tellsTooMuch_c2 (v0 : Option Nat) (v1 : Option Nat) (v2 : Int32) (h : PH) : Option ((Int32) ⊕ Int32) :=
  gs v1 (fun a1 =>
  gd (hK h a1 = 26) (if ((nI (hN h a1)) ≤ v2) then (mr (gs v0 (fun a6 =>
  gd (hK h a6 = 10) (gs (hR h 10 a6 2) (fun a9 =>
  gd (hK h a9 = 9) (bd (fX9_size a9 h) (fun z12 =>
  if (¬ z12 = 0) then (fX3_tellsTooMuch_b61 (0 : Int32) h) else
  fX3_tellsTooMuch_b61 (1 : Int32) h))))))) else
  gs v0 (fun a14 =>
  gd (hK h a14 = 10) (gs (hR h 10 a14 2) (fun a17 =>
  gd (hK h a17 = 9) (bd (fX9_has a17 v2 h) (fun z20 =>
  if (z20 = 0) then (fX3_tellsTooMuch_b40 (some a14) (some a1) v2 h) else
  gd (inb v2 (hN h a1)) (mq (hR h 26 a1 (Int32.toNatClampNeg v2)) (mr (fX3_tellsTooMuch_b38  h)) (fun a22 =>
  gd (inb v2 (hN h a1)) (gs (hR h 26 a1 (Int32.toNatClampNeg v2)) (fun a26 =>
  gd (hK h a26 = 8) (bd (fX8_has a26 (hI h 10 a14 0) h) (fun z29 =>
  if (¬ z29 = 0) then (fX3_tellsTooMuch_b40 (some a14) (some a1) v2 h) else
  mr (fX3_tellsTooMuch_b38  h))))))))))))))
set_option maxRecDepth 100000 in
theorem wX3_tellsTooMuch_c2 {E : PE} {p : Program} {l : Launch} {e : Env} {s : State} {m : MethodId} {args : Array Value} {below : List Frame} {meth : Method} {c : Code} (X : Cx E p l e (rmv 2 0 0) s m args below meth c RX3 cX3_tellsTooMuch 3 (some .boolean)) (hG : Gs E l) (hnm : meth.name = yX3_tellsTooMuch.name) {v0 : Option Nat} {v1 : Option Nat} {v2 : Int32} {h : PH} {r : Int32} {x : ((Int32) ⊕ Int32)} (hf : fX3_tellsTooMuch_c2 v0 v1 v2 h = some x) (k0 : ∀ z : (Int32), x = .inl z → PW E p l e (rmv 2 0 0) s m args below meth c 3 0 0 (MQ below (QG E (fun v u => v = some (.int r) ∧ u = h)) args s 0 0 (pA E)) h 2 [(0, some (va_rf v0)), (1, some (va_rf v1)), (2, some (.int (z)))] []) (kf : ∀ z : Int32, x = .inr z → z = r) : PW E p l e (rmv 2 0 0) s m args below meth c 3 0 0 (MQ below (QG E (fun v u => v = some (.int r) ∧ u = h)) args s 0 0 (pA E)) h 2 [(0, some (va_rf v0)), (1, some (va_rf v1)), (2, some (.int v2))] [] := by
  unfold fX3_tellsTooMuch_c2 at hf
  refine p_iload_n X (dcg dc_X3_tellsTooMuch 2 rfl) rfl rfl ?_
  refine p_aloadq_n X (dcg dc_X3_tellsTooMuch 3 rfl) rfl rfl ?_
  obtain ⟨a1, e2, hf⟩ := gs_some hf
  first | subst e2 | (try rw [e2])
  obtain ⟨hk3, hf⟩ := gd_some hf
  refine p_alen26 X (dcg dc_X3_tellsTooMuch 4 rfl) hk3 ?_
  refine p_icmp_ge (tgt := 46) X (dcg dc_X3_tellsTooMuch 5 rfl) (by decide) (fun q => ?_) (fun q => ?_)
  · have hf := if_t q hf
    obtain ⟨y4, hf, hy5⟩ := mr_some hf
    have hy5f := kf y4 hy5
    subst hy5f
    refine p_aloadq_n X (dcg dc_X3_tellsTooMuch 26 rfl) rfl rfl ?_
    obtain ⟨a6, e7, hf⟩ := gs_some hf
    first | subst e7 | (try rw [e7])
    obtain ⟨hk8, hf⟩ := gd_some hf
    refine p_getRn X fl_X3_69 rfl (by decide) (dcg dc_X3_tellsTooMuch 27 rfl) hk8 ?_
    obtain ⟨a9, e10, hf⟩ := gs_some hf
    first | subst e10 | (try rw [e10])
    obtain ⟨hk11, hf⟩ := gd_some hf
    obtain ⟨z12, hz12, hf⟩ := bd_some hf
    refine p_callV (As := []) X ml_X3_82 (dcg dc_X3_tellsTooMuch 28 rfl) rfl rfl hk11 (wX9_size hG hz12) (by decide) (room4 (Nat.le_of_ble_eq_true rfl)) (Nat.le_refl _) (Nat.le_refl _) ?_
    rintro _ u9 ⟨rfl, e9⟩; have e9 := e9.symm; subst e9
    refine p_if_ne (tgt := 60) X (dcg dc_X3_tellsTooMuch 29 rfl) (by decide) (fun q => ?_) (fun q => ?_)
    · have hf := if_t q hf
      refine p_iconst (v := 0) X (dcg dc_X3_tellsTooMuch 32 rfl) (by decide) ?_
      refine p_pick [] ?_
      exact wX3_tellsTooMuch_b61 X hG hnm hf 
    · have hf := if_f q hf
      refine p_iconst (v := 1) X (dcg dc_X3_tellsTooMuch 30 rfl) (by decide) ?_
      refine p_goto (tgt := 61) X (dcg dc_X3_tellsTooMuch 31 rfl) (by decide) ?_
      refine p_pick [] ?_
      exact wX3_tellsTooMuch_b61 X hG hnm hf 
  · have hf := if_f q hf
    refine p_aloadq_n X (dcg dc_X3_tellsTooMuch 6 rfl) rfl rfl ?_
    obtain ⟨a14, e15, hf⟩ := gs_some hf
    first | subst e15 | (try rw [e15])
    obtain ⟨hk16, hf⟩ := gd_some hf
    refine p_getRn X fl_X3_69 rfl (by decide) (dcg dc_X3_tellsTooMuch 7 rfl) hk16 ?_
    refine p_iload_n X (dcg dc_X3_tellsTooMuch 8 rfl) rfl rfl ?_
    obtain ⟨a17, e18, hf⟩ := gs_some hf
    first | subst e18 | (try rw [e18])
    obtain ⟨hk19, hf⟩ := gd_some hf
    obtain ⟨z20, hz20, hf⟩ := bd_some hf
    refine p_callV (As := [_]) X ml_X3_113 (dcg dc_X3_tellsTooMuch 9 rfl) rfl rfl hk19 (wX9_has hG hz20) (by decide) (room4 (Nat.le_of_ble_eq_true rfl)) (Nat.le_refl _) (Nat.le_refl _) ?_
    rintro _ u9 ⟨rfl, e9⟩; have e9 := e9.symm; subst e9
    refine p_if_eq (tgt := 40) X (dcg dc_X3_tellsTooMuch 10 rfl) (by decide) (fun q => ?_) (fun q => ?_)
    · have hf := if_t q hf
      refine p_pick [0, 1, 2] ?_
      exact wX3_tellsTooMuch_b40 X hG hnm hf k0 kf
    · have hf := if_f q hf
      refine p_aload_n X (dcg dc_X3_tellsTooMuch 11 rfl) rfl rfl ?_
      refine p_iload_n X (dcg dc_X3_tellsTooMuch 12 rfl) rfl rfl ?_
      obtain ⟨hb21, hf⟩ := gd_some hf
      refine p_aald26 X (dcg dc_X3_tellsTooMuch 13 rfl) hk3 (vp_of_inb hb21) ?_
      refine p_ifnull (tgt := 38) X (dcg dc_X3_tellsTooMuch 14 rfl) (by decide) (fun q => ?_) (fun a22 q => ?_)
      · have hf := mq_n q hf
        first | subst q | (try rw [q])
        obtain ⟨y23, hf, hy24⟩ := mr_some hf
        have hy24f := kf y23 hy24
        subst hy24f
        refine p_pick [] ?_
        exact wX3_tellsTooMuch_b38 X hG hnm hf 
      · have hf := mq_s q hf
        first | subst q | (try rw [q])
        refine p_aload_n X (dcg dc_X3_tellsTooMuch 15 rfl) rfl rfl ?_
        refine p_iload_n X (dcg dc_X3_tellsTooMuch 16 rfl) rfl rfl ?_
        obtain ⟨hb25, hf⟩ := gd_some hf
        refine p_aald26 X (dcg dc_X3_tellsTooMuch 17 rfl) hk3 (vp_of_inb hb25) ?_
        refine p_aload_n X (dcg dc_X3_tellsTooMuch 18 rfl) rfl rfl ?_
        refine p_getIn X fl_X3_32 rfl (by decide) (dcg dc_X3_tellsTooMuch 19 rfl) hk16 ?_
        obtain ⟨a26, e27, hf⟩ := gs_some hf
        first | subst e27 | (try rw [e27])
        obtain ⟨hk28, hf⟩ := gd_some hf
        obtain ⟨z29, hz29, hf⟩ := bd_some hf
        refine p_callV (As := [_]) X ml_X3_56 (dcg dc_X3_tellsTooMuch 20 rfl) rfl rfl hk28 (wX8_has hG hz29) (by decide) (room4 (Nat.le_of_ble_eq_true rfl)) (Nat.le_refl _) (Nat.le_refl _) ?_
        rintro _ u9 ⟨rfl, e9⟩; have e9 := e9.symm; subst e9
        refine p_if_ne (tgt := 40) X (dcg dc_X3_tellsTooMuch 21 rfl) (by decide) (fun q => ?_) (fun q => ?_)
        · have hf := if_t q hf
          refine p_pick [0, 1, 2] ?_
          exact wX3_tellsTooMuch_b40 X hG hnm hf k0 kf
        · have hf := if_f q hf
          obtain ⟨y30, hf, hy31⟩ := mr_some hf
          have hy31f := kf y30 hy31
          subst hy31f
          refine p_pick [] ?_
          exact wX3_tellsTooMuch_b38 X hG hnm hf 
noncomputable def fX3_tellsTooMuch_l2 (v0 : Option Nat) (v1 : Option Nat) (v2 : Int32) (h : PH) : Option Int32 := wh (fun z : (Int32) => fX3_tellsTooMuch_c2 v0 v1 (z) h) (v2)
set_option maxRecDepth 100000 in
theorem wX3_tellsTooMuch_l2 {E : PE} {p : Program} {l : Launch} {e : Env} {s : State} {m : MethodId} {args : Array Value} {below : List Frame} {meth : Method} {c : Code} (X : Cx E p l e (rmv 2 0 0) s m args below meth c RX3 cX3_tellsTooMuch 3 (some .boolean)) (hG : Gs E l) (hnm : meth.name = yX3_tellsTooMuch.name) {v0 : Option Nat} {v1 : Option Nat} {v2 : Int32} {h : PH} {r : Int32} (hf : fX3_tellsTooMuch_l2 v0 v1 v2 h = some r)  : PW E p l e (rmv 2 0 0) s m args below meth c 3 0 0 (MQ below (QG E (fun v u => v = some (.int r) ∧ u = h)) args s 0 0 (pA E)) h 2 [(0, some (va_rf v0)), (1, some (va_rf v1)), (2, some (.int v2))] [] := by
  unfold fX3_tellsTooMuch_l2 at hf
  refine wh_ind (P := fun z => PW E p l e (rmv 2 0 0) s m args below meth c 3 0 0 (MQ below (QG E (fun v u => v = some (.int r) ∧ u = h)) args s 0 0 (pA E)) h 2 [(0, some (va_rf v0)), (1, some (va_rf v1)), (2, some (.int (z)))] []) (fun z x0 hs i1 i2 => ?_) _ hf
  exact wX3_tellsTooMuch_c2 (r := r) (v0 := v0) (v1 := v1) (v2 := z) (h := h) X hG hnm hs i1  i2
noncomputable def fX3_tellsTooMuch (v0 : Option Nat) (v1 : Option Nat) (h : PH) : Option Int32 :=
  fX3_tellsTooMuch_l2 v0 v1 (0 : Int32) h
set_option maxRecDepth 100000 in
theorem wX3_tellsTooMuch {E : PE} {l : Launch} (hG : Gs E l) {v0 : Option Nat} {v1 : Option Nat} {h : PH} {r : Int32} (hf : fX3_tellsTooMuch v0 v1 h = some r) : Ct E l 2 0 0 yX3_tellsTooMuch cX3_tellsTooMuch 3 (some .boolean) [va_rf v0, va_rf v1] h (fun v u => v = some (.int r) ∧ u = h) := by
  refine ct_of hG (by decide) (by simp [lg_sl, cat_rf, cat_r, cat_i, cat_l, cat_d, cat_f]) ?_
  intro p e s m args below meth c X hnm
  rw [show pargs 0 [va_rf v0, va_rf v1] = [(0, some (va_rf v0)), (1, some (va_rf v1))] from by simp [pargs, cat_rf, cat_r, cat_i, cat_l, cat_d, cat_f]]
  unfold fX3_tellsTooMuch at hf
  refine p_iconst (v := 0) X (dcg dc_X3_tellsTooMuch 0 rfl) (by decide) ?_
  refine p_istore_n X (dcg dc_X3_tellsTooMuch 1 rfl) rfl (by decide) (nwq (k := 1) rfl) ?_
  refine p_pick [0, 1, 2] ?_
  exact wX3_tellsTooMuch_l2 X hG hnm hf 
theorem dc_J8_hugeLength_7cf53 : decs cJ8_hugeLength_7cf53 [(0, .iload_n 0, 1), (1, .iload_n 1, 1), (2, .iadd, 1), (3, .istore_n 2, 1), (4, .iload_n 2, 1), (5, .ifCond .ge 44, 3), (8, .new 204, 3), (11, .dup, 1), (12, .new 89, 3), (15, .dup, 1), (16, .invokespecial 91, 3), (19, .ldc 206, 2), (21, .invokevirtual 94, 3), (24, .iload_n 0, 1), (25, .invokevirtual 98, 3), (28, .ldc 208, 2), (30, .invokevirtual 94, 3), (33, .iload_n 1, 1), (34, .invokevirtual 98, 3), (37, .ldc 210, 2), (39, .invokevirtual 94, 3), (42, .invokevirtual 101, 3), (45, .invokespecial 212, 3), (48, .athrow, 1), (49, .iload_n 2, 1), (50, .ldc 200, 2), (52, .if_icmp .gt 6, 3), (55, .ldc 200, 2), (57, .ireturn, 1), (58, .iload_n 2, 1), (59, .ireturn, 1)] = true := by decide +kernel
noncomputable def fJ8_hugeLength_7cf53 (v0 : Int32) (v1 : Int32) : Option Int32 :=
  if (0 ≤ (v0 + v1)) then (if ((2147483639 : Int32) < (v0 + v1)) then (some ((v0 + v1))) else
  some ((2147483639 : Int32))) else
  none
set_option maxRecDepth 100000 in
theorem wJ8_hugeLength_7cf53 {E : PE} {l : Launch} (hG : Gs E l) {v0 : Int32} {v1 : Int32} {h : PH} {r : Int32} (hf : fJ8_hugeLength_7cf53 v0 v1 = some r) : Ct E l 0 0 0 yJ8_hugeLength_7cf53 cJ8_hugeLength_7cf53 3 (some .int) [.int v0, .int v1] h (fun v u => v = some (.int r) ∧ u = h) := by
  refine ct_of hG (by decide) (Nat.le_of_ble_eq_true rfl) ?_
  intro p e s m args below meth c X hnm
  show PW E p l e _ s m args below meth c _ 0 0 _ h 0 [(0, some (.int v0)), (1, some (.int v1))] []
  unfold fJ8_hugeLength_7cf53 at hf
  refine p_iload_n X (dcg dc_J8_hugeLength_7cf53 0 rfl) rfl rfl ?_
  refine p_iload_n X (dcg dc_J8_hugeLength_7cf53 1 rfl) rfl rfl ?_
  refine p_iadd X (dcg dc_J8_hugeLength_7cf53 2 rfl) ?_
  refine p_istore_n X (dcg dc_J8_hugeLength_7cf53 3 rfl) rfl (by decide) rfl ?_
  refine p_iload_n X (dcg dc_J8_hugeLength_7cf53 4 rfl) rfl rfl ?_
  refine p_if_ge (tgt := 49) X (dcg dc_J8_hugeLength_7cf53 5 rfl) (by decide) (fun q => ?_) (fun q => ?_)
  · have hf := if_t q hf
    refine p_iload_n X (dcg dc_J8_hugeLength_7cf53 24 rfl) rfl rfl ?_
    refine p_ldc X tw_609 (dcg dc_J8_hugeLength_7cf53 25 rfl) ?_
    refine p_icmp_gt (tgt := 58) X (dcg dc_J8_hugeLength_7cf53 26 rfl) (by decide) (fun q => ?_) (fun q => ?_)
    · have hf := if_t q hf
      refine p_iload_n X (dcg dc_J8_hugeLength_7cf53 29 rfl) rfl rfl ?_
      have er := Option.some.inj hf
      subst er
      exact p_iret X rfl (dcg dc_J8_hugeLength_7cf53 30 rfl) ⟨rfl, rfl⟩ (Nat.le_refl _) (Nat.le_refl _)
    · have hf := if_f q hf
      refine p_ldc X tw_609 (dcg dc_J8_hugeLength_7cf53 27 rfl) ?_
      have er := Option.some.inj hf
      subst er
      exact p_iret X rfl (dcg dc_J8_hugeLength_7cf53 28 rfl) ⟨rfl, rfl⟩ (Nat.le_refl _) (Nat.le_refl _)
  · have hf := if_f q hf
    cases hf
theorem dc_J8_newLength_cabcc : decs cJ8_newLength_cabcc [(0, .iload_n 0, 1), (1, .iload_n 1, 1), (2, .iload_n 2, 1), (3, .invokestatic 194, 3), (6, .iadd, 1), (7, .istore_n 3, 1), (8, .iconst 0, 1), (9, .iload_n 3, 1), (10, .if_icmp .ge 11, 3), (13, .iload_n 3, 1), (14, .ldc 200, 2), (16, .if_icmp .gt 5, 3), (19, .iload_n 3, 1), (20, .ireturn, 1), (21, .iload_n 0, 1), (22, .iload_n 1, 1), (23, .invokestatic 201, 3), (26, .ireturn, 1)] = true := by decide +kernel
noncomputable def fJ8_newLength_cabcc_b21 (v0 : Int32) (v1 : Int32) : Option Int32 :=
  bd (fJ8_hugeLength_7cf53 v0 v1) (fun z1 =>
  some (z1))
set_option maxRecDepth 100000 in
theorem wJ8_newLength_cabcc_b21 {E : PE} {p : Program} {l : Launch} {e : Env} {s : State} {m : MethodId} {args : Array Value} {below : List Frame} {meth : Method} {c : Code} (X : Cx E p l e (rmv 1 0 0) s m args below meth c RJ8 cJ8_newLength_cabcc 4 (some .int)) (hG : Gs E l) (hnm : meth.name = yJ8_newLength_cabcc.name) {v0 : Int32} {v1 : Int32} {h : PH} {r : Int32} (hf : fJ8_newLength_cabcc_b21 v0 v1 = some r)  : PW E p l e (rmv 1 0 0) s m args below meth c 4 0 0 (MQ below (QG E (fun v u => v = some (.int r) ∧ u = h)) args s 0 0 (pA E)) h 21 [(0, some (.int v0)), (1, some (.int v1))] [] := by
  unfold fJ8_newLength_cabcc_b21 at hf
  refine p_iload_n X (dcg dc_J8_newLength_cabcc 14 rfl) rfl rfl ?_
  refine p_iload_n X (dcg dc_J8_newLength_cabcc 15 rfl) rfl rfl ?_
  obtain ⟨z1, hz1, hf⟩ := bd_some hf
  refine p_callS (As := [_, _]) X ml_J8_201 (dcg dc_J8_newLength_cabcc 16 rfl) rfl rfl  (wJ8_hugeLength_7cf53 hG hz1) (by decide) (room4 (Nat.le_of_ble_eq_true rfl)) (Nat.le_refl _) (Nat.le_refl _) ?_
  rintro _ u9 ⟨rfl, e9⟩; have e9 := e9.symm; subst e9
  have er := Option.some.inj hf
  subst er
  exact p_iret X rfl (dcg dc_J8_newLength_cabcc 17 rfl) ⟨rfl, rfl⟩ (Nat.le_refl _) (Nat.le_refl _)
noncomputable def fJ8_newLength_cabcc (v0 : Int32) (v1 : Int32) (v2 : Int32) : Option Int32 :=
  if ((v0 + (if v1 < v2 then v2 else v1)) ≤ (0 : Int32)) then (fJ8_newLength_cabcc_b21 v0 v1) else
  if ((2147483639 : Int32) < (v0 + (if v1 < v2 then v2 else v1))) then (fJ8_newLength_cabcc_b21 v0 v1) else
  some ((v0 + (if v1 < v2 then v2 else v1)))
set_option maxRecDepth 100000 in
theorem wJ8_newLength_cabcc {E : PE} {l : Launch} (hG : Gs E l) {v0 : Int32} {v1 : Int32} {v2 : Int32} {h : PH} {r : Int32} (hf : fJ8_newLength_cabcc v0 v1 v2 = some r) : Ct E l 1 0 0 yJ8_newLength_cabcc cJ8_newLength_cabcc 4 (some .int) [.int v0, .int v1, .int v2] h (fun v u => v = some (.int r) ∧ u = h) := by
  refine ct_of hG (by decide) (Nat.le_of_ble_eq_true rfl) ?_
  intro p e s m args below meth c X hnm
  show PW E p l e _ s m args below meth c _ 0 0 _ h 0 [(0, some (.int v0)), (1, some (.int v1)), (2, some (.int v2))] []
  unfold fJ8_newLength_cabcc at hf
  refine p_iload_n X (dcg dc_J8_newLength_cabcc 0 rfl) rfl rfl ?_
  refine p_iload_n X (dcg dc_J8_newLength_cabcc 1 rfl) rfl rfl ?_
  refine p_iload_n X (dcg dc_J8_newLength_cabcc 2 rfl) rfl rfl ?_
  refine p_mmax X tw_608 tw_445 tw_123 tw_446 (dcg dc_J8_newLength_cabcc 3 rfl) (Nat.le_of_ble_eq_true rfl) (Nat.le_trans (Nat.add_le_add_right (room4 (Nat.le_of_ble_eq_true rfl)) 13) (Nat.le_of_ble_eq_true rfl)) (Nat.le_refl _) (Nat.le_refl _) (fun ls hl => X.2.2.1.trans hl.1.symm) ?_
  refine p_iadd X (dcg dc_J8_newLength_cabcc 4 rfl) ?_
  refine p_istore_n X (dcg dc_J8_newLength_cabcc 5 rfl) rfl (by decide) rfl ?_
  refine p_iconst (v := 0) X (dcg dc_J8_newLength_cabcc 6 rfl) (by decide) ?_
  refine p_iload_n X (dcg dc_J8_newLength_cabcc 7 rfl) rfl rfl ?_
  refine p_icmp_ge (tgt := 21) X (dcg dc_J8_newLength_cabcc 8 rfl) (by decide) (fun q => ?_) (fun q => ?_)
  · have hf := if_t q hf
    refine p_pick [0, 1] ?_
    exact wJ8_newLength_cabcc_b21 X hG hnm hf 
  · have hf := if_f q hf
    refine p_iload_n X (dcg dc_J8_newLength_cabcc 9 rfl) rfl rfl ?_
    refine p_ldc X tw_609 (dcg dc_J8_newLength_cabcc 10 rfl) ?_
    refine p_icmp_gt (tgt := 21) X (dcg dc_J8_newLength_cabcc 11 rfl) (by decide) (fun q => ?_) (fun q => ?_)
    · have hf := if_t q hf
      refine p_pick [0, 1] ?_
      exact wJ8_newLength_cabcc_b21 X hG hnm hf 
    · have hf := if_f q hf
      refine p_iload_n X (dcg dc_J8_newLength_cabcc 12 rfl) rfl rfl ?_
      have er := Option.some.inj hf
      subst er
      exact p_iret X rfl (dcg dc_J8_newLength_cabcc 13 rfl) ⟨rfl, rfl⟩ (Nat.le_refl _) (Nat.le_refl _)
theorem dc_J7_copyOf_6403c : decs cJ7_copyOf_6403c [(0, .aload_n 2, 1), (1, .ldc 110, 2), (3, .if_acmp .ne 10, 3), (6, .iload_n 1, 1), (7, .anewarray 2, 3), (10, .goto 14, 3), (13, .aload_n 2, 1), (14, .invokevirtual 90, 3), (17, .iload_n 1, 1), (18, .invokestatic 95, 3), (21, .checkcast 110, 3), (24, .astore_n 3, 1), (25, .aload_n 0, 1), (26, .iconst 0, 1), (27, .aload_n 3, 1), (28, .iconst 0, 1), (29, .aload_n 0, 1), (30, .arraylength, 1), (31, .iload_n 1, 1), (32, .invokestatic 304, 3), (35, .invokestatic 150, 3), (38, .aload_n 3, 1), (39, .areturn, 1)] = true := by decide +kernel
noncomputable def fJ7_copyOf_6403c_b0 (v2 : Option Nat) (h : PH) : Option (Option Nat × PH) :=
  none
set_option maxRecDepth 100000 in
theorem mJ7_copyOf_6403c_b0 {v2 : Option Nat} {h : PH} {r : (Option Nat × PH)} (hf : fJ7_copyOf_6403c_b0 v2 h = some r) : lez h (hX r.2) (hV r.2) := by
  unfold fJ7_copyOf_6403c_b0 at hf
  have hle := lez_rf h
  cases hf
set_option maxRecDepth 100000 in
theorem wJ7_copyOf_6403c_b0 {E : PE} {p : Program} {l : Launch} {e : Env} {s : State} {m : MethodId} {args : Array Value} {below : List Frame} {meth : Method} {c : Code} {X0 V0 MC MS uc us : Nat} (X : Cx E p l e (rmv 1 MC MS) s m args below meth c RJ7 cJ7_copyOf_6403c 4 (some (.array (.object "java/lang/Object")))) (hG : Gs E l) (hnm : meth.name = yJ7_copyOf_6403c.name) {v2 : Option Nat} {h : PH} {r : (Option Nat × PH)} (hM : MC + X0 = (hX r.2)) (hN : MS + V0 = (hV r.2)) (hu : uc + X0 = hX h) (hv : us + V0 = hV h) (hf : fJ7_copyOf_6403c_b0 v2 h = some r)  : PW E p l e (rmv 1 MC MS) s m args below meth c 4 uc us (MQ below (QG E (fun v u => v = some (va_rf r.1) ∧ u = r.2)) args s MC MS (pA E)) h 0 [(2, some (va_rf v2))] [] := by
  have hm1 : lez h (hX r.2) (hV r.2) := mJ7_copyOf_6403c_b0 hf
  have hcm : uc ≤ MC := (by have o0 := hm1.1; have o1 := hM; have o2 := hu; (try simp only [hX_sI, hX_sR, hX_sL, hX_sD, hX_sIa, hX_sRa, hV_sI, hV_sR, hV_sL, hV_sD, hV_sIa, hV_sRa, hX_new, hV_new] at o0 o1 o2 ⊢); omega)
  have hsm : us ≤ MS := (by have o0 := hm1.2; have o1 := hN; have o2 := hv; (try simp only [hX_sI, hX_sR, hX_sL, hX_sD, hX_sIa, hX_sRa, hV_sI, hV_sR, hV_sL, hV_sD, hV_sIa, hV_sRa, hX_new, hV_new] at o0 o1 o2 ⊢); omega)
  clear hm1
  unfold fJ7_copyOf_6403c_b0 at hf
  refine p_aloadq_n X (dcg dc_J7_copyOf_6403c 0 rfl) rfl rfl ?_
  cases hf
noncomputable def fJ7_copyOf_6403c (v0 : Option Nat) (v1 : Int32) (v2 : Option Nat) (h : PH) : Option (Option Nat × PH) :=
  fJ7_copyOf_6403c_b0 v2 h
set_option maxRecDepth 100000 in
theorem mJ7_copyOf_6403c {v0 : Option Nat} {v1 : Int32} {v2 : Option Nat} {h : PH} {r : (Option Nat × PH)} (hf : fJ7_copyOf_6403c v0 v1 v2 h = some r) : lez h (hX r.2) (hV r.2) := by
  unfold fJ7_copyOf_6403c at hf
  have hle := lez_rf h
  exact lez_rt (mJ7_copyOf_6403c_b0 hf) hle
set_option maxRecDepth 100000 in
theorem wJ7_copyOf_6403c {E : PE} {l : Launch} (hG : Gs E l) {v0 : Option Nat} {v1 : Int32} {v2 : Option Nat} {h : PH} {r : (Option Nat × PH)} (hf : fJ7_copyOf_6403c v0 v1 v2 h = some r) : Ct E l 1 ((hX r.2) - hX h) ((hV r.2) - hV h) yJ7_copyOf_6403c cJ7_copyOf_6403c 4 (some (.array (.object "java/lang/Object"))) [va_rf v0, .int v1, va_rf v2] h (fun v u => v = some (va_rf r.1) ∧ u = r.2) := by
  have hmm := mJ7_copyOf_6403c hf
  refine ct_of hG (by decide) (by simp [lg_sl, cat_rf, cat_r, cat_i, cat_l, cat_d, cat_f]) ?_
  intro p e s m args below meth c X hnm
  rw [show pargs 0 [va_rf v0, .int v1, va_rf v2] = [(0, some (va_rf v0)), (1, some (.int v1)), (2, some (va_rf v2))] from by simp [pargs, cat_rf, cat_r, cat_i, cat_l, cat_d, cat_f]]
  unfold fJ7_copyOf_6403c at hf
  have hM := Nat.sub_add_cancel hmm.1
  have hN := Nat.sub_add_cancel hmm.2
  refine p_pick [2] ?_
  exact wJ7_copyOf_6403c_b0 X hG hnm hM hN (Nat.zero_add _) (Nat.zero_add _) hf
theorem dc_J7_copyOf_1904c : decs cJ7_copyOf_1904c [(0, .aload_n 0, 1), (1, .iload_n 1, 1), (2, .aload_n 0, 1), (3, .invokevirtual 86, 3), (6, .invokestatic 300, 3), (9, .areturn, 1)] = true := by decide +kernel
noncomputable def fJ7_copyOf_1904c_b0 (v0 : Option Nat) (v1 : Int32) (h : PH) : Option (Option Nat × PH) :=
  none
set_option maxRecDepth 100000 in
theorem mJ7_copyOf_1904c_b0 {v0 : Option Nat} {v1 : Int32} {h : PH} {r : (Option Nat × PH)} (hf : fJ7_copyOf_1904c_b0 v0 v1 h = some r) : lez h (hX r.2) (hV r.2) := by
  unfold fJ7_copyOf_1904c_b0 at hf
  have hle := lez_rf h
  cases hf
set_option maxRecDepth 100000 in
theorem wJ7_copyOf_1904c_b0 {E : PE} {p : Program} {l : Launch} {e : Env} {s : State} {m : MethodId} {args : Array Value} {below : List Frame} {meth : Method} {c : Code} {X0 V0 MC MS uc us : Nat} (X : Cx E p l e (rmv 2 MC MS) s m args below meth c RJ7 cJ7_copyOf_1904c 2 (some (.array (.object "java/lang/Object")))) (hG : Gs E l) (hnm : meth.name = yJ7_copyOf_1904c.name) {v0 : Option Nat} {v1 : Int32} {h : PH} {r : (Option Nat × PH)} (hM : MC + X0 = (hX r.2)) (hN : MS + V0 = (hV r.2)) (hu : uc + X0 = hX h) (hv : us + V0 = hV h) (hf : fJ7_copyOf_1904c_b0 v0 v1 h = some r)  : PW E p l e (rmv 2 MC MS) s m args below meth c 2 uc us (MQ below (QG E (fun v u => v = some (va_rf r.1) ∧ u = r.2)) args s MC MS (pA E)) h 0 [(0, some (va_rf v0)), (1, some (.int v1))] [] := by
  have hm1 : lez h (hX r.2) (hV r.2) := mJ7_copyOf_1904c_b0 hf
  have hcm : uc ≤ MC := (by have o0 := hm1.1; have o1 := hM; have o2 := hu; (try simp only [hX_sI, hX_sR, hX_sL, hX_sD, hX_sIa, hX_sRa, hV_sI, hV_sR, hV_sL, hV_sD, hV_sIa, hV_sRa, hX_new, hV_new] at o0 o1 o2 ⊢); omega)
  have hsm : us ≤ MS := (by have o0 := hm1.2; have o1 := hN; have o2 := hv; (try simp only [hX_sI, hX_sR, hX_sL, hX_sD, hX_sIa, hX_sRa, hV_sI, hV_sR, hV_sL, hV_sD, hV_sIa, hV_sRa, hX_new, hV_new] at o0 o1 o2 ⊢); omega)
  clear hm1
  unfold fJ7_copyOf_1904c_b0 at hf
  refine p_aloadq_n X (dcg dc_J7_copyOf_1904c 0 rfl) rfl rfl ?_
  refine p_iload_n X (dcg dc_J7_copyOf_1904c 1 rfl) rfl rfl ?_
  refine p_aloadq_n X (dcg dc_J7_copyOf_1904c 2 rfl) rfl rfl ?_
  cases hf
noncomputable def fJ7_copyOf_1904c (v0 : Option Nat) (v1 : Int32) (h : PH) : Option (Option Nat × PH) :=
  fJ7_copyOf_1904c_b0 v0 v1 h
set_option maxRecDepth 100000 in
theorem mJ7_copyOf_1904c {v0 : Option Nat} {v1 : Int32} {h : PH} {r : (Option Nat × PH)} (hf : fJ7_copyOf_1904c v0 v1 h = some r) : lez h (hX r.2) (hV r.2) := by
  unfold fJ7_copyOf_1904c at hf
  have hle := lez_rf h
  exact lez_rt (mJ7_copyOf_1904c_b0 hf) hle
set_option maxRecDepth 100000 in
theorem wJ7_copyOf_1904c {E : PE} {l : Launch} (hG : Gs E l) {v0 : Option Nat} {v1 : Int32} {h : PH} {r : (Option Nat × PH)} (hf : fJ7_copyOf_1904c v0 v1 h = some r) : Ct E l 2 ((hX r.2) - hX h) ((hV r.2) - hV h) yJ7_copyOf_1904c cJ7_copyOf_1904c 2 (some (.array (.object "java/lang/Object"))) [va_rf v0, .int v1] h (fun v u => v = some (va_rf r.1) ∧ u = r.2) := by
  have hmm := mJ7_copyOf_1904c hf
  refine ct_of hG (by decide) (by simp [lg_sl, cat_rf, cat_r, cat_i, cat_l, cat_d, cat_f]) ?_
  intro p e s m args below meth c X hnm
  rw [show pargs 0 [va_rf v0, .int v1] = [(0, some (va_rf v0)), (1, some (.int v1))] from by simp [pargs, cat_rf, cat_r, cat_i, cat_l, cat_d, cat_f]]
  unfold fJ7_copyOf_1904c at hf
  have hM := Nat.sub_add_cancel hmm.1
  have hN := Nat.sub_add_cancel hmm.2
  refine p_pick [0, 1] ?_
  exact wJ7_copyOf_1904c_b0 X hG hnm hM hN (Nat.zero_add _) (Nat.zero_add _) hf
theorem dc_Jx4a65c_grow_92f84 : decs cJx4a65c_grow_92f84 [(0, .aload_n 0, 1), (1, .getfield 9, 3), (4, .arraylength, 1), (5, .istore_n 2, 1), (6, .iload_n 2, 1), (7, .ifCond .gt 13, 3), (10, .aload_n 0, 1), (11, .getfield 9, 3), (14, .getstatic 39, 3), (17, .if_acmp .eq 28, 3), (20, .iload_n 2, 1), (21, .iload_n 1, 1), (22, .iload_n 2, 1), (23, .isub, 1), (24, .iload_n 2, 1), (25, .iconst 1, 1), (26, .ishr, 1), (27, .invokestatic 73, 3), (30, .istore_n 3, 1), (31, .aload_n 0, 1), (32, .aload_n 0, 1), (33, .getfield 9, 3), (36, .iload_n 3, 1), (37, .invokestatic 66, 3), (40, .dup_x1, 1), (41, .putfield 9, 3), (44, .areturn, 1), (45, .aload_n 0, 1), (46, .bipush 10, 2), (48, .iload_n 1, 1), (49, .invokestatic 79, 3), (52, .anewarray 7, 3), (55, .dup_x1, 1), (56, .putfield 9, 3), (59, .areturn, 1)] = true := by decide +kernel
noncomputable def fJx4a65c_grow_92f84_b40 (t0 : Nat) (t1 : Option Nat) (h : PH) : Option (Option Nat × PH) :=
  gd (hK h t0 = 14) (lt (sR h 14 t0 1 t1) (fun h9 =>
  some ((t1, h9))))
set_option maxRecDepth 100000 in
theorem mJx4a65c_grow_92f84_b40 {t0 : Nat} {t1 : Option Nat} {h : PH} {r : (Option Nat × PH)} (hf : fJx4a65c_grow_92f84_b40 t0 t1 h = some r) : lez h (hX r.2) (hV r.2) := by
  unfold fJx4a65c_grow_92f84_b40 at hf
  have hle := lez_rf h
  obtain ⟨hk8, hf⟩ := gd_some hf
  obtain ⟨h9, rfl, hf⟩ := lt_some hf
  have ee := Option.some.inj hf; subst ee; exact hle
set_option maxRecDepth 100000 in
theorem wJx4a65c_grow_92f84_b40 {E : PE} {p : Program} {l : Launch} {e : Env} {s : State} {m : MethodId} {args : Array Value} {below : List Frame} {meth : Method} {c : Code} {X0 V0 MC MS uc us : Nat} (X : Cx E p l e (rmv 3 MC MS) s m args below meth c RJx4a65c cJx4a65c_grow_92f84 4 (some (.array (.object "java/lang/Object")))) (hG : Gs E l) (hnm : meth.name = yJx4a65c_grow_92f84.name) {t0 : Nat} {t1 : Option Nat} {h : PH} {r : (Option Nat × PH)} (hM : MC + X0 = (hX r.2)) (hN : MS + V0 = (hV r.2)) (hu : uc + X0 = hX h) (hv : us + V0 = hV h) (hf : fJx4a65c_grow_92f84_b40 t0 t1 h = some r)  : PW E p l e (rmv 3 MC MS) s m args below meth c 4 uc us (MQ below (QG E (fun v u => v = some (va_rf r.1) ∧ u = r.2)) args s MC MS (pA E)) h 40 [] [va_rf t1, .ref t0] := by
  have hm1 : lez h (hX r.2) (hV r.2) := mJx4a65c_grow_92f84_b40 hf
  have hcm : uc ≤ MC := (by have o0 := hm1.1; have o1 := hM; have o2 := hu; (try simp only [hX_sI, hX_sR, hX_sL, hX_sD, hX_sIa, hX_sRa, hV_sI, hV_sR, hV_sL, hV_sD, hV_sIa, hV_sRa, hX_new, hV_new] at o0 o1 o2 ⊢); omega)
  have hsm : us ≤ MS := (by have o0 := hm1.2; have o1 := hN; have o2 := hv; (try simp only [hX_sI, hX_sR, hX_sL, hX_sD, hX_sIa, hX_sRa, hV_sI, hV_sR, hV_sL, hV_sD, hV_sIa, hV_sRa, hX_new, hV_new] at o0 o1 o2 ⊢); omega)
  clear hm1
  unfold fJx4a65c_grow_92f84_b40 at hf
  refine p_dup_x1 X (dcg dc_Jx4a65c_grow_92f84 24 rfl) (cat_rf _) rfl ?_
  obtain ⟨hk8, hf⟩ := gd_some hf
  refine p_putR X fl_Jx4a65c_9 rfl (by decide) (fun q hq => by cases hq; rfl) (nar_rf _ (by decide)) (fit_rf _ (by decide)) (dcg dc_Jx4a65c_grow_92f84 25 rfl) hk8 ?_
  obtain ⟨h9, rfl, hf⟩ := lt_some hf
  have er := Option.some.inj hf
  subst er
  exact p_aret X rfl (Or.inr ⟨_, rfl⟩) (dcg dc_Jx4a65c_grow_92f84 26 rfl) ⟨rfl, rfl⟩ hcm hsm
noncomputable def fJx4a65c_grow_92f84_b20 (v0 : Nat) (v1 : Int32) (v2 : Int32) (h : PH) : Option (Option Nat × PH) :=
  bd (fJ8_newLength_cabcc v2 (v1 - v2) (v2 >>> ((1 : Int32) &&& 31))) (fun z5 =>
  gd (hK h v0 = 14) (bd (fJ7_copyOf_1904c (hR h 14 v0 1) z5 h) (fun z7 =>
  fJx4a65c_grow_92f84_b40 v0 z7.1 z7.2)))
set_option maxRecDepth 100000 in
theorem mJx4a65c_grow_92f84_b20 {v0 : Nat} {v1 : Int32} {v2 : Int32} {h : PH} {r : (Option Nat × PH)} (hf : fJx4a65c_grow_92f84_b20 v0 v1 v2 h = some r) : lez h (hX r.2) (hV r.2) := by
  unfold fJx4a65c_grow_92f84_b20 at hf
  have hle := lez_rf h
  obtain ⟨z5, hz5, hf⟩ := bd_some hf
  obtain ⟨hk6, hf⟩ := gd_some hf
  obtain ⟨z7, hz7, hf⟩ := bd_some hf
  have hle := lez_rt (mJ7_copyOf_1904c hz7) hle
  exact lez_rt (mJx4a65c_grow_92f84_b40 hf) hle
set_option maxRecDepth 100000 in
theorem wJx4a65c_grow_92f84_b20 {E : PE} {p : Program} {l : Launch} {e : Env} {s : State} {m : MethodId} {args : Array Value} {below : List Frame} {meth : Method} {c : Code} {X0 V0 MC MS uc us : Nat} (X : Cx E p l e (rmv 3 MC MS) s m args below meth c RJx4a65c cJx4a65c_grow_92f84 4 (some (.array (.object "java/lang/Object")))) (hG : Gs E l) (hnm : meth.name = yJx4a65c_grow_92f84.name) {v0 : Nat} {v1 : Int32} {v2 : Int32} {h : PH} {r : (Option Nat × PH)} (hM : MC + X0 = (hX r.2)) (hN : MS + V0 = (hV r.2)) (hu : uc + X0 = hX h) (hv : us + V0 = hV h) (hf : fJx4a65c_grow_92f84_b20 v0 v1 v2 h = some r)  : PW E p l e (rmv 3 MC MS) s m args below meth c 4 uc us (MQ below (QG E (fun v u => v = some (va_rf r.1) ∧ u = r.2)) args s MC MS (pA E)) h 20 [(0, some (.ref v0)), (1, some (.int v1)), (2, some (.int v2))] [] := by
  have hm1 : lez h (hX r.2) (hV r.2) := mJx4a65c_grow_92f84_b20 hf
  have hcm : uc ≤ MC := (by have o0 := hm1.1; have o1 := hM; have o2 := hu; (try simp only [hX_sI, hX_sR, hX_sL, hX_sD, hX_sIa, hX_sRa, hV_sI, hV_sR, hV_sL, hV_sD, hV_sIa, hV_sRa, hX_new, hV_new] at o0 o1 o2 ⊢); omega)
  have hsm : us ≤ MS := (by have o0 := hm1.2; have o1 := hN; have o2 := hv; (try simp only [hX_sI, hX_sR, hX_sL, hX_sD, hX_sIa, hX_sRa, hV_sI, hV_sR, hV_sL, hV_sD, hV_sIa, hV_sRa, hX_new, hV_new] at o0 o1 o2 ⊢); omega)
  clear hm1
  unfold fJx4a65c_grow_92f84_b20 at hf
  refine p_iload_n X (dcg dc_Jx4a65c_grow_92f84 10 rfl) rfl rfl ?_
  refine p_iload_n X (dcg dc_Jx4a65c_grow_92f84 11 rfl) rfl rfl ?_
  refine p_iload_n X (dcg dc_Jx4a65c_grow_92f84 12 rfl) rfl rfl ?_
  refine p_isub X (dcg dc_Jx4a65c_grow_92f84 13 rfl) ?_
  refine p_iload_n X (dcg dc_Jx4a65c_grow_92f84 14 rfl) rfl rfl ?_
  refine p_iconst (v := 1) X (dcg dc_Jx4a65c_grow_92f84 15 rfl) (by decide) ?_
  refine p_ishr X (dcg dc_Jx4a65c_grow_92f84 16 rfl) ?_
  obtain ⟨z5, hz5, hf⟩ := bd_some hf
  refine p_callS (As := [_, _, _]) X ml_Jx4a65c_73 (dcg dc_Jx4a65c_grow_92f84 17 rfl) rfl rfl  (wJ8_newLength_cabcc hG hz5) (by decide) (room4 (Nat.le_of_ble_eq_true rfl)) hcm hsm ?_
  rintro _ u9 ⟨rfl, e9⟩; have e9 := e9.symm; subst e9
  refine p_istore_n X (dcg dc_Jx4a65c_grow_92f84 18 rfl) rfl (by decide) rfl ?_
  refine p_aload_n X (dcg dc_Jx4a65c_grow_92f84 19 rfl) rfl rfl ?_
  refine p_aload_n X (dcg dc_Jx4a65c_grow_92f84 20 rfl) rfl rfl ?_
  obtain ⟨hk6, hf⟩ := gd_some hf
  refine p_getR X fl_Jx4a65c_9 rfl (by decide) (dcg dc_Jx4a65c_grow_92f84 21 rfl) hk6 ?_
  refine p_iload_n X (dcg dc_Jx4a65c_grow_92f84 22 rfl) rfl rfl ?_
  obtain ⟨z7, hz7, hf⟩ := bd_some hf
  have hc1 := mJ7_copyOf_1904c hz7
  have hm1 : lez _ (hX r.2) (hV r.2) := mJx4a65c_grow_92f84_b40 hf
  refine p_callS (As := [va_rf _, _]) X ml_Jx4a65c_66 (dcg dc_Jx4a65c_grow_92f84 23 rfl) rfl rfl  (wJ7_copyOf_1904c hG hz7) (by decide) (room4 (Nat.le_of_ble_eq_true rfl)) (by have o0 := hm1.1; have o1 := hc1.1; have o2 := hM; have o3 := hu; (try simp only [hX_sI, hX_sR, hX_sL, hX_sD, hX_sIa, hX_sRa, hV_sI, hV_sR, hV_sL, hV_sD, hV_sIa, hV_sRa, hX_new, hV_new] at o0 o1 o2 o3 ⊢); omega) (by have o0 := hm1.2; have o1 := hc1.2; have o2 := hN; have o3 := hv; (try simp only [hX_sI, hX_sR, hX_sL, hX_sD, hX_sIa, hX_sRa, hV_sI, hV_sR, hV_sL, hV_sD, hV_sIa, hV_sRa, hX_new, hV_new] at o0 o1 o2 o3 ⊢); omega) ?_
  rintro _ u9 ⟨rfl, e9⟩; have e9 := e9.symm; subst e9
  refine p_pick [] ?_
  exact wJx4a65c_grow_92f84_b40 X hG hnm hM hN (by have o0 := hc1.1; have o1 := hu; (try simp only [hX_sI, hX_sR, hX_sL, hX_sD, hX_sIa, hX_sRa, hV_sI, hV_sR, hV_sL, hV_sD, hV_sIa, hV_sRa, hX_new, hV_new] at o0 o1 ⊢); omega) (by have o0 := hc1.2; have o1 := hv; (try simp only [hX_sI, hX_sR, hX_sL, hX_sD, hX_sIa, hX_sRa, hV_sI, hV_sR, hV_sL, hV_sD, hV_sIa, hV_sRa, hX_new, hV_new] at o0 o1 ⊢); omega) hf 
noncomputable def fJx4a65c_grow_92f84_b55 (t0 : Nat) (t1 : Nat) (h : PH) : Option (Option Nat × PH) :=
  gd (hK h t0 = 14) (lt (sR h 14 t0 1 (some t1)) (fun h12 =>
  some (((some t1), h12))))
set_option maxRecDepth 100000 in
theorem mJx4a65c_grow_92f84_b55 {t0 : Nat} {t1 : Nat} {h : PH} {r : (Option Nat × PH)} (hf : fJx4a65c_grow_92f84_b55 t0 t1 h = some r) : lez h (hX r.2) (hV r.2) := by
  unfold fJx4a65c_grow_92f84_b55 at hf
  have hle := lez_rf h
  obtain ⟨hk11, hf⟩ := gd_some hf
  obtain ⟨h12, rfl, hf⟩ := lt_some hf
  have ee := Option.some.inj hf; subst ee; exact hle
set_option maxRecDepth 100000 in
theorem wJx4a65c_grow_92f84_b55 {E : PE} {p : Program} {l : Launch} {e : Env} {s : State} {m : MethodId} {args : Array Value} {below : List Frame} {meth : Method} {c : Code} {X0 V0 MC MS uc us : Nat} (X : Cx E p l e (rmv 3 MC MS) s m args below meth c RJx4a65c cJx4a65c_grow_92f84 4 (some (.array (.object "java/lang/Object")))) (hG : Gs E l) (hnm : meth.name = yJx4a65c_grow_92f84.name) {t0 : Nat} {t1 : Nat} {h : PH} {r : (Option Nat × PH)} (hM : MC + X0 = (hX r.2)) (hN : MS + V0 = (hV r.2)) (hu : uc + X0 = hX h) (hv : us + V0 = hV h) (hf : fJx4a65c_grow_92f84_b55 t0 t1 h = some r)  : PW E p l e (rmv 3 MC MS) s m args below meth c 4 uc us (MQ below (QG E (fun v u => v = some (va_rf r.1) ∧ u = r.2)) args s MC MS (pA E)) h 55 [] [.ref t1, .ref t0] := by
  have hm1 : lez h (hX r.2) (hV r.2) := mJx4a65c_grow_92f84_b55 hf
  have hcm : uc ≤ MC := (by have o0 := hm1.1; have o1 := hM; have o2 := hu; (try simp only [hX_sI, hX_sR, hX_sL, hX_sD, hX_sIa, hX_sRa, hV_sI, hV_sR, hV_sL, hV_sD, hV_sIa, hV_sRa, hX_new, hV_new] at o0 o1 o2 ⊢); omega)
  have hsm : us ≤ MS := (by have o0 := hm1.2; have o1 := hN; have o2 := hv; (try simp only [hX_sI, hX_sR, hX_sL, hX_sD, hX_sIa, hX_sRa, hV_sI, hV_sR, hV_sL, hV_sD, hV_sIa, hV_sRa, hX_new, hV_new] at o0 o1 o2 ⊢); omega)
  clear hm1
  unfold fJx4a65c_grow_92f84_b55 at hf
  refine p_dup_x1 X (dcg dc_Jx4a65c_grow_92f84 32 rfl) rfl rfl ?_
  obtain ⟨hk11, hf⟩ := gd_some hf
  refine p_putR (v := some _) X fl_Jx4a65c_9 rfl (by decide) (fun q hq => by cases hq; rfl) (nar_rf _ (by decide)) (fit_rf _ (by decide)) (dcg dc_Jx4a65c_grow_92f84 33 rfl) hk11 ?_
  obtain ⟨h12, rfl, hf⟩ := lt_some hf
  have er := Option.some.inj hf
  subst er
  exact p_aret (r := some _) X rfl (Or.inr ⟨_, rfl⟩) (dcg dc_Jx4a65c_grow_92f84 34 rfl) ⟨rfl, rfl⟩ hcm hsm
noncomputable def fJx4a65c_grow_92f84_b0 (v0 : Nat) (v1 : Int32) (h : PH) : Option (Option Nat × PH) :=
  gd (hK h v0 = 14) (gs (hR h 14 v0 1) (fun a2 =>
  gd (hK h a2 = 28) (if (0 < (nI (hN h a2))) then (fJx4a65c_grow_92f84_b20 v0 v1 (nI (hN h a2)) h) else
  if ((hR h 14 v0 1) = (some 3)) then (gd (¬ (if (10 : Int32) < v1 then v1 else (10 : Int32)) < 0 ∧ (Int32.toNatClampNeg (if (10 : Int32) < v1 then v1 else (10 : Int32))) ≤ 1000000) (fJx4a65c_grow_92f84_b55 v0 (hX h) (hnew h 28 (Int32.toNatClampNeg (if (10 : Int32) < v1 then v1 else (10 : Int32)))))) else
  fJx4a65c_grow_92f84_b20 v0 v1 (nI (hN h a2)) h)))
set_option maxRecDepth 100000 in
theorem mJx4a65c_grow_92f84_b0 {v0 : Nat} {v1 : Int32} {h : PH} {r : (Option Nat × PH)} (hf : fJx4a65c_grow_92f84_b0 v0 v1 h = some r) : lez h (hX r.2) (hV r.2) := by
  unfold fJx4a65c_grow_92f84_b0 at hf
  have hle := lez_rf h
  obtain ⟨hk1, hf⟩ := gd_some hf
  obtain ⟨a2, e3, hf⟩ := gs_some hf
  obtain ⟨hk4, hf⟩ := gd_some hf
  rcases ite_or hf with ⟨q, hf⟩ | ⟨q, hf⟩
  · have hf := if_t q hf
    exact lez_rt (mJx4a65c_grow_92f84_b20 hf) hle
  · have hf := if_f q hf
    rcases ite_or hf with ⟨q, hf⟩ | ⟨q, hf⟩
    · have hf := if_t q hf
      obtain ⟨hg10, hf⟩ := gd_some hf
      have hle := lez_nw (c := 28) (n := (Int32.toNatClampNeg (if (10 : Int32) < v1 then v1 else (10 : Int32)))) hle
      exact lez_rt (mJx4a65c_grow_92f84_b55 hf) hle
    · have hf := if_f q hf
      exact lez_rt (mJx4a65c_grow_92f84_b20 hf) hle
set_option maxRecDepth 100000 in
theorem wJx4a65c_grow_92f84_b0 {E : PE} {p : Program} {l : Launch} {e : Env} {s : State} {m : MethodId} {args : Array Value} {below : List Frame} {meth : Method} {c : Code} {X0 V0 MC MS uc us : Nat} (X : Cx E p l e (rmv 3 MC MS) s m args below meth c RJx4a65c cJx4a65c_grow_92f84 4 (some (.array (.object "java/lang/Object")))) (hG : Gs E l) (hnm : meth.name = yJx4a65c_grow_92f84.name) {v0 : Nat} {v1 : Int32} {h : PH} {r : (Option Nat × PH)} (hM : MC + X0 = (hX r.2)) (hN : MS + V0 = (hV r.2)) (hu : uc + X0 = hX h) (hv : us + V0 = hV h) (hf : fJx4a65c_grow_92f84_b0 v0 v1 h = some r)  : PW E p l e (rmv 3 MC MS) s m args below meth c 4 uc us (MQ below (QG E (fun v u => v = some (va_rf r.1) ∧ u = r.2)) args s MC MS (pA E)) h 0 [(0, some (.ref v0)), (1, some (.int v1))] [] := by
  have hm1 : lez h (hX r.2) (hV r.2) := mJx4a65c_grow_92f84_b0 hf
  have hcm : uc ≤ MC := (by have o0 := hm1.1; have o1 := hM; have o2 := hu; (try simp only [hX_sI, hX_sR, hX_sL, hX_sD, hX_sIa, hX_sRa, hV_sI, hV_sR, hV_sL, hV_sD, hV_sIa, hV_sRa, hX_new, hV_new] at o0 o1 o2 ⊢); omega)
  have hsm : us ≤ MS := (by have o0 := hm1.2; have o1 := hN; have o2 := hv; (try simp only [hX_sI, hX_sR, hX_sL, hX_sD, hX_sIa, hX_sRa, hV_sI, hV_sR, hV_sL, hV_sD, hV_sIa, hV_sRa, hX_new, hV_new] at o0 o1 o2 ⊢); omega)
  clear hm1
  unfold fJx4a65c_grow_92f84_b0 at hf
  refine p_aload_n X (dcg dc_Jx4a65c_grow_92f84 0 rfl) rfl rfl ?_
  obtain ⟨hk1, hf⟩ := gd_some hf
  refine p_getR X fl_Jx4a65c_9 rfl (by decide) (dcg dc_Jx4a65c_grow_92f84 1 rfl) hk1 ?_
  obtain ⟨a2, e3, hf⟩ := gs_some hf
  first | subst e3 | (try rw [e3])
  obtain ⟨hk4, hf⟩ := gd_some hf
  refine p_alen28 X (dcg dc_Jx4a65c_grow_92f84 2 rfl) hk4 ?_
  refine p_istore_n X (dcg dc_Jx4a65c_grow_92f84 3 rfl) rfl (by decide) rfl ?_
  refine p_iload_n X (dcg dc_Jx4a65c_grow_92f84 4 rfl) rfl rfl ?_
  refine p_if_gt (tgt := 20) X (dcg dc_Jx4a65c_grow_92f84 5 rfl) (by decide) (fun q => ?_) (fun q => ?_)
  · have hf := if_t q hf
    refine p_pick [0, 1, 2] ?_
    exact wJx4a65c_grow_92f84_b20 X hG hnm hM hN hu hv hf 
  · have hf := if_f q hf
    refine p_aload_n X (dcg dc_Jx4a65c_grow_92f84 6 rfl) rfl rfl ?_
    refine p_getR X fl_Jx4a65c_9 rfl (by decide) (dcg dc_Jx4a65c_grow_92f84 7 rfl) hk1 ?_
    refine p_gets (v := .ref 3) X (gz_emp hG) tw_220 (dcg dc_Jx4a65c_grow_92f84 8 rfl) ?_
    refine p_acmp_eq (rx := _) (ry := some _) (tgt := 45) X (dcg dc_Jx4a65c_grow_92f84 9 rfl) (by decide) (fun q => ?_) (fun q => ?_)
    · have hf := if_t q hf
      refine p_aload_n X (dcg dc_Jx4a65c_grow_92f84 27 rfl) rfl rfl ?_
      refine p_bipush (v := 10) X (dcg dc_Jx4a65c_grow_92f84 28 rfl) (by decide) ?_
      refine p_iload_n X (dcg dc_Jx4a65c_grow_92f84 29 rfl) rfl rfl ?_
      refine p_mmax X tw_881 tw_445 tw_123 tw_446 (dcg dc_Jx4a65c_grow_92f84 30 rfl) (Nat.le_of_ble_eq_true rfl) (Nat.le_trans (Nat.add_le_add_right (room4 (Nat.le_of_ble_eq_true rfl)) 13) (Nat.le_of_ble_eq_true rfl)) hcm hsm (fun ls hl => X.2.2.1.trans hl.1.symm) ?_
      obtain ⟨hg10, hf⟩ := gd_some hf
      have hm1 : lez _ (hX r.2) (hV r.2) := mJx4a65c_grow_92f84_b55 hf
      have hm2 := lez_new hm1
      refine p_newq28 X tw_882 tl_879 (dcg dc_Jx4a65c_grow_92f84 31 rfl) hg10.1 hg10.2 (show uc + 1 ≤ MC from (by have o0 := hm2.1; have o1 := hM; have o2 := hu; (try simp only [hX_sI, hX_sR, hX_sL, hX_sD, hX_sIa, hX_sRa, hV_sI, hV_sR, hV_sL, hV_sD, hV_sIa, hV_sRa, hX_new, hV_new] at o0 o1 o2 ⊢); omega)) (show us + (Int32.toNatClampNeg (if (10 : Int32) < v1 then v1 else (10 : Int32))) ≤ MS from (by have o0 := hm2.2; have o1 := hN; have o2 := hv; (try simp only [hX_sI, hX_sR, hX_sL, hX_sD, hX_sIa, hX_sRa, hV_sI, hV_sR, hV_sL, hV_sD, hV_sIa, hV_sRa, hX_new, hV_new] at o0 o1 o2 ⊢); omega)) ?_
      refine p_pick [] ?_
      exact wJx4a65c_grow_92f84_b55 X hG hnm hM hN (by have o0 := hu; (try simp only [hX_sI, hX_sR, hX_sL, hX_sD, hX_sIa, hX_sRa, hV_sI, hV_sR, hV_sL, hV_sD, hV_sIa, hV_sRa, hX_new, hV_new] at o0 ⊢); omega) (by have o0 := hv; (try simp only [hX_sI, hX_sR, hX_sL, hX_sD, hX_sIa, hX_sRa, hV_sI, hV_sR, hV_sL, hV_sD, hV_sIa, hV_sRa, hX_new, hV_new] at o0 ⊢); omega) hf 
    · have hf := if_f q hf
      refine p_pick [0, 1, 2] ?_
      exact wJx4a65c_grow_92f84_b20 X hG hnm hM hN hu hv hf 
noncomputable def fJx4a65c_grow_92f84 (v0 : Nat) (v1 : Int32) (h : PH) : Option (Option Nat × PH) :=
  fJx4a65c_grow_92f84_b0 v0 v1 h
set_option maxRecDepth 100000 in
theorem mJx4a65c_grow_92f84 {v0 : Nat} {v1 : Int32} {h : PH} {r : (Option Nat × PH)} (hf : fJx4a65c_grow_92f84 v0 v1 h = some r) : lez h (hX r.2) (hV r.2) := by
  unfold fJx4a65c_grow_92f84 at hf
  have hle := lez_rf h
  exact lez_rt (mJx4a65c_grow_92f84_b0 hf) hle
set_option maxRecDepth 100000 in
theorem wJx4a65c_grow_92f84 {E : PE} {l : Launch} (hG : Gs E l) {v0 : Nat} {v1 : Int32} {h : PH} {r : (Option Nat × PH)} (hf : fJx4a65c_grow_92f84 v0 v1 h = some r) : Ct E l 3 ((hX r.2) - hX h) ((hV r.2) - hV h) yJx4a65c_grow_92f84 cJx4a65c_grow_92f84 4 (some (.array (.object "java/lang/Object"))) [.ref v0, .int v1] h (fun v u => v = some (va_rf r.1) ∧ u = r.2) := by
  have hmm := mJx4a65c_grow_92f84 hf
  refine ct_of hG (by decide) (Nat.le_of_ble_eq_true rfl) ?_
  intro p e s m args below meth c X hnm
  show PW E p l e _ s m args below meth c _ 0 0 _ h 0 [(0, some (.ref v0)), (1, some (.int v1))] []
  unfold fJx4a65c_grow_92f84 at hf
  have hM := Nat.sub_add_cancel hmm.1
  have hN := Nat.sub_add_cancel hmm.2
  refine p_pick [0, 1] ?_
  exact wJx4a65c_grow_92f84_b0 X hG hnm hM hN (Nat.zero_add _) (Nat.zero_add _) hf
theorem dc_Jx4a65c_grow_d5877 : decs cJx4a65c_grow_d5877 [(0, .aload_n 0, 1), (1, .aload_n 0, 1), (2, .getfield 48, 3), (5, .iconst 1, 1), (6, .iadd, 1), (7, .invokevirtual 69, 3), (10, .areturn, 1)] = true := by decide +kernel
noncomputable def fJx4a65c_grow_d5877_b10 (t0 : Option Nat) (h : PH) : Option (Option Nat × PH) :=
  some ((t0, h))
set_option maxRecDepth 100000 in
theorem mJx4a65c_grow_d5877_b10 {t0 : Option Nat} {h : PH} {r : (Option Nat × PH)} (hf : fJx4a65c_grow_d5877_b10 t0 h = some r) : lez h (hX r.2) (hV r.2) := by
  unfold fJx4a65c_grow_d5877_b10 at hf
  have hle := lez_rf h
  have ee := Option.some.inj hf; subst ee; exact hle
set_option maxRecDepth 100000 in
theorem wJx4a65c_grow_d5877_b10 {E : PE} {p : Program} {l : Launch} {e : Env} {s : State} {m : MethodId} {args : Array Value} {below : List Frame} {meth : Method} {c : Code} {X0 V0 MC MS uc us : Nat} (X : Cx E p l e (rmv 4 MC MS) s m args below meth c RJx4a65c cJx4a65c_grow_d5877 1 (some (.array (.object "java/lang/Object")))) (hG : Gs E l) (hnm : meth.name = yJx4a65c_grow_d5877.name) {t0 : Option Nat} {h : PH} {r : (Option Nat × PH)} (hM : MC + X0 = (hX r.2)) (hN : MS + V0 = (hV r.2)) (hu : uc + X0 = hX h) (hv : us + V0 = hV h) (hf : fJx4a65c_grow_d5877_b10 t0 h = some r)  : PW E p l e (rmv 4 MC MS) s m args below meth c 1 uc us (MQ below (QG E (fun v u => v = some (va_rf r.1) ∧ u = r.2)) args s MC MS (pA E)) h 10 [] [va_rf t0] := by
  have hm1 : lez h (hX r.2) (hV r.2) := mJx4a65c_grow_d5877_b10 hf
  have hcm : uc ≤ MC := (by have o0 := hm1.1; have o1 := hM; have o2 := hu; (try simp only [hX_sI, hX_sR, hX_sL, hX_sD, hX_sIa, hX_sRa, hV_sI, hV_sR, hV_sL, hV_sD, hV_sIa, hV_sRa, hX_new, hV_new] at o0 o1 o2 ⊢); omega)
  have hsm : us ≤ MS := (by have o0 := hm1.2; have o1 := hN; have o2 := hv; (try simp only [hX_sI, hX_sR, hX_sL, hX_sD, hX_sIa, hX_sRa, hV_sI, hV_sR, hV_sL, hV_sD, hV_sIa, hV_sRa, hX_new, hV_new] at o0 o1 o2 ⊢); omega)
  clear hm1
  unfold fJx4a65c_grow_d5877_b10 at hf
  have er := Option.some.inj hf
  subst er
  exact p_aret X rfl (Or.inr ⟨_, rfl⟩) (dcg dc_Jx4a65c_grow_d5877 6 rfl) ⟨rfl, rfl⟩ hcm hsm
noncomputable def fJx4a65c_grow_d5877_b0 (v0 : Nat) (h : PH) : Option (Option Nat × PH) :=
  gd (hK h v0 = 14) (bd (fJx4a65c_grow_92f84 v0 ((hI h 14 v0 2) + (1 : Int32)) h) (fun z2 =>
  fJx4a65c_grow_d5877_b10 z2.1 z2.2))
set_option maxRecDepth 100000 in
theorem mJx4a65c_grow_d5877_b0 {v0 : Nat} {h : PH} {r : (Option Nat × PH)} (hf : fJx4a65c_grow_d5877_b0 v0 h = some r) : lez h (hX r.2) (hV r.2) := by
  unfold fJx4a65c_grow_d5877_b0 at hf
  have hle := lez_rf h
  obtain ⟨hk1, hf⟩ := gd_some hf
  obtain ⟨z2, hz2, hf⟩ := bd_some hf
  have hle := lez_rt (mJx4a65c_grow_92f84 hz2) hle
  exact lez_rt (mJx4a65c_grow_d5877_b10 hf) hle
set_option maxRecDepth 100000 in
theorem wJx4a65c_grow_d5877_b0 {E : PE} {p : Program} {l : Launch} {e : Env} {s : State} {m : MethodId} {args : Array Value} {below : List Frame} {meth : Method} {c : Code} {X0 V0 MC MS uc us : Nat} (X : Cx E p l e (rmv 4 MC MS) s m args below meth c RJx4a65c cJx4a65c_grow_d5877 1 (some (.array (.object "java/lang/Object")))) (hG : Gs E l) (hnm : meth.name = yJx4a65c_grow_d5877.name) {v0 : Nat} {h : PH} {r : (Option Nat × PH)} (hM : MC + X0 = (hX r.2)) (hN : MS + V0 = (hV r.2)) (hu : uc + X0 = hX h) (hv : us + V0 = hV h) (hf : fJx4a65c_grow_d5877_b0 v0 h = some r)  : PW E p l e (rmv 4 MC MS) s m args below meth c 1 uc us (MQ below (QG E (fun v u => v = some (va_rf r.1) ∧ u = r.2)) args s MC MS (pA E)) h 0 [(0, some (.ref v0))] [] := by
  have hm1 : lez h (hX r.2) (hV r.2) := mJx4a65c_grow_d5877_b0 hf
  have hcm : uc ≤ MC := (by have o0 := hm1.1; have o1 := hM; have o2 := hu; (try simp only [hX_sI, hX_sR, hX_sL, hX_sD, hX_sIa, hX_sRa, hV_sI, hV_sR, hV_sL, hV_sD, hV_sIa, hV_sRa, hX_new, hV_new] at o0 o1 o2 ⊢); omega)
  have hsm : us ≤ MS := (by have o0 := hm1.2; have o1 := hN; have o2 := hv; (try simp only [hX_sI, hX_sR, hX_sL, hX_sD, hX_sIa, hX_sRa, hV_sI, hV_sR, hV_sL, hV_sD, hV_sIa, hV_sRa, hX_new, hV_new] at o0 o1 o2 ⊢); omega)
  clear hm1
  unfold fJx4a65c_grow_d5877_b0 at hf
  refine p_aload_n X (dcg dc_Jx4a65c_grow_d5877 0 rfl) rfl rfl ?_
  refine p_aload_n X (dcg dc_Jx4a65c_grow_d5877 1 rfl) rfl rfl ?_
  obtain ⟨hk1, hf⟩ := gd_some hf
  refine p_getI X fl_Jx4a65c_48 rfl (by decide) (dcg dc_Jx4a65c_grow_d5877 2 rfl) hk1 ?_
  refine p_iconst (v := 1) X (dcg dc_Jx4a65c_grow_d5877 3 rfl) (by decide) ?_
  refine p_iadd X (dcg dc_Jx4a65c_grow_d5877 4 rfl) ?_
  obtain ⟨z2, hz2, hf⟩ := bd_some hf
  have hc1 := mJx4a65c_grow_92f84 hz2
  have hm1 : lez _ (hX r.2) (hV r.2) := mJx4a65c_grow_d5877_b10 hf
  refine p_callV (As := [_]) X ml_Jx4a65c_69 (dcg dc_Jx4a65c_grow_d5877 5 rfl) rfl rfl hk1 (wJx4a65c_grow_92f84 hG hz2) (by decide) (room4 (Nat.le_of_ble_eq_true rfl)) (by have o0 := hm1.1; have o1 := hc1.1; have o2 := hM; have o3 := hu; (try simp only [hX_sI, hX_sR, hX_sL, hX_sD, hX_sIa, hX_sRa, hV_sI, hV_sR, hV_sL, hV_sD, hV_sIa, hV_sRa, hX_new, hV_new] at o0 o1 o2 o3 ⊢); omega) (by have o0 := hm1.2; have o1 := hc1.2; have o2 := hN; have o3 := hv; (try simp only [hX_sI, hX_sR, hX_sL, hX_sD, hX_sIa, hX_sRa, hV_sI, hV_sR, hV_sL, hV_sD, hV_sIa, hV_sRa, hX_new, hV_new] at o0 o1 o2 o3 ⊢); omega) ?_
  rintro _ u9 ⟨rfl, e9⟩; have e9 := e9.symm; subst e9
  refine p_pick [] ?_
  exact wJx4a65c_grow_d5877_b10 X hG hnm hM hN (by have o0 := hc1.1; have o1 := hu; (try simp only [hX_sI, hX_sR, hX_sL, hX_sD, hX_sIa, hX_sRa, hV_sI, hV_sR, hV_sL, hV_sD, hV_sIa, hV_sRa, hX_new, hV_new] at o0 o1 ⊢); omega) (by have o0 := hc1.2; have o1 := hv; (try simp only [hX_sI, hX_sR, hX_sL, hX_sD, hX_sIa, hX_sRa, hV_sI, hV_sR, hV_sL, hV_sD, hV_sIa, hV_sRa, hX_new, hV_new] at o0 o1 ⊢); omega) hf 
noncomputable def fJx4a65c_grow_d5877 (v0 : Nat) (h : PH) : Option (Option Nat × PH) :=
  fJx4a65c_grow_d5877_b0 v0 h
set_option maxRecDepth 100000 in
theorem mJx4a65c_grow_d5877 {v0 : Nat} {h : PH} {r : (Option Nat × PH)} (hf : fJx4a65c_grow_d5877 v0 h = some r) : lez h (hX r.2) (hV r.2) := by
  unfold fJx4a65c_grow_d5877 at hf
  have hle := lez_rf h
  exact lez_rt (mJx4a65c_grow_d5877_b0 hf) hle
set_option maxRecDepth 100000 in
theorem wJx4a65c_grow_d5877 {E : PE} {l : Launch} (hG : Gs E l) {v0 : Nat} {h : PH} {r : (Option Nat × PH)} (hf : fJx4a65c_grow_d5877 v0 h = some r) : Ct E l 4 ((hX r.2) - hX h) ((hV r.2) - hV h) yJx4a65c_grow_d5877 cJx4a65c_grow_d5877 1 (some (.array (.object "java/lang/Object"))) [.ref v0] h (fun v u => v = some (va_rf r.1) ∧ u = r.2) := by
  have hmm := mJx4a65c_grow_d5877 hf
  refine ct_of hG (by decide) (Nat.le_of_ble_eq_true rfl) ?_
  intro p e s m args below meth c X hnm
  show PW E p l e _ s m args below meth c _ 0 0 _ h 0 [(0, some (.ref v0))] []
  unfold fJx4a65c_grow_d5877 at hf
  have hM := Nat.sub_add_cancel hmm.1
  have hN := Nat.sub_add_cancel hmm.2
  refine p_pick [0] ?_
  exact wJx4a65c_grow_d5877_b0 X hG hnm hM hN (Nat.zero_add _) (Nat.zero_add _) hf
theorem dc_Jx4a65c_add_72be8 : decs cJx4a65c_add_72be8 [(0, .iload_n 3, 1), (1, .aload_n 2, 1), (2, .arraylength, 1), (3, .if_icmp .ne 8, 3), (6, .aload_n 0, 1), (7, .invokevirtual 129, 3), (10, .astore_n 2, 1), (11, .aload_n 2, 1), (12, .iload_n 3, 1), (13, .aload_n 1, 1), (14, .aastore, 1), (15, .aload_n 0, 1), (16, .iload_n 3, 1), (17, .iconst 1, 1), (18, .iadd, 1), (19, .putfield 48, 3), (22, .return_, 1)] = true := by decide +kernel
noncomputable def fJx4a65c_add_72be8_b11 (v0 : Nat) (v1 : Option Nat) (v2 : Option Nat) (v3 : Int32) (h : PH) : Option PH :=
  gs v2 (fun a4 =>
  gd (hK h a4 = 28 ∧ inb v3 (hN h a4)) (gd (okr h v1 = true) (lt (sR h 28 a4 (Int32.toNatClampNeg v3) v1) (fun h8 =>
  gd (hK h8 v0 = 14) (lt (sI h8 14 v0 2 (v3 + (1 : Int32))) (fun h11 =>
  some (h11)))))))
set_option maxRecDepth 100000 in
theorem mJx4a65c_add_72be8_b11 {v0 : Nat} {v1 : Option Nat} {v2 : Option Nat} {v3 : Int32} {h : PH} {r : PH} (hf : fJx4a65c_add_72be8_b11 v0 v1 v2 v3 h = some r) : lez h (hX r) (hV r) := by
  unfold fJx4a65c_add_72be8_b11 at hf
  have hle := lez_rf h
  obtain ⟨a4, e5, hf⟩ := gs_some hf
  obtain ⟨⟨hk7, hb6⟩, hf⟩ := gd_some hf
  obtain ⟨hg9, hf⟩ := gd_some hf
  obtain ⟨h8, rfl, hf⟩ := lt_some hf
  obtain ⟨hk10, hf⟩ := gd_some hf
  obtain ⟨h11, rfl, hf⟩ := lt_some hf
  have ee := Option.some.inj hf; subst ee; exact hle
set_option maxRecDepth 100000 in
theorem wJx4a65c_add_72be8_b11 {E : PE} {p : Program} {l : Launch} {e : Env} {s : State} {m : MethodId} {args : Array Value} {below : List Frame} {meth : Method} {c : Code} {X0 V0 MC MS uc us : Nat} (X : Cx E p l e (rmv 5 MC MS) s m args below meth c RJx4a65c cJx4a65c_add_72be8 4 (none)) (hG : Gs E l) (hnm : meth.name = yJx4a65c_add_72be8.name) {v0 : Nat} {v1 : Option Nat} {v2 : Option Nat} {v3 : Int32} {h : PH} {r : PH} (hM : MC + X0 = (hX r)) (hN : MS + V0 = (hV r)) (hu : uc + X0 = hX h) (hv : us + V0 = hV h) (hf : fJx4a65c_add_72be8_b11 v0 v1 v2 v3 h = some r)  : PW E p l e (rmv 5 MC MS) s m args below meth c 4 uc us (MQ below (QG E (fun v u => v = none ∧ u = r)) args s MC MS (pA E)) h 11 [(0, some (.ref v0)), (1, some (va_rf v1)), (2, some (va_rf v2)), (3, some (.int v3))] [] := by
  have hm1 : lez h (hX r) (hV r) := mJx4a65c_add_72be8_b11 hf
  have hcm : uc ≤ MC := (by have o0 := hm1.1; have o1 := hM; have o2 := hu; (try simp only [hX_sI, hX_sR, hX_sL, hX_sD, hX_sIa, hX_sRa, hV_sI, hV_sR, hV_sL, hV_sD, hV_sIa, hV_sRa, hX_new, hV_new] at o0 o1 o2 ⊢); omega)
  have hsm : us ≤ MS := (by have o0 := hm1.2; have o1 := hN; have o2 := hv; (try simp only [hX_sI, hX_sR, hX_sL, hX_sD, hX_sIa, hX_sRa, hV_sI, hV_sR, hV_sL, hV_sD, hV_sIa, hV_sRa, hX_new, hV_new] at o0 o1 o2 ⊢); omega)
  clear hm1
  unfold fJx4a65c_add_72be8_b11 at hf
  refine p_aloadq_n X (dcg dc_Jx4a65c_add_72be8 7 rfl) rfl rfl ?_
  refine p_iload_n X (dcg dc_Jx4a65c_add_72be8 8 rfl) rfl rfl ?_
  refine p_aloadq_n X (dcg dc_Jx4a65c_add_72be8 9 rfl) rfl rfl ?_
  obtain ⟨a4, e5, hf⟩ := gs_some hf
  first | subst e5 | (try rw [e5])
  obtain ⟨⟨hk7, hb6⟩, hf⟩ := gd_some hf
  obtain ⟨hg9, hf⟩ := gd_some hf
  refine p_aast28 X (dcg dc_Jx4a65c_add_72be8 10 rfl) hk7 (vp_of_inb hb6) hg9 ?_
  obtain ⟨h8, rfl, hf⟩ := lt_some hf
  refine p_aload_n X (dcg dc_Jx4a65c_add_72be8 11 rfl) rfl rfl ?_
  refine p_iload_n X (dcg dc_Jx4a65c_add_72be8 12 rfl) rfl rfl ?_
  refine p_iconst (v := 1) X (dcg dc_Jx4a65c_add_72be8 13 rfl) (by decide) ?_
  refine p_iadd X (dcg dc_Jx4a65c_add_72be8 14 rfl) ?_
  obtain ⟨hk10, hf⟩ := gd_some hf
  refine p_putI X fl_Jx4a65c_48 rfl (by decide) (fun q hq => by cases hq; rfl) rfl rfl (dcg dc_Jx4a65c_add_72be8 15 rfl) hk10 ?_
  obtain ⟨h11, rfl, hf⟩ := lt_some hf
  have er := Option.some.inj hf
  subst er
  exact p_vret X rfl (dcg dc_Jx4a65c_add_72be8 16 rfl) ⟨rfl, rfl⟩ hcm hsm
noncomputable def fJx4a65c_add_72be8_b10 (v0 : Nat) (v1 : Option Nat) (v3 : Int32) (t0 : Option Nat) (h : PH) : Option PH :=
  fJx4a65c_add_72be8_b11 v0 v1 t0 v3 h
set_option maxRecDepth 100000 in
theorem mJx4a65c_add_72be8_b10 {v0 : Nat} {v1 : Option Nat} {v3 : Int32} {t0 : Option Nat} {h : PH} {r : PH} (hf : fJx4a65c_add_72be8_b10 v0 v1 v3 t0 h = some r) : lez h (hX r) (hV r) := by
  unfold fJx4a65c_add_72be8_b10 at hf
  have hle := lez_rf h
  exact lez_rt (mJx4a65c_add_72be8_b11 hf) hle
set_option maxRecDepth 100000 in
theorem wJx4a65c_add_72be8_b10 {E : PE} {p : Program} {l : Launch} {e : Env} {s : State} {m : MethodId} {args : Array Value} {below : List Frame} {meth : Method} {c : Code} {X0 V0 MC MS uc us : Nat} (X : Cx E p l e (rmv 5 MC MS) s m args below meth c RJx4a65c cJx4a65c_add_72be8 4 (none)) (hG : Gs E l) (hnm : meth.name = yJx4a65c_add_72be8.name) {v0 : Nat} {v1 : Option Nat} {v3 : Int32} {t0 : Option Nat} {h : PH} {r : PH} (hM : MC + X0 = (hX r)) (hN : MS + V0 = (hV r)) (hu : uc + X0 = hX h) (hv : us + V0 = hV h) (hf : fJx4a65c_add_72be8_b10 v0 v1 v3 t0 h = some r)  : PW E p l e (rmv 5 MC MS) s m args below meth c 4 uc us (MQ below (QG E (fun v u => v = none ∧ u = r)) args s MC MS (pA E)) h 10 [(0, some (.ref v0)), (1, some (va_rf v1)), (3, some (.int v3))] [va_rf t0] := by
  have hm1 : lez h (hX r) (hV r) := mJx4a65c_add_72be8_b10 hf
  have hcm : uc ≤ MC := (by have o0 := hm1.1; have o1 := hM; have o2 := hu; (try simp only [hX_sI, hX_sR, hX_sL, hX_sD, hX_sIa, hX_sRa, hV_sI, hV_sR, hV_sL, hV_sD, hV_sIa, hV_sRa, hX_new, hV_new] at o0 o1 o2 ⊢); omega)
  have hsm : us ≤ MS := (by have o0 := hm1.2; have o1 := hN; have o2 := hv; (try simp only [hX_sI, hX_sR, hX_sL, hX_sD, hX_sIa, hX_sRa, hV_sI, hV_sR, hV_sL, hV_sD, hV_sIa, hV_sRa, hX_new, hV_new] at o0 o1 o2 ⊢); omega)
  clear hm1
  unfold fJx4a65c_add_72be8_b10 at hf
  refine p_astoreq_n X (dcg dc_Jx4a65c_add_72be8 6 rfl) rfl (by decide) (nwq (k := 1) rfl) ?_
  refine p_pick [0, 1, 2, 3] ?_
  exact wJx4a65c_add_72be8_b11 X hG hnm hM hN hu hv hf 
noncomputable def fJx4a65c_add_72be8_b0 (v0 : Nat) (v1 : Option Nat) (v2 : Option Nat) (v3 : Int32) (h : PH) : Option PH :=
  gs v2 (fun a1 =>
  gd (hK h a1 = 28) (if (¬ v3 = (nI (hN h a1))) then (fJx4a65c_add_72be8_b11 v0 v1 (some a1) v3 h) else
  gd (hK h v0 = 14) (bd (fJx4a65c_grow_d5877 v0 h) (fun z13 =>
  fJx4a65c_add_72be8_b10 v0 v1 v3 z13.1 z13.2))))
set_option maxRecDepth 100000 in
theorem mJx4a65c_add_72be8_b0 {v0 : Nat} {v1 : Option Nat} {v2 : Option Nat} {v3 : Int32} {h : PH} {r : PH} (hf : fJx4a65c_add_72be8_b0 v0 v1 v2 v3 h = some r) : lez h (hX r) (hV r) := by
  unfold fJx4a65c_add_72be8_b0 at hf
  have hle := lez_rf h
  obtain ⟨a1, e2, hf⟩ := gs_some hf
  obtain ⟨hk3, hf⟩ := gd_some hf
  rcases ite_or hf with ⟨q, hf⟩ | ⟨q, hf⟩
  · have hf := if_t q hf
    exact lez_rt (mJx4a65c_add_72be8_b11 hf) hle
  · have hf := if_f q hf
    obtain ⟨hk12, hf⟩ := gd_some hf
    obtain ⟨z13, hz13, hf⟩ := bd_some hf
    have hle := lez_rt (mJx4a65c_grow_d5877 hz13) hle
    exact lez_rt (mJx4a65c_add_72be8_b10 hf) hle
set_option maxRecDepth 100000 in
theorem wJx4a65c_add_72be8_b0 {E : PE} {p : Program} {l : Launch} {e : Env} {s : State} {m : MethodId} {args : Array Value} {below : List Frame} {meth : Method} {c : Code} {X0 V0 MC MS uc us : Nat} (X : Cx E p l e (rmv 5 MC MS) s m args below meth c RJx4a65c cJx4a65c_add_72be8 4 (none)) (hG : Gs E l) (hnm : meth.name = yJx4a65c_add_72be8.name) {v0 : Nat} {v1 : Option Nat} {v2 : Option Nat} {v3 : Int32} {h : PH} {r : PH} (hM : MC + X0 = (hX r)) (hN : MS + V0 = (hV r)) (hu : uc + X0 = hX h) (hv : us + V0 = hV h) (hf : fJx4a65c_add_72be8_b0 v0 v1 v2 v3 h = some r)  : PW E p l e (rmv 5 MC MS) s m args below meth c 4 uc us (MQ below (QG E (fun v u => v = none ∧ u = r)) args s MC MS (pA E)) h 0 [(0, some (.ref v0)), (1, some (va_rf v1)), (2, some (va_rf v2)), (3, some (.int v3))] [] := by
  have hm1 : lez h (hX r) (hV r) := mJx4a65c_add_72be8_b0 hf
  have hcm : uc ≤ MC := (by have o0 := hm1.1; have o1 := hM; have o2 := hu; (try simp only [hX_sI, hX_sR, hX_sL, hX_sD, hX_sIa, hX_sRa, hV_sI, hV_sR, hV_sL, hV_sD, hV_sIa, hV_sRa, hX_new, hV_new] at o0 o1 o2 ⊢); omega)
  have hsm : us ≤ MS := (by have o0 := hm1.2; have o1 := hN; have o2 := hv; (try simp only [hX_sI, hX_sR, hX_sL, hX_sD, hX_sIa, hX_sRa, hV_sI, hV_sR, hV_sL, hV_sD, hV_sIa, hV_sRa, hX_new, hV_new] at o0 o1 o2 ⊢); omega)
  clear hm1
  unfold fJx4a65c_add_72be8_b0 at hf
  refine p_iload_n X (dcg dc_Jx4a65c_add_72be8 0 rfl) rfl rfl ?_
  refine p_aloadq_n X (dcg dc_Jx4a65c_add_72be8 1 rfl) rfl rfl ?_
  obtain ⟨a1, e2, hf⟩ := gs_some hf
  first | subst e2 | (try rw [e2])
  obtain ⟨hk3, hf⟩ := gd_some hf
  refine p_alen28 X (dcg dc_Jx4a65c_add_72be8 2 rfl) hk3 ?_
  refine p_icmp_ne (tgt := 11) X (dcg dc_Jx4a65c_add_72be8 3 rfl) (by decide) (fun q => ?_) (fun q => ?_)
  · have hf := if_t q hf
    refine p_pick [0, 1, 2, 3] ?_
    exact wJx4a65c_add_72be8_b11 X hG hnm hM hN hu hv hf 
  · have hf := if_f q hf
    refine p_aload_n X (dcg dc_Jx4a65c_add_72be8 4 rfl) rfl rfl ?_
    obtain ⟨hk12, hf⟩ := gd_some hf
    obtain ⟨z13, hz13, hf⟩ := bd_some hf
    have hc1 := mJx4a65c_grow_d5877 hz13
    have hm1 : lez _ (hX r) (hV r) := mJx4a65c_add_72be8_b10 hf
    refine p_callV (As := []) X ml_Jx4a65c_129 (dcg dc_Jx4a65c_add_72be8 5 rfl) rfl rfl hk12 (wJx4a65c_grow_d5877 hG hz13) (by decide) (room4 (Nat.le_of_ble_eq_true rfl)) (by have o0 := hm1.1; have o1 := hc1.1; have o2 := hM; have o3 := hu; (try simp only [hX_sI, hX_sR, hX_sL, hX_sD, hX_sIa, hX_sRa, hV_sI, hV_sR, hV_sL, hV_sD, hV_sIa, hV_sRa, hX_new, hV_new] at o0 o1 o2 o3 ⊢); omega) (by have o0 := hm1.2; have o1 := hc1.2; have o2 := hN; have o3 := hv; (try simp only [hX_sI, hX_sR, hX_sL, hX_sD, hX_sIa, hX_sRa, hV_sI, hV_sR, hV_sL, hV_sD, hV_sIa, hV_sRa, hX_new, hV_new] at o0 o1 o2 o3 ⊢); omega) ?_
    rintro _ u9 ⟨rfl, e9⟩; have e9 := e9.symm; subst e9
    refine p_pick [0, 1, 3] ?_
    exact wJx4a65c_add_72be8_b10 X hG hnm hM hN (by have o0 := hc1.1; have o1 := hu; (try simp only [hX_sI, hX_sR, hX_sL, hX_sD, hX_sIa, hX_sRa, hV_sI, hV_sR, hV_sL, hV_sD, hV_sIa, hV_sRa, hX_new, hV_new] at o0 o1 ⊢); omega) (by have o0 := hc1.2; have o1 := hv; (try simp only [hX_sI, hX_sR, hX_sL, hX_sD, hX_sIa, hX_sRa, hV_sI, hV_sR, hV_sL, hV_sD, hV_sIa, hV_sRa, hX_new, hV_new] at o0 o1 ⊢); omega) hf 
noncomputable def fJx4a65c_add_72be8 (v0 : Nat) (v1 : Option Nat) (v2 : Option Nat) (v3 : Int32) (h : PH) : Option PH :=
  fJx4a65c_add_72be8_b0 v0 v1 v2 v3 h
set_option maxRecDepth 100000 in
theorem mJx4a65c_add_72be8 {v0 : Nat} {v1 : Option Nat} {v2 : Option Nat} {v3 : Int32} {h : PH} {r : PH} (hf : fJx4a65c_add_72be8 v0 v1 v2 v3 h = some r) : lez h (hX r) (hV r) := by
  unfold fJx4a65c_add_72be8 at hf
  have hle := lez_rf h
  exact lez_rt (mJx4a65c_add_72be8_b0 hf) hle
set_option maxRecDepth 100000 in
theorem wJx4a65c_add_72be8 {E : PE} {l : Launch} (hG : Gs E l) {v0 : Nat} {v1 : Option Nat} {v2 : Option Nat} {v3 : Int32} {h : PH} {r : PH} (hf : fJx4a65c_add_72be8 v0 v1 v2 v3 h = some r) : Ct E l 5 ((hX r) - hX h) ((hV r) - hV h) yJx4a65c_add_72be8 cJx4a65c_add_72be8 4 (none) [.ref v0, va_rf v1, va_rf v2, .int v3] h (fun v u => v = none ∧ u = r) := by
  have hmm := mJx4a65c_add_72be8 hf
  refine ct_of hG (by decide) (by simp [lg_sl, cat_rf, cat_r, cat_i, cat_l, cat_d, cat_f]) ?_
  intro p e s m args below meth c X hnm
  rw [show pargs 0 [.ref v0, va_rf v1, va_rf v2, .int v3] = [(0, some (.ref v0)), (1, some (va_rf v1)), (2, some (va_rf v2)), (3, some (.int v3))] from by simp [pargs, cat_rf, cat_r, cat_i, cat_l, cat_d, cat_f]]
  unfold fJx4a65c_add_72be8 at hf
  have hM := Nat.sub_add_cancel hmm.1
  have hN := Nat.sub_add_cancel hmm.2
  refine p_pick [0, 1, 2, 3] ?_
  exact wJx4a65c_add_72be8_b0 X hG hnm hM hN (Nat.zero_add _) (Nat.zero_add _) hf
theorem dc_Jx4a65c_add_9ea2d : decs cJx4a65c_add_9ea2d [(0, .aload_n 0, 1), (1, .dup, 1), (2, .getfield 63, 3), (5, .iconst 1, 1), (6, .iadd, 1), (7, .putfield 63, 3), (10, .aload_n 0, 1), (11, .aload_n 1, 1), (12, .aload_n 0, 1), (13, .getfield 9, 3), (16, .aload_n 0, 1), (17, .getfield 48, 3), (20, .invokevirtual 131, 3), (23, .iconst 1, 1), (24, .ireturn, 1)] = true := by decide +kernel
noncomputable def fJx4a65c_add_9ea2d_b23  (h : PH) : Option (Int32 × PH) :=
  some (((1 : Int32), h))
set_option maxRecDepth 100000 in
theorem mJx4a65c_add_9ea2d_b23  {h : PH} {r : (Int32 × PH)} (hf : fJx4a65c_add_9ea2d_b23  h = some r) : lez h (hX r.2) (hV r.2) := by
  unfold fJx4a65c_add_9ea2d_b23 at hf
  have hle := lez_rf h
  have ee := Option.some.inj hf; subst ee; exact hle
set_option maxRecDepth 100000 in
theorem wJx4a65c_add_9ea2d_b23 {E : PE} {p : Program} {l : Launch} {e : Env} {s : State} {m : MethodId} {args : Array Value} {below : List Frame} {meth : Method} {c : Code} {X0 V0 MC MS uc us : Nat} (X : Cx E p l e (rmv 6 MC MS) s m args below meth c RJx4a65c cJx4a65c_add_9ea2d 2 (some .boolean)) (hG : Gs E l) (hnm : meth.name = yJx4a65c_add_9ea2d.name)  {h : PH} {r : (Int32 × PH)} (hM : MC + X0 = (hX r.2)) (hN : MS + V0 = (hV r.2)) (hu : uc + X0 = hX h) (hv : us + V0 = hV h) (hf : fJx4a65c_add_9ea2d_b23  h = some r)  : PW E p l e (rmv 6 MC MS) s m args below meth c 2 uc us (MQ below (QG E (fun v u => v = some (.int r.1) ∧ u = r.2)) args s MC MS (pA E)) h 23 [] [] := by
  have hm1 : lez h (hX r.2) (hV r.2) := mJx4a65c_add_9ea2d_b23 hf
  have hcm : uc ≤ MC := (by have o0 := hm1.1; have o1 := hM; have o2 := hu; (try simp only [hX_sI, hX_sR, hX_sL, hX_sD, hX_sIa, hX_sRa, hV_sI, hV_sR, hV_sL, hV_sD, hV_sIa, hV_sRa, hX_new, hV_new] at o0 o1 o2 ⊢); omega)
  have hsm : us ≤ MS := (by have o0 := hm1.2; have o1 := hN; have o2 := hv; (try simp only [hX_sI, hX_sR, hX_sL, hX_sD, hX_sIa, hX_sRa, hV_sI, hV_sR, hV_sL, hV_sD, hV_sIa, hV_sRa, hX_new, hV_new] at o0 o1 o2 ⊢); omega)
  clear hm1
  unfold fJx4a65c_add_9ea2d_b23 at hf
  refine p_iconst (v := 1) X (dcg dc_Jx4a65c_add_9ea2d 13 rfl) (by decide) ?_
  have er := Option.some.inj hf
  subst er
  exact p_zret X rfl rfl (dcg dc_Jx4a65c_add_9ea2d 14 rfl) ⟨rfl, rfl⟩ hcm hsm
noncomputable def fJx4a65c_add_9ea2d_b0 (v0 : Nat) (v1 : Option Nat) (h : PH) : Option (Int32 × PH) :=
  gd (hK h v0 = 14) (lt (sI h 14 v0 0 ((hI h 14 v0 0) + (1 : Int32))) (fun h2 =>
  bd (fJx4a65c_add_72be8 v0 v1 (hR h2 14 v0 1) (hI h2 14 v0 2) h2) (fun z3 =>
  fJx4a65c_add_9ea2d_b23  z3)))
set_option maxRecDepth 100000 in
theorem mJx4a65c_add_9ea2d_b0 {v0 : Nat} {v1 : Option Nat} {h : PH} {r : (Int32 × PH)} (hf : fJx4a65c_add_9ea2d_b0 v0 v1 h = some r) : lez h (hX r.2) (hV r.2) := by
  unfold fJx4a65c_add_9ea2d_b0 at hf
  have hle := lez_rf h
  obtain ⟨hk1, hf⟩ := gd_some hf
  obtain ⟨h2, rfl, hf⟩ := lt_some hf
  obtain ⟨z3, hz3, hf⟩ := bd_some hf
  have hle := lez_rt (mJx4a65c_add_72be8 hz3) hle
  exact lez_rt (mJx4a65c_add_9ea2d_b23 hf) hle
set_option maxRecDepth 100000 in
theorem wJx4a65c_add_9ea2d_b0 {E : PE} {p : Program} {l : Launch} {e : Env} {s : State} {m : MethodId} {args : Array Value} {below : List Frame} {meth : Method} {c : Code} {X0 V0 MC MS uc us : Nat} (X : Cx E p l e (rmv 6 MC MS) s m args below meth c RJx4a65c cJx4a65c_add_9ea2d 2 (some .boolean)) (hG : Gs E l) (hnm : meth.name = yJx4a65c_add_9ea2d.name) {v0 : Nat} {v1 : Option Nat} {h : PH} {r : (Int32 × PH)} (hM : MC + X0 = (hX r.2)) (hN : MS + V0 = (hV r.2)) (hu : uc + X0 = hX h) (hv : us + V0 = hV h) (hf : fJx4a65c_add_9ea2d_b0 v0 v1 h = some r)  : PW E p l e (rmv 6 MC MS) s m args below meth c 2 uc us (MQ below (QG E (fun v u => v = some (.int r.1) ∧ u = r.2)) args s MC MS (pA E)) h 0 [(0, some (.ref v0)), (1, some (va_rf v1))] [] := by
  have hm1 : lez h (hX r.2) (hV r.2) := mJx4a65c_add_9ea2d_b0 hf
  have hcm : uc ≤ MC := (by have o0 := hm1.1; have o1 := hM; have o2 := hu; (try simp only [hX_sI, hX_sR, hX_sL, hX_sD, hX_sIa, hX_sRa, hV_sI, hV_sR, hV_sL, hV_sD, hV_sIa, hV_sRa, hX_new, hV_new] at o0 o1 o2 ⊢); omega)
  have hsm : us ≤ MS := (by have o0 := hm1.2; have o1 := hN; have o2 := hv; (try simp only [hX_sI, hX_sR, hX_sL, hX_sD, hX_sIa, hX_sRa, hV_sI, hV_sR, hV_sL, hV_sD, hV_sIa, hV_sRa, hX_new, hV_new] at o0 o1 o2 ⊢); omega)
  clear hm1
  unfold fJx4a65c_add_9ea2d_b0 at hf
  refine p_aload_n X (dcg dc_Jx4a65c_add_9ea2d 0 rfl) rfl rfl ?_
  refine p_dup X (dcg dc_Jx4a65c_add_9ea2d 1 rfl) rfl ?_
  obtain ⟨hk1, hf⟩ := gd_some hf
  refine p_getI X fl_Jx4a65c_63 rfl (by decide) (dcg dc_Jx4a65c_add_9ea2d 2 rfl) hk1 ?_
  refine p_iconst (v := 1) X (dcg dc_Jx4a65c_add_9ea2d 3 rfl) (by decide) ?_
  refine p_iadd X (dcg dc_Jx4a65c_add_9ea2d 4 rfl) ?_
  refine p_putI X fl_Jx4a65c_63 rfl (by decide) (fun q hq => by cases hq; rfl) rfl rfl (dcg dc_Jx4a65c_add_9ea2d 5 rfl) hk1 ?_
  obtain ⟨h2, rfl, hf⟩ := lt_some hf
  refine p_aload_n X (dcg dc_Jx4a65c_add_9ea2d 6 rfl) rfl rfl ?_
  refine p_aloadq_n X (dcg dc_Jx4a65c_add_9ea2d 7 rfl) rfl rfl ?_
  refine p_aload_n X (dcg dc_Jx4a65c_add_9ea2d 8 rfl) rfl rfl ?_
  refine p_getR X fl_Jx4a65c_9 rfl (by decide) (dcg dc_Jx4a65c_add_9ea2d 9 rfl) hk1 ?_
  refine p_aload_n X (dcg dc_Jx4a65c_add_9ea2d 10 rfl) rfl rfl ?_
  refine p_getI X fl_Jx4a65c_48 rfl (by decide) (dcg dc_Jx4a65c_add_9ea2d 11 rfl) hk1 ?_
  obtain ⟨z3, hz3, hf⟩ := bd_some hf
  have hc1 := mJx4a65c_add_72be8 hz3
  have hm1 : lez _ (hX r.2) (hV r.2) := mJx4a65c_add_9ea2d_b23 hf
  refine p_callV (As := [va_rf _, va_rf _, _]) X ml_Jx4a65c_131 (dcg dc_Jx4a65c_add_9ea2d 12 rfl) rfl rfl hk1 (wJx4a65c_add_72be8 hG hz3) (by decide) (room4 (Nat.le_of_ble_eq_true rfl)) (by have o0 := hm1.1; have o1 := hc1.1; have o2 := hM; have o3 := hu; (try simp only [hX_sI, hX_sR, hX_sL, hX_sD, hX_sIa, hX_sRa, hV_sI, hV_sR, hV_sL, hV_sD, hV_sIa, hV_sRa, hX_new, hV_new] at o0 o1 o2 o3 ⊢); omega) (by have o0 := hm1.2; have o1 := hc1.2; have o2 := hN; have o3 := hv; (try simp only [hX_sI, hX_sR, hX_sL, hX_sD, hX_sIa, hX_sRa, hV_sI, hV_sR, hV_sL, hV_sD, hV_sIa, hV_sRa, hX_new, hV_new] at o0 o1 o2 o3 ⊢); omega) ?_
  rintro _ u9 ⟨rfl, e9⟩; have e9 := e9.symm; subst e9
  refine p_pick [] ?_
  exact wJx4a65c_add_9ea2d_b23 X hG hnm hM hN (by have o0 := hc1.1; have o1 := hu; (try simp only [hX_sI, hX_sR, hX_sL, hX_sD, hX_sIa, hX_sRa, hV_sI, hV_sR, hV_sL, hV_sD, hV_sIa, hV_sRa, hX_new, hV_new] at o0 o1 ⊢); omega) (by have o0 := hc1.2; have o1 := hv; (try simp only [hX_sI, hX_sR, hX_sL, hX_sD, hX_sIa, hX_sRa, hV_sI, hV_sR, hV_sL, hV_sD, hV_sIa, hV_sRa, hX_new, hV_new] at o0 o1 ⊢); omega) hf 
noncomputable def fJx4a65c_add_9ea2d (v0 : Nat) (v1 : Option Nat) (h : PH) : Option (Int32 × PH) :=
  fJx4a65c_add_9ea2d_b0 v0 v1 h
set_option maxRecDepth 100000 in
theorem mJx4a65c_add_9ea2d {v0 : Nat} {v1 : Option Nat} {h : PH} {r : (Int32 × PH)} (hf : fJx4a65c_add_9ea2d v0 v1 h = some r) : lez h (hX r.2) (hV r.2) := by
  unfold fJx4a65c_add_9ea2d at hf
  have hle := lez_rf h
  exact lez_rt (mJx4a65c_add_9ea2d_b0 hf) hle
set_option maxRecDepth 100000 in
theorem wJx4a65c_add_9ea2d {E : PE} {l : Launch} (hG : Gs E l) {v0 : Nat} {v1 : Option Nat} {h : PH} {r : (Int32 × PH)} (hf : fJx4a65c_add_9ea2d v0 v1 h = some r) : Ct E l 6 ((hX r.2) - hX h) ((hV r.2) - hV h) yJx4a65c_add_9ea2d cJx4a65c_add_9ea2d 2 (some .boolean) [.ref v0, va_rf v1] h (fun v u => v = some (.int r.1) ∧ u = r.2) := by
  have hmm := mJx4a65c_add_9ea2d hf
  refine ct_of hG (by decide) (by simp [lg_sl, cat_rf, cat_r, cat_i, cat_l, cat_d, cat_f]) ?_
  intro p e s m args below meth c X hnm
  rw [show pargs 0 [.ref v0, va_rf v1] = [(0, some (.ref v0)), (1, some (va_rf v1))] from by simp [pargs, cat_rf, cat_r, cat_i, cat_l, cat_d, cat_f]]
  unfold fJx4a65c_add_9ea2d at hf
  have hM := Nat.sub_add_cancel hmm.1
  have hN := Nat.sub_add_cancel hmm.2
  refine p_pick [0, 1] ?_
  exact wJx4a65c_add_9ea2d_b0 X hG hnm hM hN (Nat.zero_add _) (Nat.zero_add _) hf
theorem dc_X4_gatherSimple : decs cX4_gatherSimple [(0, .iload_n 2, 1), (1, .bipush 40, 2), (3, .if_icmp .le 4, 3), (6, .return_, 1), (7, .aload_n 0, 1), (8, .invokevirtual 63, 3), (11, .ifCond .eq 9, 3), (14, .aload_n 1, 1), (15, .aload_n 0, 1), (16, .invokevirtual 39, 3), (19, .pop, 1), (20, .iconst 0, 1), (21, .istore_n 3, 1), (22, .iload_n 3, 1), (23, .aload_n 0, 1), (24, .getfield 25, 3), (27, .invokevirtual 71, 3), (30, .if_icmp .ge 27, 3), (33, .aload_n 0, 1), (34, .getfield 25, 3), (37, .iload_n 3, 1), (38, .invokevirtual 75, 3), (41, .checkcast 10, 3), (44, .aload_n 1, 1), (45, .iload_n 2, 1), (46, .iconst 1, 1), (47, .iadd, 1), (48, .invokestatic 95, 3), (51, .iinc 3 1, 3), (54, .goto (-32), 3), (57, .return_, 1)] = true := by decide +kernel
noncomputable def fX4_gatherSimple_R_b51 (rc0 : (Option Nat → Option Nat → Int32 → PH → Option PH)) (v0 : Option Nat) (v1 : Option Nat) (v2 : Int32) (v3 : Int32) (h : PH) : Option ((Int32 × PH) ⊕ PH) :=
  some (.inl ((v3 + 1), h))
set_option maxRecDepth 100000 in
theorem mX4_gatherSimple_R_b51 {rc0 : (Option Nat → Option Nat → Int32 → PH → Option PH)} (hm0 : ∀ {a0 : Option Nat} {a1 : Option Nat} {a2 : Int32} {h : PH} {r : PH}, rc0 a0 a1 a2 h = some r → lez h (hX r) (hV r)) {v0 : Option Nat} {v1 : Option Nat} {v2 : Int32} {v3 : Int32} {h : PH} {x : ((Int32 × PH) ⊕ PH)} (hf : fX4_gatherSimple_R_b51 rc0 v0 v1 v2 v3 h = some x) : (∀ w9 : (Int32 × PH), x = .inl w9 → lez h (hX (w9.2)) (hV (w9.2))) ∧ (∀ w9 : PH, x = .inr w9 → lez h (hX w9) (hV w9)) := by
  unfold fX4_gatherSimple_R_b51 at hf
  have hle := lez_rf h
  have ee := Option.some.inj hf; subst ee
  exact ⟨(fun z e => by have ee := Sum.inl.inj (e); subst ee; exact hle), (fun z e => nomatch e)⟩
set_option maxRecDepth 100000 in
theorem wX4_gatherSimple_R_b51 {E : PE} {p : Program} {l : Launch} {e : Env} {s : State} {m : MethodId} {args : Array Value} {below : List Frame} {meth : Method} {c : Code} {X0 V0 MC MS uc us : Nat} (X : Cx E p l e (rmv (7 + nn + 1) MC MS) s m args below meth c RX4 cX4_gatherSimple 4 (none)) (hG : Gs E l) (hnm : meth.name = yX4_gatherSimple.name) {nn : Nat} {rc0 : (Option Nat → Option Nat → Int32 → PH → Option PH)} (hw0 : ∀ {a0 : Option Nat} {a1 : Option Nat} {a2 : Int32} {h : PH} {r : PH}, rc0 a0 a1 a2 h = some r → Ct E l (7 + nn) ((hX r) - hX h) ((hV r) - hV h) yX4_gatherSimple cX4_gatherSimple 4 (none) [va_rf a0, va_rf a1, .int a2] h (fun v u => v = none ∧ u = r)) (hm0 : ∀ {a0 : Option Nat} {a1 : Option Nat} {a2 : Int32} {h : PH} {r : PH}, rc0 a0 a1 a2 h = some r → lez h (hX r) (hV r)) {v0 : Option Nat} {v1 : Option Nat} {v2 : Int32} {v3 : Int32} {h : PH} {r : PH} {x : ((Int32 × PH) ⊕ PH)} (hM : MC + X0 = (hX r)) (hN : MS + V0 = (hV r)) (hu : uc + X0 = hX h) (hv : us + V0 = hV h) (hf : fX4_gatherSimple_R_b51 rc0 v0 v1 v2 v3 h = some x) (k0 : ∀ (z : (Int32 × PH)) (uc us : Nat), x = .inl z → uc + X0 = hX (z.2) → us + V0 = hV (z.2) → PW E p l e (rmv (7 + nn + 1) MC MS) s m args below meth c 4 uc us (MQ below (QG E (fun v u => v = none ∧ u = r)) args s MC MS (pA E)) (z.2) 22 [(0, some (va_rf v0)), (1, some (va_rf v1)), (2, some (.int v2)), (3, some (.int (z.1)))] []) (kl0 : ∀ z : (Int32 × PH), x = .inl z → lez (z.2) (hX r) (hV r)) (kf : ∀ z : PH, x = .inr z → z = r) : PW E p l e (rmv (7 + nn + 1) MC MS) s m args below meth c 4 uc us (MQ below (QG E (fun v u => v = none ∧ u = r)) args s MC MS (pA E)) h 51 [(0, some (va_rf v0)), (1, some (va_rf v1)), (2, some (.int v2)), (3, some (.int v3))] [] := by
  have hm1 : lez h (hX r) (hV r) := by
    obtain ⟨c0, cf⟩ := mX4_gatherSimple_R_b51 hm0 hf
    rcases hxx : x with zz | zz
    · exact lez_tr (c0 zz hxx) (kl0 zz hxx)
    · have ee := kf zz hxx; subst ee; exact cf zz hxx
  have hcm : uc ≤ MC := (by have o0 := hm1.1; have o1 := hM; have o2 := hu; (try simp only [hX_sI, hX_sR, hX_sL, hX_sD, hX_sIa, hX_sRa, hV_sI, hV_sR, hV_sL, hV_sD, hV_sIa, hV_sRa, hX_new, hV_new] at o0 o1 o2 ⊢); omega)
  have hsm : us ≤ MS := (by have o0 := hm1.2; have o1 := hN; have o2 := hv; (try simp only [hX_sI, hX_sR, hX_sL, hX_sD, hX_sIa, hX_sRa, hV_sI, hV_sR, hV_sL, hV_sD, hV_sIa, hV_sRa, hX_new, hV_new] at o0 o1 o2 ⊢); omega)
  clear hm1
  unfold fX4_gatherSimple_R_b51 at hf
  refine p_iinc (v := 1) X (dcg dc_X4_gatherSimple 28 rfl) rfl (by decide) (by decide) rfl ?_
  refine p_goto (tgt := 22) X (dcg dc_X4_gatherSimple 29 rfl) (by decide) ?_
  refine p_pick [0, 1, 2, 3] ?_
  exact k0 _ _ _ (Option.some.inj hf).symm hu hv
noncomputable def fX4_gatherSimple_R_c22 (rc0 : (Option Nat → Option Nat → Int32 → PH → Option PH)) (v0 : Option Nat) (v1 : Option Nat) (v2 : Int32) (v3 : Int32) (h : PH) : Option ((Int32 × PH) ⊕ PH) :=
  gs v0 (fun a5 =>
  gd (hK h a5 = 4) (gs (hR h 4 a5 3) (fun a8 =>
  gd (hK h a8 = 14) (bd (fJx4a65c_size_8abf5 a8 h) (fun z11 =>
  if (z11 ≤ v3) then (mr (some (h))) else
  gs (hR h 4 a5 3) (fun a14 =>
  gd (hK h a14 = 14) (bd (fJx4a65c_get_915e3 a14 v3 h) (fun z17 =>
  gs z17 (fun a18 =>
  gd (hK h a18 = 4) (bd (rc0 (some a18) v1 (v2 + (1 : Int32)) h) (fun z21 =>
  fX4_gatherSimple_R_b51 rc0 (some a5) v1 v2 v3 z21)))))))))))
set_option maxRecDepth 100000 in
theorem mX4_gatherSimple_R_c22 {rc0 : (Option Nat → Option Nat → Int32 → PH → Option PH)} (hm0 : ∀ {a0 : Option Nat} {a1 : Option Nat} {a2 : Int32} {h : PH} {r : PH}, rc0 a0 a1 a2 h = some r → lez h (hX r) (hV r)) {v0 : Option Nat} {v1 : Option Nat} {v2 : Int32} {v3 : Int32} {h : PH} {x : ((Int32 × PH) ⊕ PH)} (hf : fX4_gatherSimple_R_c22 rc0 v0 v1 v2 v3 h = some x) : (∀ w9 : (Int32 × PH), x = .inl w9 → lez h (hX (w9.2)) (hV (w9.2))) ∧ (∀ w9 : PH, x = .inr w9 → lez h (hX w9) (hV w9)) := by
  unfold fX4_gatherSimple_R_c22 at hf
  have hle := lez_rf h
  obtain ⟨a5, e6, hf⟩ := gs_some hf
  obtain ⟨hk7, hf⟩ := gd_some hf
  obtain ⟨a8, e9, hf⟩ := gs_some hf
  obtain ⟨hk10, hf⟩ := gd_some hf
  obtain ⟨z11, hz11, hf⟩ := bd_some hf
  rcases ite_or hf with ⟨q, hf⟩ | ⟨q, hf⟩
  · have hf := if_t q hf
    obtain ⟨y12, hfm, rfl⟩ := mr_some hf; have hf := hfm; clear hfm
    have ee := Option.some.inj hf; subst ee
    exact ⟨(fun z e => nomatch e), (fun z e => by have ee := Sum.inr.inj (e); subst ee; exact hle)⟩
  · have hf := if_f q hf
    obtain ⟨a14, e15, hf⟩ := gs_some hf
    obtain ⟨hk16, hf⟩ := gd_some hf
    obtain ⟨z17, hz17, hf⟩ := bd_some hf
    obtain ⟨a18, e19, hf⟩ := gs_some hf
    obtain ⟨hk20, hf⟩ := gd_some hf
    obtain ⟨z21, hz21, hf⟩ := bd_some hf
    have hle := lez_rt (hm0 hz21) hle
    obtain ⟨c0, cf⟩ := mX4_gatherSimple_R_b51 hm0 hf
    exact ⟨fun z e => lez_rt (c0 z (e)) hle, fun z e => lez_rt (cf z (e)) hle⟩
set_option maxRecDepth 100000 in
theorem wX4_gatherSimple_R_c22 {E : PE} {p : Program} {l : Launch} {e : Env} {s : State} {m : MethodId} {args : Array Value} {below : List Frame} {meth : Method} {c : Code} {X0 V0 MC MS uc us : Nat} (X : Cx E p l e (rmv (7 + nn + 1) MC MS) s m args below meth c RX4 cX4_gatherSimple 4 (none)) (hG : Gs E l) (hnm : meth.name = yX4_gatherSimple.name) {nn : Nat} {rc0 : (Option Nat → Option Nat → Int32 → PH → Option PH)} (hw0 : ∀ {a0 : Option Nat} {a1 : Option Nat} {a2 : Int32} {h : PH} {r : PH}, rc0 a0 a1 a2 h = some r → Ct E l (7 + nn) ((hX r) - hX h) ((hV r) - hV h) yX4_gatherSimple cX4_gatherSimple 4 (none) [va_rf a0, va_rf a1, .int a2] h (fun v u => v = none ∧ u = r)) (hm0 : ∀ {a0 : Option Nat} {a1 : Option Nat} {a2 : Int32} {h : PH} {r : PH}, rc0 a0 a1 a2 h = some r → lez h (hX r) (hV r)) {v0 : Option Nat} {v1 : Option Nat} {v2 : Int32} {v3 : Int32} {h : PH} {r : PH} {x : ((Int32 × PH) ⊕ PH)} (hM : MC + X0 = (hX r)) (hN : MS + V0 = (hV r)) (hu : uc + X0 = hX h) (hv : us + V0 = hV h) (hf : fX4_gatherSimple_R_c22 rc0 v0 v1 v2 v3 h = some x) (k0 : ∀ (z : (Int32 × PH)) (uc us : Nat), x = .inl z → uc + X0 = hX (z.2) → us + V0 = hV (z.2) → PW E p l e (rmv (7 + nn + 1) MC MS) s m args below meth c 4 uc us (MQ below (QG E (fun v u => v = none ∧ u = r)) args s MC MS (pA E)) (z.2) 22 [(0, some (va_rf v0)), (1, some (va_rf v1)), (2, some (.int v2)), (3, some (.int (z.1)))] []) (kl0 : ∀ z : (Int32 × PH), x = .inl z → lez (z.2) (hX r) (hV r)) (kf : ∀ z : PH, x = .inr z → z = r) : PW E p l e (rmv (7 + nn + 1) MC MS) s m args below meth c 4 uc us (MQ below (QG E (fun v u => v = none ∧ u = r)) args s MC MS (pA E)) h 22 [(0, some (va_rf v0)), (1, some (va_rf v1)), (2, some (.int v2)), (3, some (.int v3))] [] := by
  have hm1 : lez h (hX r) (hV r) := by
    obtain ⟨c0, cf⟩ := mX4_gatherSimple_R_c22 hm0 hf
    rcases hxx : x with zz | zz
    · exact lez_tr (c0 zz hxx) (kl0 zz hxx)
    · have ee := kf zz hxx; subst ee; exact cf zz hxx
  have hcm : uc ≤ MC := (by have o0 := hm1.1; have o1 := hM; have o2 := hu; (try simp only [hX_sI, hX_sR, hX_sL, hX_sD, hX_sIa, hX_sRa, hV_sI, hV_sR, hV_sL, hV_sD, hV_sIa, hV_sRa, hX_new, hV_new] at o0 o1 o2 ⊢); omega)
  have hsm : us ≤ MS := (by have o0 := hm1.2; have o1 := hN; have o2 := hv; (try simp only [hX_sI, hX_sR, hX_sL, hX_sD, hX_sIa, hX_sRa, hV_sI, hV_sR, hV_sL, hV_sD, hV_sIa, hV_sRa, hX_new, hV_new] at o0 o1 o2 ⊢); omega)
  clear hm1
  unfold fX4_gatherSimple_R_c22 at hf
  refine p_iload_n X (dcg dc_X4_gatherSimple 13 rfl) rfl rfl ?_
  refine p_aloadq_n X (dcg dc_X4_gatherSimple 14 rfl) rfl rfl ?_
  obtain ⟨a5, e6, hf⟩ := gs_some hf
  first | subst e6 | (try rw [e6])
  obtain ⟨hk7, hf⟩ := gd_some hf
  refine p_getR X fl_X4_25 rfl (by decide) (dcg dc_X4_gatherSimple 15 rfl) hk7 ?_
  obtain ⟨a8, e9, hf⟩ := gs_some hf
  first | subst e9 | (try rw [e9])
  obtain ⟨hk10, hf⟩ := gd_some hf
  obtain ⟨z11, hz11, hf⟩ := bd_some hf
  refine p_callV (As := []) X ml_X4_71 (dcg dc_X4_gatherSimple 16 rfl) rfl rfl hk10 (wJx4a65c_size_8abf5 hG hz11) (by omega) (room4 (Nat.le_of_ble_eq_true rfl)) hcm hsm ?_
  rintro _ u9 ⟨rfl, e9⟩; have e9 := e9.symm; subst e9
  refine p_icmp_ge (tgt := 57) X (dcg dc_X4_gatherSimple 17 rfl) (by decide) (fun q => ?_) (fun q => ?_)
  · have hf := if_t q hf
    obtain ⟨y12, hf, hy13⟩ := mr_some hf
    have hy13f := kf y12 hy13
    subst hy13f
    have er := Option.some.inj hf
    subst er
    exact p_vret X rfl (dcg dc_X4_gatherSimple 30 rfl) ⟨rfl, rfl⟩ hcm hsm
  · have hf := if_f q hf
    refine p_aload_n X (dcg dc_X4_gatherSimple 18 rfl) rfl rfl ?_
    refine p_getR X fl_X4_25 rfl (by decide) (dcg dc_X4_gatherSimple 19 rfl) hk7 ?_
    refine p_iload_n X (dcg dc_X4_gatherSimple 20 rfl) rfl rfl ?_
    obtain ⟨a14, e15, hf⟩ := gs_some hf
    first | subst e15 | (try rw [e15])
    obtain ⟨hk16, hf⟩ := gd_some hf
    obtain ⟨z17, hz17, hf⟩ := bd_some hf
    refine p_callV (As := [_]) X ml_X4_75 (dcg dc_X4_gatherSimple 21 rfl) rfl rfl hk16 (wJx4a65c_get_915e3 hG hz17) (by omega) (room4 (Nat.le_of_ble_eq_true rfl)) hcm hsm ?_
    rintro _ u9 ⟨rfl, e9⟩; have e9 := e9.symm; subst e9
    obtain ⟨a18, e19, hf⟩ := gs_some hf
    first | subst e19 | (try rw [e19])
    obtain ⟨hk20, hf⟩ := gd_some hf
    refine p_cast (q := (RX4, TX4, 4)) X rfl tw_971 (dcg dc_X4_gatherSimple 22 rfl) hk20 ?_
    refine p_aloadq_n X (dcg dc_X4_gatherSimple 23 rfl) rfl rfl ?_
    refine p_iload_n X (dcg dc_X4_gatherSimple 24 rfl) rfl rfl ?_
    refine p_iconst (v := 1) X (dcg dc_X4_gatherSimple 25 rfl) (by decide) ?_
    refine p_iadd X (dcg dc_X4_gatherSimple 26 rfl) ?_
    obtain ⟨z21, hz21, hf⟩ := bd_some hf
    have hc1 := hm0 hz21
    have hm1 : lez _ (hX r) (hV r) := by
      obtain ⟨c0, cf⟩ := mX4_gatherSimple_R_b51 hm0 hf
      rcases hxx : x with zz | zz
      · exact lez_tr (c0 zz hxx) (kl0 zz hxx)
      · have ee := kf zz hxx; subst ee; exact cf zz hxx
    refine p_callS (As := [va_rf (some _), va_rf _, _]) X ml_X4_95 (dcg dc_X4_gatherSimple 27 rfl) rfl rfl  (hw0 hz21) (by omega) (room4 (Nat.le_of_ble_eq_true rfl)) (by have o0 := hm1.1; have o1 := hc1.1; have o2 := hM; have o3 := hu; (try simp only [hX_sI, hX_sR, hX_sL, hX_sD, hX_sIa, hX_sRa, hV_sI, hV_sR, hV_sL, hV_sD, hV_sIa, hV_sRa, hX_new, hV_new] at o0 o1 o2 o3 ⊢); omega) (by have o0 := hm1.2; have o1 := hc1.2; have o2 := hN; have o3 := hv; (try simp only [hX_sI, hX_sR, hX_sL, hX_sD, hX_sIa, hX_sRa, hV_sI, hV_sR, hV_sL, hV_sD, hV_sIa, hV_sRa, hX_new, hV_new] at o0 o1 o2 o3 ⊢); omega) ?_
    rintro _ u9 ⟨rfl, e9⟩; have e9 := e9.symm; subst e9
    refine p_pick [0, 1, 2, 3] ?_
    exact wX4_gatherSimple_R_b51 X hG hnm hw0 hm0 hM hN (by have o0 := hc1.1; have o1 := hu; (try simp only [hX_sI, hX_sR, hX_sL, hX_sD, hX_sIa, hX_sRa, hV_sI, hV_sR, hV_sL, hV_sD, hV_sIa, hV_sRa, hX_new, hV_new] at o0 o1 ⊢); omega) (by have o0 := hc1.2; have o1 := hv; (try simp only [hX_sI, hX_sR, hX_sL, hX_sD, hX_sIa, hX_sRa, hV_sI, hV_sR, hV_sL, hV_sD, hV_sIa, hV_sRa, hX_new, hV_new] at o0 o1 ⊢); omega) hf k0 kl0 kf
noncomputable def fX4_gatherSimple_R_l22 (rc0 : (Option Nat → Option Nat → Int32 → PH → Option PH)) (v0 : Option Nat) (v1 : Option Nat) (v2 : Int32) (v3 : Int32) (h : PH) : Option PH := wh (fun z : (Int32 × PH) => fX4_gatherSimple_R_c22 rc0 v0 v1 v2 (z.1) (z.2)) (v3, h)
set_option maxRecDepth 100000 in
theorem mX4_gatherSimple_R_l22 {rc0 : (Option Nat → Option Nat → Int32 → PH → Option PH)} (hm0 : ∀ {a0 : Option Nat} {a1 : Option Nat} {a2 : Int32} {h : PH} {r : PH}, rc0 a0 a1 a2 h = some r → lez h (hX r) (hV r)) {v0 : Option Nat} {v1 : Option Nat} {v2 : Int32} {v3 : Int32} {h : PH} {r : PH} (hf : fX4_gatherSimple_R_l22 rc0 v0 v1 v2 v3 h = some r) : lez h (hX r) (hV r) := by
  unfold fX4_gatherSimple_R_l22 at hf
  refine wh_ind (P := fun z => lez (z.2) (hX r) (hV r)) (fun z x0 hs i1 i2 => ?_) _ hf
  obtain ⟨c0, cf⟩ := mX4_gatherSimple_R_c22 (v0 := v0) (v1 := v1) (v2 := v2) (v3 := z.1) (h := z.2) hm0 hs
  rcases hxx : x0 with zz | zz
  · exact lez_tr (c0 zz hxx) (i1 zz hxx)
  · have ee := i2 zz hxx; subst ee; exact cf zz hxx
set_option maxRecDepth 100000 in
theorem wX4_gatherSimple_R_l22 {E : PE} {p : Program} {l : Launch} {e : Env} {s : State} {m : MethodId} {args : Array Value} {below : List Frame} {meth : Method} {c : Code} {X0 V0 MC MS uc us : Nat} (X : Cx E p l e (rmv (7 + nn + 1) MC MS) s m args below meth c RX4 cX4_gatherSimple 4 (none)) (hG : Gs E l) (hnm : meth.name = yX4_gatherSimple.name) {nn : Nat} {rc0 : (Option Nat → Option Nat → Int32 → PH → Option PH)} (hw0 : ∀ {a0 : Option Nat} {a1 : Option Nat} {a2 : Int32} {h : PH} {r : PH}, rc0 a0 a1 a2 h = some r → Ct E l (7 + nn) ((hX r) - hX h) ((hV r) - hV h) yX4_gatherSimple cX4_gatherSimple 4 (none) [va_rf a0, va_rf a1, .int a2] h (fun v u => v = none ∧ u = r)) (hm0 : ∀ {a0 : Option Nat} {a1 : Option Nat} {a2 : Int32} {h : PH} {r : PH}, rc0 a0 a1 a2 h = some r → lez h (hX r) (hV r)) {v0 : Option Nat} {v1 : Option Nat} {v2 : Int32} {v3 : Int32} {h : PH} {r : PH} (hM : MC + X0 = (hX r)) (hN : MS + V0 = (hV r)) (hu : uc + X0 = hX h) (hv : us + V0 = hV h) (hf : fX4_gatherSimple_R_l22 rc0 v0 v1 v2 v3 h = some r)  : PW E p l e (rmv (7 + nn + 1) MC MS) s m args below meth c 4 uc us (MQ below (QG E (fun v u => v = none ∧ u = r)) args s MC MS (pA E)) h 22 [(0, some (va_rf v0)), (1, some (va_rf v1)), (2, some (.int v2)), (3, some (.int v3))] [] := by
  unfold fX4_gatherSimple_R_l22 at hf
  refine wh_ind2 (P := fun z => ∀ uc us : Nat, uc + X0 = hX (z.2) → us + V0 = hV (z.2) → PW E p l e (rmv (7 + nn + 1) MC MS) s m args below meth c 4 uc us (MQ below (QG E (fun v u => v = none ∧ u = r)) args s MC MS (pA E)) (z.2) 22 [(0, some (va_rf v0)), (1, some (va_rf v1)), (2, some (.int v2)), (3, some (.int (z.1)))] []) (fun z x0 hs i1 i2 uc us hu hv => ?_) _ hf uc us hu hv
  exact wX4_gatherSimple_R_c22 (r := r) (v0 := v0) (v1 := v1) (v2 := v2) (v3 := z.1) (h := z.2) X hG hnm hw0 hm0 hM hN hu hv hs (fun z1 uc1 us1 e1 e2 e3 => (i1 z1 e1).1 uc1 us1 e2 e3) (fun z1 e1 => mX4_gatherSimple_R_l22 (v0 := v0) (v1 := v1) (v2 := v2) (v3 := z1.1) (h := z1.2) hm0 (by unfold fX4_gatherSimple_R_l22; exact (i1 z1 e1).2))  i2
noncomputable def fX4_gatherSimple_R_b20 (rc0 : (Option Nat → Option Nat → Int32 → PH → Option PH)) (v0 : Option Nat) (v1 : Option Nat) (v2 : Int32) (h : PH) : Option PH :=
  fX4_gatherSimple_R_l22 rc0 v0 v1 v2 (0 : Int32) h
set_option maxRecDepth 100000 in
theorem mX4_gatherSimple_R_b20 {rc0 : (Option Nat → Option Nat → Int32 → PH → Option PH)} (hm0 : ∀ {a0 : Option Nat} {a1 : Option Nat} {a2 : Int32} {h : PH} {r : PH}, rc0 a0 a1 a2 h = some r → lez h (hX r) (hV r)) {v0 : Option Nat} {v1 : Option Nat} {v2 : Int32} {h : PH} {r : PH} (hf : fX4_gatherSimple_R_b20 rc0 v0 v1 v2 h = some r) : lez h (hX r) (hV r) := by
  unfold fX4_gatherSimple_R_b20 at hf
  have hle := lez_rf h
  exact lez_rt (mX4_gatherSimple_R_l22 hm0 hf) hle
set_option maxRecDepth 100000 in
theorem wX4_gatherSimple_R_b20 {E : PE} {p : Program} {l : Launch} {e : Env} {s : State} {m : MethodId} {args : Array Value} {below : List Frame} {meth : Method} {c : Code} {X0 V0 MC MS uc us : Nat} (X : Cx E p l e (rmv (7 + nn + 1) MC MS) s m args below meth c RX4 cX4_gatherSimple 4 (none)) (hG : Gs E l) (hnm : meth.name = yX4_gatherSimple.name) {nn : Nat} {rc0 : (Option Nat → Option Nat → Int32 → PH → Option PH)} (hw0 : ∀ {a0 : Option Nat} {a1 : Option Nat} {a2 : Int32} {h : PH} {r : PH}, rc0 a0 a1 a2 h = some r → Ct E l (7 + nn) ((hX r) - hX h) ((hV r) - hV h) yX4_gatherSimple cX4_gatherSimple 4 (none) [va_rf a0, va_rf a1, .int a2] h (fun v u => v = none ∧ u = r)) (hm0 : ∀ {a0 : Option Nat} {a1 : Option Nat} {a2 : Int32} {h : PH} {r : PH}, rc0 a0 a1 a2 h = some r → lez h (hX r) (hV r)) {v0 : Option Nat} {v1 : Option Nat} {v2 : Int32} {h : PH} {r : PH} (hM : MC + X0 = (hX r)) (hN : MS + V0 = (hV r)) (hu : uc + X0 = hX h) (hv : us + V0 = hV h) (hf : fX4_gatherSimple_R_b20 rc0 v0 v1 v2 h = some r)  : PW E p l e (rmv (7 + nn + 1) MC MS) s m args below meth c 4 uc us (MQ below (QG E (fun v u => v = none ∧ u = r)) args s MC MS (pA E)) h 20 [(0, some (va_rf v0)), (1, some (va_rf v1)), (2, some (.int v2))] [] := by
  have hm1 : lez h (hX r) (hV r) := mX4_gatherSimple_R_b20 hm0 hf
  have hcm : uc ≤ MC := (by have o0 := hm1.1; have o1 := hM; have o2 := hu; (try simp only [hX_sI, hX_sR, hX_sL, hX_sD, hX_sIa, hX_sRa, hV_sI, hV_sR, hV_sL, hV_sD, hV_sIa, hV_sRa, hX_new, hV_new] at o0 o1 o2 ⊢); omega)
  have hsm : us ≤ MS := (by have o0 := hm1.2; have o1 := hN; have o2 := hv; (try simp only [hX_sI, hX_sR, hX_sL, hX_sD, hX_sIa, hX_sRa, hV_sI, hV_sR, hV_sL, hV_sD, hV_sIa, hV_sRa, hX_new, hV_new] at o0 o1 o2 ⊢); omega)
  clear hm1
  unfold fX4_gatherSimple_R_b20 at hf
  refine p_iconst (v := 0) X (dcg dc_X4_gatherSimple 11 rfl) (by decide) ?_
  refine p_istore_n X (dcg dc_X4_gatherSimple 12 rfl) rfl (by decide) rfl ?_
  refine p_pick [0, 1, 2, 3] ?_
  exact wX4_gatherSimple_R_l22 X hG hnm hw0 hm0 hM hN hu hv hf 
noncomputable def fX4_gatherSimple_R_b19 (rc0 : (Option Nat → Option Nat → Int32 → PH → Option PH)) (v0 : Option Nat) (v1 : Option Nat) (v2 : Int32) (t0 : Int32) (h : PH) : Option PH :=
  fX4_gatherSimple_R_b20 rc0 v0 v1 v2 h
set_option maxRecDepth 100000 in
theorem mX4_gatherSimple_R_b19 {rc0 : (Option Nat → Option Nat → Int32 → PH → Option PH)} (hm0 : ∀ {a0 : Option Nat} {a1 : Option Nat} {a2 : Int32} {h : PH} {r : PH}, rc0 a0 a1 a2 h = some r → lez h (hX r) (hV r)) {v0 : Option Nat} {v1 : Option Nat} {v2 : Int32} {t0 : Int32} {h : PH} {r : PH} (hf : fX4_gatherSimple_R_b19 rc0 v0 v1 v2 t0 h = some r) : lez h (hX r) (hV r) := by
  unfold fX4_gatherSimple_R_b19 at hf
  have hle := lez_rf h
  exact lez_rt (mX4_gatherSimple_R_b20 hm0 hf) hle
set_option maxRecDepth 100000 in
theorem wX4_gatherSimple_R_b19 {E : PE} {p : Program} {l : Launch} {e : Env} {s : State} {m : MethodId} {args : Array Value} {below : List Frame} {meth : Method} {c : Code} {X0 V0 MC MS uc us : Nat} (X : Cx E p l e (rmv (7 + nn + 1) MC MS) s m args below meth c RX4 cX4_gatherSimple 4 (none)) (hG : Gs E l) (hnm : meth.name = yX4_gatherSimple.name) {nn : Nat} {rc0 : (Option Nat → Option Nat → Int32 → PH → Option PH)} (hw0 : ∀ {a0 : Option Nat} {a1 : Option Nat} {a2 : Int32} {h : PH} {r : PH}, rc0 a0 a1 a2 h = some r → Ct E l (7 + nn) ((hX r) - hX h) ((hV r) - hV h) yX4_gatherSimple cX4_gatherSimple 4 (none) [va_rf a0, va_rf a1, .int a2] h (fun v u => v = none ∧ u = r)) (hm0 : ∀ {a0 : Option Nat} {a1 : Option Nat} {a2 : Int32} {h : PH} {r : PH}, rc0 a0 a1 a2 h = some r → lez h (hX r) (hV r)) {v0 : Option Nat} {v1 : Option Nat} {v2 : Int32} {t0 : Int32} {h : PH} {r : PH} (hM : MC + X0 = (hX r)) (hN : MS + V0 = (hV r)) (hu : uc + X0 = hX h) (hv : us + V0 = hV h) (hf : fX4_gatherSimple_R_b19 rc0 v0 v1 v2 t0 h = some r)  : PW E p l e (rmv (7 + nn + 1) MC MS) s m args below meth c 4 uc us (MQ below (QG E (fun v u => v = none ∧ u = r)) args s MC MS (pA E)) h 19 [(0, some (va_rf v0)), (1, some (va_rf v1)), (2, some (.int v2))] [.int t0] := by
  have hm1 : lez h (hX r) (hV r) := mX4_gatherSimple_R_b19 hm0 hf
  have hcm : uc ≤ MC := (by have o0 := hm1.1; have o1 := hM; have o2 := hu; (try simp only [hX_sI, hX_sR, hX_sL, hX_sD, hX_sIa, hX_sRa, hV_sI, hV_sR, hV_sL, hV_sD, hV_sIa, hV_sRa, hX_new, hV_new] at o0 o1 o2 ⊢); omega)
  have hsm : us ≤ MS := (by have o0 := hm1.2; have o1 := hN; have o2 := hv; (try simp only [hX_sI, hX_sR, hX_sL, hX_sD, hX_sIa, hX_sRa, hV_sI, hV_sR, hV_sL, hV_sD, hV_sIa, hV_sRa, hX_new, hV_new] at o0 o1 o2 ⊢); omega)
  clear hm1
  unfold fX4_gatherSimple_R_b19 at hf
  refine p_pop X (dcg dc_X4_gatherSimple 10 rfl) rfl ?_
  refine p_pick [0, 1, 2] ?_
  exact wX4_gatherSimple_R_b20 X hG hnm hw0 hm0 hM hN hu hv hf 
noncomputable def fX4_gatherSimple_R_b0 (rc0 : (Option Nat → Option Nat → Int32 → PH → Option PH)) (v0 : Option Nat) (v1 : Option Nat) (v2 : Int32) (h : PH) : Option PH :=
  if (v2 ≤ (40 : Int32)) then (gs v0 (fun a1 =>
  gd (hK h a1 = 4) (bd (fX4_isSimple a1 h) (fun z4 =>
  if (z4 = 0) then (fX4_gatherSimple_R_b20 rc0 (some a1) v1 v2 h) else
  gs v1 (fun a22 =>
  gd (hK h a22 = 14) (bd (fJx4a65c_add_9ea2d a22 (some a1) h) (fun z25 =>
  fX4_gatherSimple_R_b19 rc0 (some a1) (some a22) v2 z25.1 z25.2))))))) else
  some (h)
set_option maxRecDepth 100000 in
theorem mX4_gatherSimple_R_b0 {rc0 : (Option Nat → Option Nat → Int32 → PH → Option PH)} (hm0 : ∀ {a0 : Option Nat} {a1 : Option Nat} {a2 : Int32} {h : PH} {r : PH}, rc0 a0 a1 a2 h = some r → lez h (hX r) (hV r)) {v0 : Option Nat} {v1 : Option Nat} {v2 : Int32} {h : PH} {r : PH} (hf : fX4_gatherSimple_R_b0 rc0 v0 v1 v2 h = some r) : lez h (hX r) (hV r) := by
  unfold fX4_gatherSimple_R_b0 at hf
  have hle := lez_rf h
  rcases ite_or hf with ⟨q, hf⟩ | ⟨q, hf⟩
  · have hf := if_t q hf
    obtain ⟨a1, e2, hf⟩ := gs_some hf
    obtain ⟨hk3, hf⟩ := gd_some hf
    obtain ⟨z4, hz4, hf⟩ := bd_some hf
    rcases ite_or hf with ⟨q, hf⟩ | ⟨q, hf⟩
    · have hf := if_t q hf
      exact lez_rt (mX4_gatherSimple_R_b20 hm0 hf) hle
    · have hf := if_f q hf
      obtain ⟨a22, e23, hf⟩ := gs_some hf
      obtain ⟨hk24, hf⟩ := gd_some hf
      obtain ⟨z25, hz25, hf⟩ := bd_some hf
      have hle := lez_rt (mJx4a65c_add_9ea2d hz25) hle
      exact lez_rt (mX4_gatherSimple_R_b19 hm0 hf) hle
  · have hf := if_f q hf
    have ee := Option.some.inj hf; subst ee; exact hle
set_option maxRecDepth 100000 in
theorem wX4_gatherSimple_R_b0 {E : PE} {p : Program} {l : Launch} {e : Env} {s : State} {m : MethodId} {args : Array Value} {below : List Frame} {meth : Method} {c : Code} {X0 V0 MC MS uc us : Nat} (X : Cx E p l e (rmv (7 + nn + 1) MC MS) s m args below meth c RX4 cX4_gatherSimple 4 (none)) (hG : Gs E l) (hnm : meth.name = yX4_gatherSimple.name) {nn : Nat} {rc0 : (Option Nat → Option Nat → Int32 → PH → Option PH)} (hw0 : ∀ {a0 : Option Nat} {a1 : Option Nat} {a2 : Int32} {h : PH} {r : PH}, rc0 a0 a1 a2 h = some r → Ct E l (7 + nn) ((hX r) - hX h) ((hV r) - hV h) yX4_gatherSimple cX4_gatherSimple 4 (none) [va_rf a0, va_rf a1, .int a2] h (fun v u => v = none ∧ u = r)) (hm0 : ∀ {a0 : Option Nat} {a1 : Option Nat} {a2 : Int32} {h : PH} {r : PH}, rc0 a0 a1 a2 h = some r → lez h (hX r) (hV r)) {v0 : Option Nat} {v1 : Option Nat} {v2 : Int32} {h : PH} {r : PH} (hM : MC + X0 = (hX r)) (hN : MS + V0 = (hV r)) (hu : uc + X0 = hX h) (hv : us + V0 = hV h) (hf : fX4_gatherSimple_R_b0 rc0 v0 v1 v2 h = some r)  : PW E p l e (rmv (7 + nn + 1) MC MS) s m args below meth c 4 uc us (MQ below (QG E (fun v u => v = none ∧ u = r)) args s MC MS (pA E)) h 0 [(0, some (va_rf v0)), (1, some (va_rf v1)), (2, some (.int v2))] [] := by
  have hm1 : lez h (hX r) (hV r) := mX4_gatherSimple_R_b0 hm0 hf
  have hcm : uc ≤ MC := (by have o0 := hm1.1; have o1 := hM; have o2 := hu; (try simp only [hX_sI, hX_sR, hX_sL, hX_sD, hX_sIa, hX_sRa, hV_sI, hV_sR, hV_sL, hV_sD, hV_sIa, hV_sRa, hX_new, hV_new] at o0 o1 o2 ⊢); omega)
  have hsm : us ≤ MS := (by have o0 := hm1.2; have o1 := hN; have o2 := hv; (try simp only [hX_sI, hX_sR, hX_sL, hX_sD, hX_sIa, hX_sRa, hV_sI, hV_sR, hV_sL, hV_sD, hV_sIa, hV_sRa, hX_new, hV_new] at o0 o1 o2 ⊢); omega)
  clear hm1
  unfold fX4_gatherSimple_R_b0 at hf
  refine p_iload_n X (dcg dc_X4_gatherSimple 0 rfl) rfl rfl ?_
  refine p_bipush (v := 40) X (dcg dc_X4_gatherSimple 1 rfl) (by decide) ?_
  refine p_icmp_le (tgt := 7) X (dcg dc_X4_gatherSimple 2 rfl) (by decide) (fun q => ?_) (fun q => ?_)
  · have hf := if_t q hf
    refine p_aloadq_n X (dcg dc_X4_gatherSimple 4 rfl) rfl rfl ?_
    obtain ⟨a1, e2, hf⟩ := gs_some hf
    first | subst e2 | (try rw [e2])
    obtain ⟨hk3, hf⟩ := gd_some hf
    obtain ⟨z4, hz4, hf⟩ := bd_some hf
    refine p_callV (As := []) X ml_X4_63 (dcg dc_X4_gatherSimple 5 rfl) rfl rfl hk3 (wX4_isSimple hG hz4) (by omega) (room4 (Nat.le_of_ble_eq_true rfl)) hcm hsm ?_
    rintro _ u9 ⟨rfl, e9⟩; have e9 := e9.symm; subst e9
    refine p_if_eq (tgt := 20) X (dcg dc_X4_gatherSimple 6 rfl) (by decide) (fun q => ?_) (fun q => ?_)
    · have hf := if_t q hf
      refine p_pick [0, 1, 2] ?_
      exact wX4_gatherSimple_R_b20 X hG hnm hw0 hm0 hM hN hu hv hf 
    · have hf := if_f q hf
      refine p_aloadq_n X (dcg dc_X4_gatherSimple 7 rfl) rfl rfl ?_
      refine p_aload_n X (dcg dc_X4_gatherSimple 8 rfl) rfl rfl ?_
      obtain ⟨a22, e23, hf⟩ := gs_some hf
      first | subst e23 | (try rw [e23])
      obtain ⟨hk24, hf⟩ := gd_some hf
      obtain ⟨z25, hz25, hf⟩ := bd_some hf
      have hc1 := mJx4a65c_add_9ea2d hz25
      have hm1 : lez _ (hX r) (hV r) := mX4_gatherSimple_R_b19 hm0 hf
      refine p_callV (As := [va_rf (some _)]) X ml_X4_39 (dcg dc_X4_gatherSimple 9 rfl) rfl rfl hk24 (wJx4a65c_add_9ea2d hG hz25) (by omega) (room4 (Nat.le_of_ble_eq_true rfl)) (by have o0 := hm1.1; have o1 := hc1.1; have o2 := hM; have o3 := hu; (try simp only [hX_sI, hX_sR, hX_sL, hX_sD, hX_sIa, hX_sRa, hV_sI, hV_sR, hV_sL, hV_sD, hV_sIa, hV_sRa, hX_new, hV_new] at o0 o1 o2 o3 ⊢); omega) (by have o0 := hm1.2; have o1 := hc1.2; have o2 := hN; have o3 := hv; (try simp only [hX_sI, hX_sR, hX_sL, hX_sD, hX_sIa, hX_sRa, hV_sI, hV_sR, hV_sL, hV_sD, hV_sIa, hV_sRa, hX_new, hV_new] at o0 o1 o2 o3 ⊢); omega) ?_
      rintro _ u9 ⟨rfl, e9⟩; have e9 := e9.symm; subst e9
      refine p_pick [0, 1, 2] ?_
      exact wX4_gatherSimple_R_b19 X hG hnm hw0 hm0 hM hN (by have o0 := hc1.1; have o1 := hu; (try simp only [hX_sI, hX_sR, hX_sL, hX_sD, hX_sIa, hX_sRa, hV_sI, hV_sR, hV_sL, hV_sD, hV_sIa, hV_sRa, hX_new, hV_new] at o0 o1 ⊢); omega) (by have o0 := hc1.2; have o1 := hv; (try simp only [hX_sI, hX_sR, hX_sL, hX_sD, hX_sIa, hX_sRa, hV_sI, hV_sR, hV_sL, hV_sD, hV_sIa, hV_sRa, hX_new, hV_new] at o0 o1 ⊢); omega) hf 
  · have hf := if_f q hf
    have er := Option.some.inj hf
    subst er
    exact p_vret X rfl (dcg dc_X4_gatherSimple 3 rfl) ⟨rfl, rfl⟩ hcm hsm
noncomputable def fX4_gatherSimple_R (rc0 : (Option Nat → Option Nat → Int32 → PH → Option PH)) (v0 : Option Nat) (v1 : Option Nat) (v2 : Int32) (h : PH) : Option PH :=
  fX4_gatherSimple_R_b0 rc0 v0 v1 v2 h
set_option maxRecDepth 100000 in
theorem mX4_gatherSimple_R {rc0 : (Option Nat → Option Nat → Int32 → PH → Option PH)} (hm0 : ∀ {a0 : Option Nat} {a1 : Option Nat} {a2 : Int32} {h : PH} {r : PH}, rc0 a0 a1 a2 h = some r → lez h (hX r) (hV r)) {v0 : Option Nat} {v1 : Option Nat} {v2 : Int32} {h : PH} {r : PH} (hf : fX4_gatherSimple_R rc0 v0 v1 v2 h = some r) : lez h (hX r) (hV r) := by
  unfold fX4_gatherSimple_R at hf
  have hle := lez_rf h
  exact lez_rt (mX4_gatherSimple_R_b0 hm0 hf) hle
set_option maxRecDepth 100000 in
theorem wX4_gatherSimple_R {E : PE} {l : Launch} (hG : Gs E l) {nn : Nat} {rc0 : (Option Nat → Option Nat → Int32 → PH → Option PH)} (hw0 : ∀ {a0 : Option Nat} {a1 : Option Nat} {a2 : Int32} {h : PH} {r : PH}, rc0 a0 a1 a2 h = some r → Ct E l (7 + nn) ((hX r) - hX h) ((hV r) - hV h) yX4_gatherSimple cX4_gatherSimple 4 (none) [va_rf a0, va_rf a1, .int a2] h (fun v u => v = none ∧ u = r)) (hm0 : ∀ {a0 : Option Nat} {a1 : Option Nat} {a2 : Int32} {h : PH} {r : PH}, rc0 a0 a1 a2 h = some r → lez h (hX r) (hV r)) {v0 : Option Nat} {v1 : Option Nat} {v2 : Int32} {h : PH} {r : PH} (hf : fX4_gatherSimple_R rc0 v0 v1 v2 h = some r) : Ct E l (7 + nn + 1) ((hX r) - hX h) ((hV r) - hV h) yX4_gatherSimple cX4_gatherSimple 4 (none) [va_rf v0, va_rf v1, .int v2] h (fun v u => v = none ∧ u = r) := by
  have hmm := mX4_gatherSimple_R hm0 hf
  refine ct_of hG (by decide) (by simp [lg_sl, cat_rf, cat_r, cat_i, cat_l, cat_d, cat_f]) ?_
  intro p e s m args below meth c X hnm
  rw [show pargs 0 [va_rf v0, va_rf v1, .int v2] = [(0, some (va_rf v0)), (1, some (va_rf v1)), (2, some (.int v2))] from by simp [pargs, cat_rf, cat_r, cat_i, cat_l, cat_d, cat_f]]
  unfold fX4_gatherSimple_R at hf
  have hM := Nat.sub_add_cancel hmm.1
  have hN := Nat.sub_add_cancel hmm.2
  refine p_pick [0, 1, 2] ?_
  exact wX4_gatherSimple_R_b0 X hG hnm hw0 hm0 hM hN (Nat.zero_add _) (Nat.zero_add _) hf
noncomputable def g_X4_gatherSimple : Nat → (Option Nat → Option Nat → Int32 → PH → Option PH)
  | 0 => (fun a0 a1 a2 h => none)
  | n + 1 => (fun a0 a1 a2 h => fX4_gatherSimple_R (g_X4_gatherSimple n) a0 a1 a2 h)
theorem gm_X4_gatherSimple : ∀ n : Nat, ∀ {a0 : Option Nat} {a1 : Option Nat} {a2 : Int32} {h : PH} {r : PH}, (g_X4_gatherSimple n) a0 a1 a2 h = some r → lez h (hX r) (hV r) := by
  intro n
  induction n with
  | zero => exact (fun hf => nomatch (show (none : Option PH) = some _ from hf))
  | succ n ih => exact (fun {a0 a1 a2 h r} hf => mX4_gatherSimple_R (ih) (show fX4_gatherSimple_R (g_X4_gatherSimple n) a0 a1 a2 h = some r from hf))
theorem gw_X4_gatherSimple {E : PE} {l : Launch} (hG : Gs E l) : ∀ n : Nat, ∀ {a0 : Option Nat} {a1 : Option Nat} {a2 : Int32} {h : PH} {r : PH}, (g_X4_gatherSimple n) a0 a1 a2 h = some r → Ct E l (7 + n) ((hX r) - hX h) ((hV r) - hV h) yX4_gatherSimple cX4_gatherSimple 4 (none) [va_rf a0, va_rf a1, .int a2] h (fun v u => v = none ∧ u = r) := by
  intro n
  induction n with
  | zero => exact (fun hf => nomatch (show (none : Option PH) = some _ from hf))
  | succ n ih => exact (fun {a0 a1 a2 h r} hf => wX4_gatherSimple_R (nn := n) hG (ih) (gm_X4_gatherSimple n) (show fX4_gatherSimple_R (g_X4_gatherSimple n) a0 a1 a2 h = some r from hf))
noncomputable def fX4_gatherSimple (a0 : Option Nat) (a1 : Option Nat) (a2 : Int32) (h : PH) : Option PH := (g_X4_gatherSimple 44) a0 a1 a2 h
theorem mX4_gatherSimple {a0 : Option Nat} {a1 : Option Nat} {a2 : Int32} {h : PH} {r : PH} (hf : fX4_gatherSimple a0 a1 a2 h = some r) : lez h (hX r) (hV r) := (gm_X4_gatherSimple 44) hf
theorem wX4_gatherSimple {E : PE} {l : Launch} (hG : Gs E l) {a0 : Option Nat} {a1 : Option Nat} {a2 : Int32} {h : PH} {r : PH} (hf : fX4_gatherSimple a0 a1 a2 h = some r) : Ct E l 51 ((hX r) - hX h) ((hV r) - hV h) yX4_gatherSimple cX4_gatherSimple 4 (none) [va_rf a0, va_rf a1, .int a2] h (fun v u => v = none ∧ u = r) := (gw_X4_gatherSimple hG 44) hf
theorem dc_X10_letterOf : decs cX10_letterOf [(0, .iload_n 0, 1), (1, .invokestatic 27, 3), (4, .iconst 1, 1), (5, .isub, 1), (6, .iload_n 1, 1), (7, .isub, 1), (8, .istore_n 2, 1), (9, .iload_n 2, 1), (10, .ifCond .lt 9, 3), (13, .iload_n 2, 1), (14, .bipush 6, 2), (16, .if_icmp .lt 6, 3), (19, .bipush 32, 2), (21, .ireturn, 1), (22, .bipush 96, 2), (24, .iload_n 0, 1), (25, .getstatic 23, 3), (28, .iload_n 2, 1), (29, .iaload, 1), (30, .idiv, 1), (31, .bipush 27, 2), (33, .irem, 1), (34, .iadd, 1), (35, .i2c, 1), (36, .ireturn, 1)] = true := by decide +kernel
noncomputable def fX10_letterOf_b19  : Option Int32 :=
  gd ((((Int32.toUInt32 (32 : Int32)).toUInt16).toUInt32).toInt32 = (32 : Int32)) (some ((32 : Int32)))
set_option maxRecDepth 100000 in
theorem wX10_letterOf_b19 {E : PE} {p : Program} {l : Launch} {e : Env} {s : State} {m : MethodId} {args : Array Value} {below : List Frame} {meth : Method} {c : Code} (X : Cx E p l e (rmv 1 0 0) s m args below meth c RX10 cX10_letterOf 3 (some .char)) (hG : Gs E l) (hnm : meth.name = yX10_letterOf.name)  {h : PH} {r : Int32} (hf : fX10_letterOf_b19  = some r)  : PW E p l e (rmv 1 0 0) s m args below meth c 3 0 0 (MQ below (QG E (fun v u => v = some (.int r) ∧ u = h)) args s 0 0 (pA E)) h 19 [] [] := by
  unfold fX10_letterOf_b19 at hf
  refine p_bipush (v := 32) X (dcg dc_X10_letterOf 12 rfl) (by decide) ?_
  obtain ⟨hg2, hf⟩ := gd_some hf
  have er := Option.some.inj hf
  subst er
  exact p_zret X rfl (congrArg Value.int hg2) (dcg dc_X10_letterOf 13 rfl) ⟨rfl, rfl⟩ (Nat.le_refl _) (Nat.le_refl _)
noncomputable def fX10_letterOf (v0 : Int32) (v1 : Int32) : Option Int32 :=
  bd (fX10_lettersOf v0) (fun z1 =>
  if (((z1 - (1 : Int32)) - v1) < 0) then (fX10_letterOf_b19 ) else
  if (((z1 - (1 : Int32)) - v1) < (6 : Int32)) then (gd (inb ((z1 - (1 : Int32)) - v1) 7) (gd (¬ (pwv (Int32.toNatClampNeg ((z1 - (1 : Int32)) - v1))) = 0) (gd ((((Int32.toUInt32 (((Int32.toUInt32 ((96 : Int32) + ((v0 / (pwv (Int32.toNatClampNeg ((z1 - (1 : Int32)) - v1)))) - (v0 / (pwv (Int32.toNatClampNeg ((z1 - (1 : Int32)) - v1)))) / (27 : Int32) * (27 : Int32)))) % 65536).toInt32)).toUInt16).toUInt32).toInt32 = (((Int32.toUInt32 ((96 : Int32) + ((v0 / (pwv (Int32.toNatClampNeg ((z1 - (1 : Int32)) - v1)))) - (v0 / (pwv (Int32.toNatClampNeg ((z1 - (1 : Int32)) - v1)))) / (27 : Int32) * (27 : Int32)))) % 65536).toInt32)) (some ((((Int32.toUInt32 ((96 : Int32) + ((v0 / (pwv (Int32.toNatClampNeg ((z1 - (1 : Int32)) - v1)))) - (v0 / (pwv (Int32.toNatClampNeg ((z1 - (1 : Int32)) - v1)))) / (27 : Int32) * (27 : Int32)))) % 65536).toInt32)))))) else
  fX10_letterOf_b19 )
set_option maxRecDepth 100000 in
theorem wX10_letterOf {E : PE} {l : Launch} (hG : Gs E l) {v0 : Int32} {v1 : Int32} {h : PH} {r : Int32} (hf : fX10_letterOf v0 v1 = some r) : Ct E l 1 0 0 yX10_letterOf cX10_letterOf 3 (some .char) [.int v0, .int v1] h (fun v u => v = some (.int r) ∧ u = h) := by
  refine ct_of hG (by decide) (Nat.le_of_ble_eq_true rfl) ?_
  intro p e s m args below meth c X hnm
  show PW E p l e _ s m args below meth c _ 0 0 _ h 0 [(0, some (.int v0)), (1, some (.int v1))] []
  unfold fX10_letterOf at hf
  refine p_iload_n X (dcg dc_X10_letterOf 0 rfl) rfl rfl ?_
  obtain ⟨z1, hz1, hf⟩ := bd_some hf
  refine p_callS (As := [_]) X ml_X10_27 (dcg dc_X10_letterOf 1 rfl) rfl rfl  (wX10_lettersOf hG hz1) (by decide) (room4 (Nat.le_of_ble_eq_true rfl)) (Nat.le_refl _) (Nat.le_refl _) ?_
  rintro _ u9 ⟨rfl, e9⟩; have e9 := e9.symm; subst e9
  refine p_iconst (v := 1) X (dcg dc_X10_letterOf 2 rfl) (by decide) ?_
  refine p_isub X (dcg dc_X10_letterOf 3 rfl) ?_
  refine p_iload_n X (dcg dc_X10_letterOf 4 rfl) rfl rfl ?_
  refine p_isub X (dcg dc_X10_letterOf 5 rfl) ?_
  refine p_istore_n X (dcg dc_X10_letterOf 6 rfl) rfl (by decide) rfl ?_
  refine p_iload_n X (dcg dc_X10_letterOf 7 rfl) rfl rfl ?_
  refine p_if_lt (tgt := 19) X (dcg dc_X10_letterOf 8 rfl) (by decide) (fun q => ?_) (fun q => ?_)
  · have hf := if_t q hf
    refine p_pick [] ?_
    exact wX10_letterOf_b19 X hG hnm hf 
  · have hf := if_f q hf
    refine p_iload_n X (dcg dc_X10_letterOf 9 rfl) rfl rfl ?_
    refine p_bipush (v := 6) X (dcg dc_X10_letterOf 10 rfl) (by decide) ?_
    refine p_icmp_lt (tgt := 22) X (dcg dc_X10_letterOf 11 rfl) (by decide) (fun q => ?_) (fun q => ?_)
    · have hf := if_t q hf
      refine p_bipush (v := 96) X (dcg dc_X10_letterOf 14 rfl) (by decide) ?_
      refine p_iload_n X (dcg dc_X10_letterOf 15 rfl) rfl rfl ?_
      refine p_gets (v := .ref 1) X (gz_pow hG) tw_478 (dcg dc_X10_letterOf 16 rfl) ?_
      refine p_iload_n X (dcg dc_X10_letterOf 17 rfl) rfl rfl ?_
      obtain ⟨hg3, hf⟩ := gd_some hf
      refine p_powers X (dcg dc_X10_letterOf 18 rfl) (vp_of_inb hg3) ?_
      obtain ⟨hg4, hf⟩ := gd_some hf
      refine p_idiv X (dcg dc_X10_letterOf 19 rfl) hg4 ?_
      refine p_bipush (v := 27) X (dcg dc_X10_letterOf 20 rfl) (by decide) ?_
      refine p_irem X (dcg dc_X10_letterOf 21 rfl) (by decide) ?_
      refine p_iadd X (dcg dc_X10_letterOf 22 rfl) ?_
      refine p_i2c X (dcg dc_X10_letterOf 23 rfl) ?_
      obtain ⟨hg5, hf⟩ := gd_some hf
      have er := Option.some.inj hf
      subst er
      exact p_zret X rfl (congrArg Value.int hg5) (dcg dc_X10_letterOf 24 rfl) ⟨rfl, rfl⟩ (Nat.le_refl _) (Nat.le_refl _)
    · have hf := if_f q hf
      refine p_pick [] ?_
      exact wX10_letterOf_b19 X hG hnm hf 
theorem dc_X4_needsBrackets : decs cX4_needsBrackets [(0, .iload_n 1, 1), (1, .bipush 6, 2), (3, .if_icmp .eq 14, 3), (6, .iload_n 1, 1), (7, .iconst 5, 1), (8, .if_icmp .ne 13, 3), (11, .iload_n 0, 1), (12, .bipush 6, 2), (14, .if_icmp .eq 7, 3), (17, .iconst 1, 1), (18, .goto 4, 3), (21, .iconst 0, 1), (22, .ireturn, 1)] = true := by decide +kernel
noncomputable def fX4_needsBrackets_b22 (t0 : Int32) : Option Int32 :=
  gd (t0 &&& 1 = t0) (some (t0))
set_option maxRecDepth 100000 in
theorem wX4_needsBrackets_b22 {E : PE} {p : Program} {l : Launch} {e : Env} {s : State} {m : MethodId} {args : Array Value} {below : List Frame} {meth : Method} {c : Code} (X : Cx E p l e (rmv 0 0 0) s m args below meth c RX4 cX4_needsBrackets 2 (some .boolean)) (hG : Gs E l) (hnm : meth.name = yX4_needsBrackets.name) {t0 : Int32} {h : PH} {r : Int32} (hf : fX4_needsBrackets_b22 t0 = some r)  : PW E p l e (rmv 0 0 0) s m args below meth c 2 0 0 (MQ below (QG E (fun v u => v = some (.int r) ∧ u = h)) args s 0 0 (pA E)) h 22 [] [.int t0] := by
  unfold fX4_needsBrackets_b22 at hf
  obtain ⟨hg1, hf⟩ := gd_some hf
  have er := Option.some.inj hf
  subst er
  exact p_zret X rfl (congrArg Value.int hg1) (dcg dc_X4_needsBrackets 12 rfl) ⟨rfl, rfl⟩ (Nat.le_refl _) (Nat.le_refl _)
noncomputable def fX4_needsBrackets_b17  : Option Int32 :=
  fX4_needsBrackets_b22 (1 : Int32)
set_option maxRecDepth 100000 in
theorem wX4_needsBrackets_b17 {E : PE} {p : Program} {l : Launch} {e : Env} {s : State} {m : MethodId} {args : Array Value} {below : List Frame} {meth : Method} {c : Code} (X : Cx E p l e (rmv 0 0 0) s m args below meth c RX4 cX4_needsBrackets 2 (some .boolean)) (hG : Gs E l) (hnm : meth.name = yX4_needsBrackets.name)  {h : PH} {r : Int32} (hf : fX4_needsBrackets_b17  = some r)  : PW E p l e (rmv 0 0 0) s m args below meth c 2 0 0 (MQ below (QG E (fun v u => v = some (.int r) ∧ u = h)) args s 0 0 (pA E)) h 17 [] [] := by
  unfold fX4_needsBrackets_b17 at hf
  refine p_iconst (v := 1) X (dcg dc_X4_needsBrackets 9 rfl) (by decide) ?_
  refine p_goto (tgt := 22) X (dcg dc_X4_needsBrackets 10 rfl) (by decide) ?_
  refine p_pick [] ?_
  exact wX4_needsBrackets_b22 X hG hnm hf 
noncomputable def fX4_needsBrackets_b21  : Option Int32 :=
  fX4_needsBrackets_b22 (0 : Int32)
set_option maxRecDepth 100000 in
theorem wX4_needsBrackets_b21 {E : PE} {p : Program} {l : Launch} {e : Env} {s : State} {m : MethodId} {args : Array Value} {below : List Frame} {meth : Method} {c : Code} (X : Cx E p l e (rmv 0 0 0) s m args below meth c RX4 cX4_needsBrackets 2 (some .boolean)) (hG : Gs E l) (hnm : meth.name = yX4_needsBrackets.name)  {h : PH} {r : Int32} (hf : fX4_needsBrackets_b21  = some r)  : PW E p l e (rmv 0 0 0) s m args below meth c 2 0 0 (MQ below (QG E (fun v u => v = some (.int r) ∧ u = h)) args s 0 0 (pA E)) h 21 [] [] := by
  unfold fX4_needsBrackets_b21 at hf
  refine p_iconst (v := 0) X (dcg dc_X4_needsBrackets 11 rfl) (by decide) ?_
  refine p_pick [] ?_
  exact wX4_needsBrackets_b22 X hG hnm hf 
noncomputable def fX4_needsBrackets (v0 : Int32) (v1 : Int32) : Option Int32 :=
  if (v1 = (6 : Int32)) then (fX4_needsBrackets_b17 ) else
  if (¬ v1 = (5 : Int32)) then (fX4_needsBrackets_b21 ) else
  if (v0 = (6 : Int32)) then (fX4_needsBrackets_b21 ) else
  fX4_needsBrackets_b17 
set_option maxRecDepth 100000 in
theorem wX4_needsBrackets {E : PE} {l : Launch} (hG : Gs E l) {v0 : Int32} {v1 : Int32} {h : PH} {r : Int32} (hf : fX4_needsBrackets v0 v1 = some r) : Ct E l 0 0 0 yX4_needsBrackets cX4_needsBrackets 2 (some .boolean) [.int v0, .int v1] h (fun v u => v = some (.int r) ∧ u = h) := by
  refine ct_of hG (by decide) (Nat.le_of_ble_eq_true rfl) ?_
  intro p e s m args below meth c X hnm
  show PW E p l e _ s m args below meth c _ 0 0 _ h 0 [(0, some (.int v0)), (1, some (.int v1))] []
  unfold fX4_needsBrackets at hf
  refine p_iload_n X (dcg dc_X4_needsBrackets 0 rfl) rfl rfl ?_
  refine p_bipush (v := 6) X (dcg dc_X4_needsBrackets 1 rfl) (by decide) ?_
  refine p_icmp_eq (tgt := 17) X (dcg dc_X4_needsBrackets 2 rfl) (by decide) (fun q => ?_) (fun q => ?_)
  · have hf := if_t q hf
    refine p_pick [] ?_
    exact wX4_needsBrackets_b17 X hG hnm hf 
  · have hf := if_f q hf
    refine p_iload_n X (dcg dc_X4_needsBrackets 3 rfl) rfl rfl ?_
    refine p_iconst (v := 5) X (dcg dc_X4_needsBrackets 4 rfl) (by decide) ?_
    refine p_icmp_ne (tgt := 21) X (dcg dc_X4_needsBrackets 5 rfl) (by decide) (fun q => ?_) (fun q => ?_)
    · have hf := if_t q hf
      refine p_pick [] ?_
      exact wX4_needsBrackets_b21 X hG hnm hf 
    · have hf := if_f q hf
      refine p_iload_n X (dcg dc_X4_needsBrackets 6 rfl) rfl rfl ?_
      refine p_bipush (v := 6) X (dcg dc_X4_needsBrackets 7 rfl) (by decide) ?_
      refine p_icmp_eq (tgt := 21) X (dcg dc_X4_needsBrackets 8 rfl) (by decide) (fun q => ?_) (fun q => ?_)
      · have hf := if_t q hf
        refine p_pick [] ?_
        exact wX4_needsBrackets_b21 X hG hnm hf 
      · have hf := if_f q hf
        refine p_pick [] ?_
        exact wX4_needsBrackets_b17 X hG hnm hf 
theorem dc_X5_init : decs cX5_init [(0, .aload_n 0, 1), (1, .invokespecial 1, 3), (4, .aload_n 0, 1), (5, .bipush 20, 2), (7, .newarray .int, 2), (9, .putfield 9, 3), (12, .aload_n 0, 1), (13, .bipush 20, 2), (15, .anewarray 13, 3), (18, .putfield 15, 3), (21, .return_, 1)] = true := by decide +kernel
noncomputable def fX5_init_b18 (t0 : Nat) (t1 : Nat) (h : PH) : Option PH :=
  gd (hK h t0 = 5) (lt (sR h 5 t0 1 (some t1)) (fun h6 =>
  some (h6)))
set_option maxRecDepth 100000 in
theorem mX5_init_b18 {t0 : Nat} {t1 : Nat} {h : PH} {r : PH} (hf : fX5_init_b18 t0 t1 h = some r) : lez h (hX r) (hV r) := by
  unfold fX5_init_b18 at hf
  have hle := lez_rf h
  obtain ⟨hk5, hf⟩ := gd_some hf
  obtain ⟨h6, rfl, hf⟩ := lt_some hf
  have ee := Option.some.inj hf; subst ee; exact hle
set_option maxRecDepth 100000 in
theorem wX5_init_b18 {E : PE} {p : Program} {l : Launch} {e : Env} {s : State} {m : MethodId} {args : Array Value} {below : List Frame} {meth : Method} {c : Code} {X0 V0 MC MS uc us : Nat} (X : Cx E p l e (rmv 1 MC MS) s m args below meth c RX5 cX5_init 1 (none)) (hG : Gs E l) (hnm : meth.name = yX5_init.name) {t0 : Nat} {t1 : Nat} {h : PH} {r : PH} (hM : MC + X0 = (hX r)) (hN : MS + V0 = (hV r)) (hu : uc + X0 = hX h) (hv : us + V0 = hV h) (hf : fX5_init_b18 t0 t1 h = some r)  : PW E p l e (rmv 1 MC MS) s m args below meth c 1 uc us (MQ below (QG E (fun v u => v = none ∧ u = r)) args s MC MS (pA E)) h 18 [] [.ref t1, .ref t0] := by
  have hm1 : lez h (hX r) (hV r) := mX5_init_b18 hf
  have hcm : uc ≤ MC := (by have o0 := hm1.1; have o1 := hM; have o2 := hu; (try simp only [hX_sI, hX_sR, hX_sL, hX_sD, hX_sIa, hX_sRa, hV_sI, hV_sR, hV_sL, hV_sD, hV_sIa, hV_sRa, hX_new, hV_new] at o0 o1 o2 ⊢); omega)
  have hsm : us ≤ MS := (by have o0 := hm1.2; have o1 := hN; have o2 := hv; (try simp only [hX_sI, hX_sR, hX_sL, hX_sD, hX_sIa, hX_sRa, hV_sI, hV_sR, hV_sL, hV_sD, hV_sIa, hV_sRa, hX_new, hV_new] at o0 o1 o2 ⊢); omega)
  clear hm1
  unfold fX5_init_b18 at hf
  obtain ⟨hk5, hf⟩ := gd_some hf
  refine p_putRf (v := some _) X fl_X5_15 rfl (by decide) (fun q hq => by cases hq; exact ⟨rfl, rfl⟩) hnm (nar_rf _ (by decide)) (fit_rf _ (by decide)) (dcg dc_X5_init 9 rfl) hk5 ?_
  obtain ⟨h6, rfl, hf⟩ := lt_some hf
  have er := Option.some.inj hf
  subst er
  exact p_vret X rfl (dcg dc_X5_init 10 rfl) ⟨rfl, rfl⟩ hcm hsm
noncomputable def fX5_init_b9 (v0 : Nat) (t0 : Nat) (t1 : Nat) (h : PH) : Option PH :=
  gd (hK h t0 = 5) (lt (sR h 5 t0 0 (some t1)) (fun h3 =>
  gd (¬ (20 : Int32) < 0 ∧ (Int32.toNatClampNeg (20 : Int32)) ≤ 1000000) (fX5_init_b18 v0 (hX h3) (hnew h3 26 (Int32.toNatClampNeg (20 : Int32))))))
set_option maxRecDepth 100000 in
theorem mX5_init_b9 {v0 : Nat} {t0 : Nat} {t1 : Nat} {h : PH} {r : PH} (hf : fX5_init_b9 v0 t0 t1 h = some r) : lez h (hX r) (hV r) := by
  unfold fX5_init_b9 at hf
  have hle := lez_rf h
  obtain ⟨hk2, hf⟩ := gd_some hf
  obtain ⟨h3, rfl, hf⟩ := lt_some hf
  obtain ⟨hg4, hf⟩ := gd_some hf
  have hle := lez_nw (c := 26) (n := (Int32.toNatClampNeg (20 : Int32))) hle
  exact lez_rt (mX5_init_b18 hf) hle
set_option maxRecDepth 100000 in
theorem wX5_init_b9 {E : PE} {p : Program} {l : Launch} {e : Env} {s : State} {m : MethodId} {args : Array Value} {below : List Frame} {meth : Method} {c : Code} {X0 V0 MC MS uc us : Nat} (X : Cx E p l e (rmv 1 MC MS) s m args below meth c RX5 cX5_init 1 (none)) (hG : Gs E l) (hnm : meth.name = yX5_init.name) {v0 : Nat} {t0 : Nat} {t1 : Nat} {h : PH} {r : PH} (hM : MC + X0 = (hX r)) (hN : MS + V0 = (hV r)) (hu : uc + X0 = hX h) (hv : us + V0 = hV h) (hf : fX5_init_b9 v0 t0 t1 h = some r)  : PW E p l e (rmv 1 MC MS) s m args below meth c 1 uc us (MQ below (QG E (fun v u => v = none ∧ u = r)) args s MC MS (pA E)) h 9 [(0, some (.ref v0))] [.ref t1, .ref t0] := by
  have hm1 : lez h (hX r) (hV r) := mX5_init_b9 hf
  have hcm : uc ≤ MC := (by have o0 := hm1.1; have o1 := hM; have o2 := hu; (try simp only [hX_sI, hX_sR, hX_sL, hX_sD, hX_sIa, hX_sRa, hV_sI, hV_sR, hV_sL, hV_sD, hV_sIa, hV_sRa, hX_new, hV_new] at o0 o1 o2 ⊢); omega)
  have hsm : us ≤ MS := (by have o0 := hm1.2; have o1 := hN; have o2 := hv; (try simp only [hX_sI, hX_sR, hX_sL, hX_sD, hX_sIa, hX_sRa, hV_sI, hV_sR, hV_sL, hV_sD, hV_sIa, hV_sRa, hX_new, hV_new] at o0 o1 o2 ⊢); omega)
  clear hm1
  unfold fX5_init_b9 at hf
  obtain ⟨hk2, hf⟩ := gd_some hf
  refine p_putRf (v := some _) X fl_X5_9 rfl (by decide) (fun q hq => by cases hq; exact ⟨rfl, rfl⟩) hnm (nar_rf _ (by decide)) (fit_rf _ (by decide)) (dcg dc_X5_init 5 rfl) hk2 ?_
  obtain ⟨h3, rfl, hf⟩ := lt_some hf
  refine p_aload_n X (dcg dc_X5_init 6 rfl) rfl rfl ?_
  refine p_bipush (v := 20) X (dcg dc_X5_init 7 rfl) (by decide) ?_
  obtain ⟨hg4, hf⟩ := gd_some hf
  have hm1 : lez _ (hX r) (hV r) := mX5_init_b18 hf
  have hm2 := lez_new hm1
  refine p_newq26 X tw_247 tl_201 (dcg dc_X5_init 8 rfl) hg4.1 hg4.2 (show uc + 1 ≤ MC from (by have o0 := hm2.1; have o1 := hM; have o2 := hu; (try simp only [hX_sI, hX_sR, hX_sL, hX_sD, hX_sIa, hX_sRa, hV_sI, hV_sR, hV_sL, hV_sD, hV_sIa, hV_sRa, hX_new, hV_new] at o0 o1 o2 ⊢); omega)) (show us + (Int32.toNatClampNeg (20 : Int32)) ≤ MS from (by have o0 := hm2.2; have o1 := hN; have o2 := hv; (try simp only [hX_sI, hX_sR, hX_sL, hX_sD, hX_sIa, hX_sRa, hV_sI, hV_sR, hV_sL, hV_sD, hV_sIa, hV_sRa, hX_new, hV_new] at o0 o1 o2 ⊢); omega)) ?_
  refine p_pick [] ?_
  exact wX5_init_b18 X hG hnm hM hN (by have o0 := hu; (try simp only [hX_sI, hX_sR, hX_sL, hX_sD, hX_sIa, hX_sRa, hV_sI, hV_sR, hV_sL, hV_sD, hV_sIa, hV_sRa, hX_new, hV_new] at o0 ⊢); omega) (by have o0 := hv; (try simp only [hX_sI, hX_sR, hX_sL, hX_sD, hX_sIa, hX_sRa, hV_sI, hV_sR, hV_sL, hV_sD, hV_sIa, hV_sRa, hX_new, hV_new] at o0 ⊢); omega) hf 
noncomputable def fX5_init_b0 (v0 : Nat) (h : PH) : Option PH :=
  gd (¬ (20 : Int32) < 0 ∧ (Int32.toNatClampNeg (20 : Int32)) ≤ 1000000) (fX5_init_b9 v0 v0 (hX h) (hnew h 20 (Int32.toNatClampNeg (20 : Int32))))
set_option maxRecDepth 100000 in
theorem mX5_init_b0 {v0 : Nat} {h : PH} {r : PH} (hf : fX5_init_b0 v0 h = some r) : lez h (hX r) (hV r) := by
  unfold fX5_init_b0 at hf
  have hle := lez_rf h
  obtain ⟨hg1, hf⟩ := gd_some hf
  have hle := lez_nw (c := 20) (n := (Int32.toNatClampNeg (20 : Int32))) hle
  exact lez_rt (mX5_init_b9 hf) hle
set_option maxRecDepth 100000 in
theorem wX5_init_b0 {E : PE} {p : Program} {l : Launch} {e : Env} {s : State} {m : MethodId} {args : Array Value} {below : List Frame} {meth : Method} {c : Code} {X0 V0 MC MS uc us : Nat} (X : Cx E p l e (rmv 1 MC MS) s m args below meth c RX5 cX5_init 1 (none)) (hG : Gs E l) (hnm : meth.name = yX5_init.name) {v0 : Nat} {h : PH} {r : PH} (hM : MC + X0 = (hX r)) (hN : MS + V0 = (hV r)) (hu : uc + X0 = hX h) (hv : us + V0 = hV h) (hf : fX5_init_b0 v0 h = some r)  : PW E p l e (rmv 1 MC MS) s m args below meth c 1 uc us (MQ below (QG E (fun v u => v = none ∧ u = r)) args s MC MS (pA E)) h 0 [(0, some (.ref v0))] [] := by
  have hm1 : lez h (hX r) (hV r) := mX5_init_b0 hf
  have hcm : uc ≤ MC := (by have o0 := hm1.1; have o1 := hM; have o2 := hu; (try simp only [hX_sI, hX_sR, hX_sL, hX_sD, hX_sIa, hX_sRa, hV_sI, hV_sR, hV_sL, hV_sD, hV_sIa, hV_sRa, hX_new, hV_new] at o0 o1 o2 ⊢); omega)
  have hsm : us ≤ MS := (by have o0 := hm1.2; have o1 := hN; have o2 := hv; (try simp only [hX_sI, hX_sR, hX_sL, hX_sD, hX_sIa, hX_sRa, hV_sI, hV_sR, hV_sL, hV_sD, hV_sIa, hV_sRa, hX_new, hV_new] at o0 o1 o2 ⊢); omega)
  clear hm1
  unfold fX5_init_b0 at hf
  refine p_aload_n X (dcg dc_X5_init 0 rfl) rfl rfl ?_
  refine p_objinit X tw_246 tw_146 tw_147 (dcg dc_X5_init 1 rfl) (Nat.le_of_ble_eq_true rfl) (Nat.le_trans (Nat.add_le_add_right (room4 (Nat.le_of_ble_eq_true rfl)) 12) (Nat.le_of_ble_eq_true rfl)) (fun ls hl => hl.1.trans X.2.2.1.symm) ?_
  refine p_aload_n X (dcg dc_X5_init 2 rfl) rfl rfl ?_
  refine p_bipush (v := 20) X (dcg dc_X5_init 3 rfl) (by decide) ?_
  obtain ⟨hg1, hf⟩ := gd_some hf
  have hm1 : lez _ (hX r) (hV r) := mX5_init_b9 hf
  have hm2 := lez_new hm1
  refine p_newa20 X tw_168 (dcg dc_X5_init 4 rfl) hg1.1 hg1.2 (show uc + 1 ≤ MC from (by have o0 := hm2.1; have o1 := hM; have o2 := hu; (try simp only [hX_sI, hX_sR, hX_sL, hX_sD, hX_sIa, hX_sRa, hV_sI, hV_sR, hV_sL, hV_sD, hV_sIa, hV_sRa, hX_new, hV_new] at o0 o1 o2 ⊢); omega)) (show us + (Int32.toNatClampNeg (20 : Int32)) ≤ MS from (by have o0 := hm2.2; have o1 := hN; have o2 := hv; (try simp only [hX_sI, hX_sR, hX_sL, hX_sD, hX_sIa, hX_sRa, hV_sI, hV_sR, hV_sL, hV_sD, hV_sIa, hV_sRa, hX_new, hV_new] at o0 o1 o2 ⊢); omega)) ?_
  refine p_pick [0] ?_
  exact wX5_init_b9 X hG hnm hM hN (by have o0 := hu; (try simp only [hX_sI, hX_sR, hX_sL, hX_sD, hX_sIa, hX_sRa, hV_sI, hV_sR, hV_sL, hV_sD, hV_sIa, hV_sRa, hX_new, hV_new] at o0 ⊢); omega) (by have o0 := hv; (try simp only [hX_sI, hX_sR, hX_sL, hX_sD, hX_sIa, hX_sRa, hV_sI, hV_sR, hV_sL, hV_sD, hV_sIa, hV_sRa, hX_new, hV_new] at o0 ⊢); omega) hf 
noncomputable def fX5_init (v0 : Nat) (h : PH) : Option PH :=
  fX5_init_b0 v0 h
set_option maxRecDepth 100000 in
theorem mX5_init {v0 : Nat} {h : PH} {r : PH} (hf : fX5_init v0 h = some r) : lez h (hX r) (hV r) := by
  unfold fX5_init at hf
  have hle := lez_rf h
  exact lez_rt (mX5_init_b0 hf) hle
set_option maxRecDepth 100000 in
theorem wX5_init {E : PE} {l : Launch} (hG : Gs E l) {v0 : Nat} {h : PH} {r : PH} (hf : fX5_init v0 h = some r) : Ct E l 1 ((hX r) - hX h) ((hV r) - hV h) yX5_init cX5_init 1 (none) [.ref v0] h (fun v u => v = none ∧ u = r) := by
  have hmm := mX5_init hf
  refine ct_of hG (by decide) (Nat.le_of_ble_eq_true rfl) ?_
  intro p e s m args below meth c X hnm
  show PW E p l e _ s m args below meth c _ 0 0 _ h 0 [(0, some (.ref v0))] []
  unfold fX5_init at hf
  have hM := Nat.sub_add_cancel hmm.1
  have hN := Nat.sub_add_cancel hmm.2
  refine p_pick [0] ?_
  exact wX5_init_b0 X hG hnm hM hN (Nat.zero_add _) (Nat.zero_add _) hf
theorem dc_X5_latestSlot : decs cX5_latestSlot [(0, .aload_n 0, 1), (1, .getfield 23, 3), (4, .aload_n 0, 1), (5, .getfield 19, 3), (8, .iconst 1, 1), (9, .invokestatic 30, 3), (12, .iadd, 1), (13, .iconst 1, 1), (14, .isub, 1), (15, .bipush 20, 2), (17, .irem, 1), (18, .ireturn, 1)] = true := by decide +kernel
noncomputable def fX5_latestSlot (v0 : Nat) (h : PH) : Option Int32 :=
  gd (hK h v0 = 5) (some (((((hI h 5 v0 2) + (if (hI h 5 v0 3) < (1 : Int32) then (1 : Int32) else (hI h 5 v0 3))) - (1 : Int32)) - (((hI h 5 v0 2) + (if (hI h 5 v0 3) < (1 : Int32) then (1 : Int32) else (hI h 5 v0 3))) - (1 : Int32)) / (20 : Int32) * (20 : Int32))))
set_option maxRecDepth 100000 in
theorem wX5_latestSlot {E : PE} {l : Launch} (hG : Gs E l) {v0 : Nat} {h : PH} {r : Int32} (hf : fX5_latestSlot v0 h = some r) : Ct E l 1 0 0 yX5_latestSlot cX5_latestSlot 1 (some .int) [.ref v0] h (fun v u => v = some (.int r) ∧ u = h) := by
  refine ct_of hG (by decide) (Nat.le_of_ble_eq_true rfl) ?_
  intro p e s m args below meth c X hnm
  show PW E p l e _ s m args below meth c _ 0 0 _ h 0 [(0, some (.ref v0))] []
  unfold fX5_latestSlot at hf
  refine p_aload_n X (dcg dc_X5_latestSlot 0 rfl) rfl rfl ?_
  obtain ⟨hk1, hf⟩ := gd_some hf
  refine p_getI X fl_X5_23 rfl (by decide) (dcg dc_X5_latestSlot 1 rfl) hk1 ?_
  refine p_aload_n X (dcg dc_X5_latestSlot 2 rfl) rfl rfl ?_
  refine p_getI X fl_X5_19 rfl (by decide) (dcg dc_X5_latestSlot 3 rfl) hk1 ?_
  refine p_iconst (v := 1) X (dcg dc_X5_latestSlot 4 rfl) (by decide) ?_
  refine p_mmax X tw_444 tw_445 tw_123 tw_446 (dcg dc_X5_latestSlot 5 rfl) (Nat.le_of_ble_eq_true rfl) (Nat.le_trans (Nat.add_le_add_right (room4 (Nat.le_of_ble_eq_true rfl)) 13) (Nat.le_of_ble_eq_true rfl)) (Nat.le_refl _) (Nat.le_refl _) (fun ls hl => X.2.2.1.trans hl.1.symm) ?_
  refine p_iadd X (dcg dc_X5_latestSlot 6 rfl) ?_
  refine p_iconst (v := 1) X (dcg dc_X5_latestSlot 7 rfl) (by decide) ?_
  refine p_isub X (dcg dc_X5_latestSlot 8 rfl) ?_
  refine p_bipush (v := 20) X (dcg dc_X5_latestSlot 9 rfl) (by decide) ?_
  refine p_irem X (dcg dc_X5_latestSlot 10 rfl) (by decide) ?_
  have er := Option.some.inj hf
  subst er
  exact p_iret X rfl (dcg dc_X5_latestSlot 11 rfl) ⟨rfl, rfl⟩ (Nat.le_refl _) (Nat.le_refl _)
theorem dc_X5_remember : decs cX5_remember [(0, .aload_n 0, 1), (1, .getfield 19, 3), (4, .bipush 20, 2), (6, .if_icmp .ne 26, 3), (9, .aload_n 0, 1), (10, .aload_n 0, 1), (11, .getfield 23, 3), (14, .iconst 1, 1), (15, .iadd, 1), (16, .bipush 20, 2), (18, .irem, 1), (19, .putfield 23, 3), (22, .aload_n 0, 1), (23, .dup, 1), (24, .getfield 19, 3), (27, .iconst 1, 1), (28, .isub, 1), (29, .putfield 19, 3), (32, .aload_n 0, 1), (33, .dup, 1), (34, .getfield 19, 3), (37, .iconst 1, 1), (38, .iadd, 1), (39, .putfield 19, 3), (42, .aload_n 0, 1), (43, .getfield 9, 3), (46, .aload_n 0, 1), (47, .invokevirtual 26, 3), (50, .iload_n 1, 1), (51, .iastore, 1), (52, .aload_n 0, 1), (53, .getfield 15, 3), (56, .aload_n 0, 1), (57, .invokevirtual 26, 3), (60, .aload_n 2, 1), (61, .aastore, 1), (62, .return_, 1)] = true := by decide +kernel
noncomputable def fX5_remember_b32 (v0 : Nat) (v1 : Int32) (v2 : Option Nat) (h : PH) : Option PH :=
  gd (hK h v0 = 5) (lt (sI h 5 v0 3 ((hI h 5 v0 3) + (1 : Int32))) (fun h3 =>
  bd (fX5_latestSlot v0 h3) (fun z4 =>
  gs (hR h3 5 v0 0) (fun a5 =>
  gd (hK h3 a5 = 20 ∧ inb z4 (hN h3 a5)) (lt (sI h3 20 a5 (Int32.toNatClampNeg z4) v1) (fun h9 =>
  bd (fX5_latestSlot v0 h9) (fun z10 =>
  gs (hR h9 5 v0 1) (fun a11 =>
  gd (hK h9 a11 = 26 ∧ inb z10 (hN h9 a11)) (gd (okq h9 8 v2 = true) (lt (sR h9 26 a11 (Int32.toNatClampNeg z10) v2) (fun h15 =>
  some (h15))))))))))))
set_option maxRecDepth 100000 in
theorem mX5_remember_b32 {v0 : Nat} {v1 : Int32} {v2 : Option Nat} {h : PH} {r : PH} (hf : fX5_remember_b32 v0 v1 v2 h = some r) : eqz h (hX r) (hV r) := by
  unfold fX5_remember_b32 at hf
  have hle := eqz_rf h
  obtain ⟨hk2, hf⟩ := gd_some hf
  obtain ⟨h3, rfl, hf⟩ := lt_some hf
  obtain ⟨z4, hz4, hf⟩ := bd_some hf
  obtain ⟨a5, e6, hf⟩ := gs_some hf
  obtain ⟨⟨hk8, hb7⟩, hf⟩ := gd_some hf
  obtain ⟨h9, rfl, hf⟩ := lt_some hf
  obtain ⟨z10, hz10, hf⟩ := bd_some hf
  obtain ⟨a11, e12, hf⟩ := gs_some hf
  obtain ⟨⟨hk14, hb13⟩, hf⟩ := gd_some hf
  obtain ⟨hg16, hf⟩ := gd_some hf
  obtain ⟨h15, rfl, hf⟩ := lt_some hf
  have ee := Option.some.inj hf; subst ee; exact hle
set_option maxRecDepth 100000 in
theorem wX5_remember_b32 {E : PE} {p : Program} {l : Launch} {e : Env} {s : State} {m : MethodId} {args : Array Value} {below : List Frame} {meth : Method} {c : Code} (X : Cx E p l e (rmv 2 0 0) s m args below meth c RX5 cX5_remember 3 (none)) (hG : Gs E l) (hnm : meth.name = yX5_remember.name) {v0 : Nat} {v1 : Int32} {v2 : Option Nat} {h : PH} {r : PH} (hf : fX5_remember_b32 v0 v1 v2 h = some r)  : PW E p l e (rmv 2 0 0) s m args below meth c 3 0 0 (MQ below (QG E (fun v u => v = none ∧ u = r)) args s 0 0 (pA E)) h 32 [(0, some (.ref v0)), (1, some (.int v1)), (2, some (va_rf v2))] [] := by
  unfold fX5_remember_b32 at hf
  refine p_aload_n X (dcg dc_X5_remember 18 rfl) rfl rfl ?_
  refine p_dup X (dcg dc_X5_remember 19 rfl) rfl ?_
  obtain ⟨hk2, hf⟩ := gd_some hf
  refine p_getI X fl_X5_19 rfl (by decide) (dcg dc_X5_remember 20 rfl) hk2 ?_
  refine p_iconst (v := 1) X (dcg dc_X5_remember 21 rfl) (by decide) ?_
  refine p_iadd X (dcg dc_X5_remember 22 rfl) ?_
  refine p_putI X fl_X5_19 rfl (by decide) (fun q hq => by cases hq; rfl) rfl rfl (dcg dc_X5_remember 23 rfl) hk2 ?_
  obtain ⟨h3, rfl, hf⟩ := lt_some hf
  refine p_aload_n X (dcg dc_X5_remember 24 rfl) rfl rfl ?_
  refine p_getR X fl_X5_9 rfl (by decide) (dcg dc_X5_remember 25 rfl) hk2 ?_
  refine p_aload_n X (dcg dc_X5_remember 26 rfl) rfl rfl ?_
  obtain ⟨z4, hz4, hf⟩ := bd_some hf
  refine p_callV (As := []) X ml_X5_26 (dcg dc_X5_remember 27 rfl) rfl rfl hk2 (wX5_latestSlot hG hz4) (by decide) (room4 (Nat.le_of_ble_eq_true rfl)) (Nat.le_refl _) (Nat.le_refl _) ?_
  rintro _ u9 ⟨rfl, e9⟩; have e9 := e9.symm; subst e9
  refine p_iload_n X (dcg dc_X5_remember 28 rfl) rfl rfl ?_
  obtain ⟨a5, e6, hf⟩ := gs_some hf
  first | subst e6 | (try rw [e6])
  obtain ⟨⟨hk8, hb7⟩, hf⟩ := gd_some hf
  refine p_iast X (dcg dc_X5_remember 29 rfl) hk8 (vp_of_inb hb7) ?_
  obtain ⟨h9, rfl, hf⟩ := lt_some hf
  refine p_aload_n X (dcg dc_X5_remember 30 rfl) rfl rfl ?_
  refine p_getR X fl_X5_15 rfl (by decide) (dcg dc_X5_remember 31 rfl) hk2 ?_
  refine p_aload_n X (dcg dc_X5_remember 32 rfl) rfl rfl ?_
  obtain ⟨z10, hz10, hf⟩ := bd_some hf
  refine p_callV (As := []) X ml_X5_26 (dcg dc_X5_remember 33 rfl) rfl rfl hk2 (wX5_latestSlot hG hz10) (by decide) (room4 (Nat.le_of_ble_eq_true rfl)) (Nat.le_refl _) (Nat.le_refl _) ?_
  rintro _ u9 ⟨rfl, e9⟩; have e9 := e9.symm; subst e9
  refine p_aloadq_n X (dcg dc_X5_remember 34 rfl) rfl rfl ?_
  obtain ⟨a11, e12, hf⟩ := gs_some hf
  first | subst e12 | (try rw [e12])
  obtain ⟨⟨hk14, hb13⟩, hf⟩ := gd_some hf
  obtain ⟨hg16, hf⟩ := gd_some hf
  refine p_aast26 X (dcg dc_X5_remember 35 rfl) hk14 (vp_of_inb hb13) (okq_of hg16) ?_
  obtain ⟨h15, rfl, hf⟩ := lt_some hf
  have er := Option.some.inj hf
  subst er
  exact p_vret X rfl (dcg dc_X5_remember 36 rfl) ⟨rfl, rfl⟩ (Nat.le_refl _) (Nat.le_refl _)
noncomputable def fX5_remember (v0 : Nat) (v1 : Int32) (v2 : Option Nat) (h : PH) : Option PH :=
  gd (hK h v0 = 5) (if (¬ (hI h 5 v0 3) = (20 : Int32)) then (fX5_remember_b32 v0 v1 v2 h) else
  lt (sI h 5 v0 2 (((hI h 5 v0 2) + (1 : Int32)) - ((hI h 5 v0 2) + (1 : Int32)) / (20 : Int32) * (20 : Int32))) (fun h17 =>
  lt (sI h17 5 v0 3 ((hI h17 5 v0 3) - (1 : Int32))) (fun h18 =>
  fX5_remember_b32 v0 v1 v2 h18)))
set_option maxRecDepth 100000 in
theorem mX5_remember {v0 : Nat} {v1 : Int32} {v2 : Option Nat} {h : PH} {r : PH} (hf : fX5_remember v0 v1 v2 h = some r) : eqz h (hX r) (hV r) := by
  unfold fX5_remember at hf
  have hle := eqz_rf h
  obtain ⟨hk1, hf⟩ := gd_some hf
  rcases ite_or hf with ⟨q, hf⟩ | ⟨q, hf⟩
  · have hf := if_t q hf
    exact eqz_rt (mX5_remember_b32 hf) hle
  · have hf := if_f q hf
    obtain ⟨h17, rfl, hf⟩ := lt_some hf
    obtain ⟨h18, rfl, hf⟩ := lt_some hf
    exact eqz_rt (mX5_remember_b32 hf) hle
set_option maxRecDepth 100000 in
theorem wX5_remember {E : PE} {l : Launch} (hG : Gs E l) {v0 : Nat} {v1 : Int32} {v2 : Option Nat} {h : PH} {r : PH} (hf : fX5_remember v0 v1 v2 h = some r) : Ct E l 2 0 0 yX5_remember cX5_remember 3 (none) [.ref v0, .int v1, va_rf v2] h (fun v u => v = none ∧ u = r) := by
  refine ct_of hG (by decide) (by simp [lg_sl, cat_rf, cat_r, cat_i, cat_l, cat_d, cat_f]) ?_
  intro p e s m args below meth c X hnm
  rw [show pargs 0 [.ref v0, .int v1, va_rf v2] = [(0, some (.ref v0)), (1, some (.int v1)), (2, some (va_rf v2))] from by simp [pargs, cat_rf, cat_r, cat_i, cat_l, cat_d, cat_f]]
  unfold fX5_remember at hf
  refine p_aload_n X (dcg dc_X5_remember 0 rfl) rfl rfl ?_
  obtain ⟨hk1, hf⟩ := gd_some hf
  refine p_getI X fl_X5_19 rfl (by decide) (dcg dc_X5_remember 1 rfl) hk1 ?_
  refine p_bipush (v := 20) X (dcg dc_X5_remember 2 rfl) (by decide) ?_
  refine p_icmp_ne (tgt := 32) X (dcg dc_X5_remember 3 rfl) (by decide) (fun q => ?_) (fun q => ?_)
  · have hf := if_t q hf
    refine p_pick [0, 1, 2] ?_
    exact wX5_remember_b32 X hG hnm hf 
  · have hf := if_f q hf
    refine p_aload_n X (dcg dc_X5_remember 4 rfl) rfl rfl ?_
    refine p_aload_n X (dcg dc_X5_remember 5 rfl) rfl rfl ?_
    refine p_getI X fl_X5_23 rfl (by decide) (dcg dc_X5_remember 6 rfl) hk1 ?_
    refine p_iconst (v := 1) X (dcg dc_X5_remember 7 rfl) (by decide) ?_
    refine p_iadd X (dcg dc_X5_remember 8 rfl) ?_
    refine p_bipush (v := 20) X (dcg dc_X5_remember 9 rfl) (by decide) ?_
    refine p_irem X (dcg dc_X5_remember 10 rfl) (by decide) ?_
    refine p_putI X fl_X5_23 rfl (by decide) (fun q hq => by cases hq; rfl) rfl rfl (dcg dc_X5_remember 11 rfl) hk1 ?_
    obtain ⟨h17, rfl, hf⟩ := lt_some hf
    refine p_aload_n X (dcg dc_X5_remember 12 rfl) rfl rfl ?_
    refine p_dup X (dcg dc_X5_remember 13 rfl) rfl ?_
    refine p_getI X fl_X5_19 rfl (by decide) (dcg dc_X5_remember 14 rfl) hk1 ?_
    refine p_iconst (v := 1) X (dcg dc_X5_remember 15 rfl) (by decide) ?_
    refine p_isub X (dcg dc_X5_remember 16 rfl) ?_
    refine p_putI X fl_X5_19 rfl (by decide) (fun q hq => by cases hq; rfl) rfl rfl (dcg dc_X5_remember 17 rfl) hk1 ?_
    obtain ⟨h18, rfl, hf⟩ := lt_some hf
    refine p_pick [0, 1, 2] ?_
    exact wX5_remember_b32 X hG hnm hf 
theorem dc_X5_latestNumber : decs cX5_latestNumber [(0, .aload_n 0, 1), (1, .getfield 9, 3), (4, .aload_n 0, 1), (5, .invokevirtual 26, 3), (8, .iaload, 1), (9, .ireturn, 1)] = true := by decide +kernel
noncomputable def fX5_latestNumber (v0 : Nat) (h : PH) : Option Int32 :=
  gd (hK h v0 = 5) (bd (fX5_latestSlot v0 h) (fun z2 =>
  gs (hR h 5 v0 0) (fun a3 =>
  gd (hK h a3 = 20 ∧ inb z2 (hN h a3)) (some ((hI h 20 a3 (Int32.toNatClampNeg z2)))))))
set_option maxRecDepth 100000 in
theorem wX5_latestNumber {E : PE} {l : Launch} (hG : Gs E l) {v0 : Nat} {h : PH} {r : Int32} (hf : fX5_latestNumber v0 h = some r) : Ct E l 2 0 0 yX5_latestNumber cX5_latestNumber 1 (some .int) [.ref v0] h (fun v u => v = some (.int r) ∧ u = h) := by
  refine ct_of hG (by decide) (Nat.le_of_ble_eq_true rfl) ?_
  intro p e s m args below meth c X hnm
  show PW E p l e _ s m args below meth c _ 0 0 _ h 0 [(0, some (.ref v0))] []
  unfold fX5_latestNumber at hf
  refine p_aload_n X (dcg dc_X5_latestNumber 0 rfl) rfl rfl ?_
  obtain ⟨hk1, hf⟩ := gd_some hf
  refine p_getR X fl_X5_9 rfl (by decide) (dcg dc_X5_latestNumber 1 rfl) hk1 ?_
  refine p_aload_n X (dcg dc_X5_latestNumber 2 rfl) rfl rfl ?_
  obtain ⟨z2, hz2, hf⟩ := bd_some hf
  refine p_callV (As := []) X ml_X5_26 (dcg dc_X5_latestNumber 3 rfl) rfl rfl hk1 (wX5_latestSlot hG hz2) (by decide) (room4 (Nat.le_of_ble_eq_true rfl)) (Nat.le_refl _) (Nat.le_refl _) ?_
  rintro _ u9 ⟨rfl, e9⟩; have e9 := e9.symm; subst e9
  obtain ⟨a3, e4, hf⟩ := gs_some hf
  first | subst e4 | (try rw [e4])
  obtain ⟨⟨hk6, hb5⟩, hf⟩ := gd_some hf
  refine p_iald X (dcg dc_X5_latestNumber 4 rfl) hk6 (vp_of_inb hb5) ?_
  have er := Option.some.inj hf
  subst er
  exact p_iret X rfl (dcg dc_X5_latestNumber 5 rfl) ⟨rfl, rfl⟩ (Nat.le_refl _) (Nat.le_refl _)
theorem dc_X5_latestText : decs cX5_latestText [(0, .aload_n 0, 1), (1, .getfield 15, 3), (4, .aload_n 0, 1), (5, .invokevirtual 26, 3), (8, .aaload, 1), (9, .areturn, 1)] = true := by decide +kernel
noncomputable def fX5_latestText (v0 : Nat) (h : PH) : Option Option Nat :=
  gd (hK h v0 = 5) (bd (fX5_latestSlot v0 h) (fun z2 =>
  gs (hR h 5 v0 1) (fun a3 =>
  gd (hK h a3 = 26 ∧ inb z2 (hN h a3)) (some ((hR h 26 a3 (Int32.toNatClampNeg z2)))))))
set_option maxRecDepth 100000 in
theorem wX5_latestText {E : PE} {l : Launch} (hG : Gs E l) {v0 : Nat} {h : PH} {r : Option Nat} (hf : fX5_latestText v0 h = some r) : Ct E l 2 0 0 yX5_latestText cX5_latestText 1 (some (.object "WordFinder$Text")) [.ref v0] h (fun v u => v = some (va_rf r) ∧ u = h) := by
  refine ct_of hG (by decide) (Nat.le_of_ble_eq_true rfl) ?_
  intro p e s m args below meth c X hnm
  show PW E p l e _ s m args below meth c _ 0 0 _ h 0 [(0, some (.ref v0))] []
  unfold fX5_latestText at hf
  refine p_aload_n X (dcg dc_X5_latestText 0 rfl) rfl rfl ?_
  obtain ⟨hk1, hf⟩ := gd_some hf
  refine p_getR X fl_X5_15 rfl (by decide) (dcg dc_X5_latestText 1 rfl) hk1 ?_
  refine p_aload_n X (dcg dc_X5_latestText 2 rfl) rfl rfl ?_
  obtain ⟨z2, hz2, hf⟩ := bd_some hf
  refine p_callV (As := []) X ml_X5_26 (dcg dc_X5_latestText 3 rfl) rfl rfl hk1 (wX5_latestSlot hG hz2) (by decide) (room4 (Nat.le_of_ble_eq_true rfl)) (Nat.le_refl _) (Nat.le_refl _) ?_
  rintro _ u9 ⟨rfl, e9⟩; have e9 := e9.symm; subst e9
  obtain ⟨a3, e4, hf⟩ := gs_some hf
  first | subst e4 | (try rw [e4])
  obtain ⟨⟨hk6, hb5⟩, hf⟩ := gd_some hf
  refine p_aald26 X (dcg dc_X5_latestText 4 rfl) hk6 (vp_of_inb hb5) ?_
  have er := Option.some.inj hf
  subst er
  exact p_aret X rfl (Or.inl ⟨_, rfl⟩) (dcg dc_X5_latestText 5 rfl) ⟨rfl, rfl⟩ (Nat.le_refl _) (Nat.le_refl _)
theorem dc_X5_forgetLatest : decs cX5_forgetLatest [(0, .aload_n 0, 1), (1, .getfield 19, 3), (4, .ifCond .le 13, 3), (7, .aload_n 0, 1), (8, .dup, 1), (9, .getfield 19, 3), (12, .iconst 1, 1), (13, .isub, 1), (14, .putfield 19, 3), (17, .return_, 1)] = true := by decide +kernel
noncomputable def fX5_forgetLatest_b17  (h : PH) : Option PH :=
  some (h)
set_option maxRecDepth 100000 in
theorem mX5_forgetLatest_b17  {h : PH} {r : PH} (hf : fX5_forgetLatest_b17  h = some r) : eqz h (hX r) (hV r) := by
  unfold fX5_forgetLatest_b17 at hf
  have hle := eqz_rf h
  have ee := Option.some.inj hf; subst ee; exact hle
set_option maxRecDepth 100000 in
theorem wX5_forgetLatest_b17 {E : PE} {p : Program} {l : Launch} {e : Env} {s : State} {m : MethodId} {args : Array Value} {below : List Frame} {meth : Method} {c : Code} (X : Cx E p l e (rmv 0 0 0) s m args below meth c RX5 cX5_forgetLatest 1 (none)) (hG : Gs E l) (hnm : meth.name = yX5_forgetLatest.name)  {h : PH} {r : PH} (hf : fX5_forgetLatest_b17  h = some r)  : PW E p l e (rmv 0 0 0) s m args below meth c 1 0 0 (MQ below (QG E (fun v u => v = none ∧ u = r)) args s 0 0 (pA E)) h 17 [] [] := by
  unfold fX5_forgetLatest_b17 at hf
  have er := Option.some.inj hf
  subst er
  exact p_vret X rfl (dcg dc_X5_forgetLatest 9 rfl) ⟨rfl, rfl⟩ (Nat.le_refl _) (Nat.le_refl _)
noncomputable def fX5_forgetLatest (v0 : Nat) (h : PH) : Option PH :=
  gd (hK h v0 = 5) (if ((hI h 5 v0 3) ≤ 0) then (fX5_forgetLatest_b17  h) else
  lt (sI h 5 v0 3 ((hI h 5 v0 3) - (1 : Int32))) (fun h2 =>
  fX5_forgetLatest_b17  h2))
set_option maxRecDepth 100000 in
theorem mX5_forgetLatest {v0 : Nat} {h : PH} {r : PH} (hf : fX5_forgetLatest v0 h = some r) : eqz h (hX r) (hV r) := by
  unfold fX5_forgetLatest at hf
  have hle := eqz_rf h
  obtain ⟨hk1, hf⟩ := gd_some hf
  rcases ite_or hf with ⟨q, hf⟩ | ⟨q, hf⟩
  · have hf := if_t q hf
    exact eqz_rt (mX5_forgetLatest_b17 hf) hle
  · have hf := if_f q hf
    obtain ⟨h2, rfl, hf⟩ := lt_some hf
    exact eqz_rt (mX5_forgetLatest_b17 hf) hle
set_option maxRecDepth 100000 in
theorem wX5_forgetLatest {E : PE} {l : Launch} (hG : Gs E l) {v0 : Nat} {h : PH} {r : PH} (hf : fX5_forgetLatest v0 h = some r) : Ct E l 0 0 0 yX5_forgetLatest cX5_forgetLatest 1 (none) [.ref v0] h (fun v u => v = none ∧ u = r) := by
  refine ct_of hG (by decide) (Nat.le_of_ble_eq_true rfl) ?_
  intro p e s m args below meth c X hnm
  show PW E p l e _ s m args below meth c _ 0 0 _ h 0 [(0, some (.ref v0))] []
  unfold fX5_forgetLatest at hf
  refine p_aload_n X (dcg dc_X5_forgetLatest 0 rfl) rfl rfl ?_
  obtain ⟨hk1, hf⟩ := gd_some hf
  refine p_getI X fl_X5_19 rfl (by decide) (dcg dc_X5_forgetLatest 1 rfl) hk1 ?_
  refine p_if_le (tgt := 17) X (dcg dc_X5_forgetLatest 2 rfl) (by decide) (fun q => ?_) (fun q => ?_)
  · have hf := if_t q hf
    refine p_pick [] ?_
    exact wX5_forgetLatest_b17 X hG hnm hf 
  · have hf := if_f q hf
    refine p_aload_n X (dcg dc_X5_forgetLatest 3 rfl) rfl rfl ?_
    refine p_dup X (dcg dc_X5_forgetLatest 4 rfl) rfl ?_
    refine p_getI X fl_X5_19 rfl (by decide) (dcg dc_X5_forgetLatest 5 rfl) hk1 ?_
    refine p_iconst (v := 1) X (dcg dc_X5_forgetLatest 6 rfl) (by decide) ?_
    refine p_isub X (dcg dc_X5_forgetLatest 7 rfl) ?_
    refine p_putI X fl_X5_19 rfl (by decide) (fun q hq => by cases hq; rfl) rfl rfl (dcg dc_X5_forgetLatest 8 rfl) hk1 ?_
    obtain ⟨h2, rfl, hf⟩ := lt_some hf
    refine p_pick [] ?_
    exact wX5_forgetLatest_b17 X hG hnm hf 
theorem dc_X6_init : decs cX6_init [(0, .aload_n 0, 1), (1, .invokespecial 3, 3), (4, .aload_n 0, 1), (5, .bipush 20, 2), (7, .newarray .int, 2), (9, .putfield 11, 3), (12, .aload_n 0, 1), (13, .aload_n 1, 1), (14, .putfield 15, 3), (17, .return_, 1)] = true := by decide +kernel
noncomputable def fX6_init_b9 (v0 : Nat) (v1 : Option Nat) (t0 : Nat) (t1 : Nat) (h : PH) : Option PH :=
  gd (hK h t0 = 6) (lt (sR h 6 t0 1 (some t1)) (fun h3 =>
  gd (hK h3 v0 = 6) (lt (sR h3 6 v0 0 v1) (fun h5 =>
  some (h5)))))
set_option maxRecDepth 100000 in
theorem mX6_init_b9 {v0 : Nat} {v1 : Option Nat} {t0 : Nat} {t1 : Nat} {h : PH} {r : PH} (hf : fX6_init_b9 v0 v1 t0 t1 h = some r) : lez h (hX r) (hV r) := by
  unfold fX6_init_b9 at hf
  have hle := lez_rf h
  obtain ⟨hk2, hf⟩ := gd_some hf
  obtain ⟨h3, rfl, hf⟩ := lt_some hf
  obtain ⟨hk4, hf⟩ := gd_some hf
  obtain ⟨h5, rfl, hf⟩ := lt_some hf
  have ee := Option.some.inj hf; subst ee; exact hle
set_option maxRecDepth 100000 in
theorem wX6_init_b9 {E : PE} {p : Program} {l : Launch} {e : Env} {s : State} {m : MethodId} {args : Array Value} {below : List Frame} {meth : Method} {c : Code} {X0 V0 MC MS uc us : Nat} (X : Cx E p l e (rmv 1 MC MS) s m args below meth c RX6 cX6_init 2 (none)) (hG : Gs E l) (hnm : meth.name = yX6_init.name) {v0 : Nat} {v1 : Option Nat} {t0 : Nat} {t1 : Nat} {h : PH} {r : PH} (hM : MC + X0 = (hX r)) (hN : MS + V0 = (hV r)) (hu : uc + X0 = hX h) (hv : us + V0 = hV h) (hf : fX6_init_b9 v0 v1 t0 t1 h = some r)  : PW E p l e (rmv 1 MC MS) s m args below meth c 2 uc us (MQ below (QG E (fun v u => v = none ∧ u = r)) args s MC MS (pA E)) h 9 [(0, some (.ref v0)), (1, some (va_rf v1))] [.ref t1, .ref t0] := by
  have hm1 : lez h (hX r) (hV r) := mX6_init_b9 hf
  have hcm : uc ≤ MC := (by have o0 := hm1.1; have o1 := hM; have o2 := hu; (try simp only [hX_sI, hX_sR, hX_sL, hX_sD, hX_sIa, hX_sRa, hV_sI, hV_sR, hV_sL, hV_sD, hV_sIa, hV_sRa, hX_new, hV_new] at o0 o1 o2 ⊢); omega)
  have hsm : us ≤ MS := (by have o0 := hm1.2; have o1 := hN; have o2 := hv; (try simp only [hX_sI, hX_sR, hX_sL, hX_sD, hX_sIa, hX_sRa, hV_sI, hV_sR, hV_sL, hV_sD, hV_sIa, hV_sRa, hX_new, hV_new] at o0 o1 o2 ⊢); omega)
  clear hm1
  unfold fX6_init_b9 at hf
  obtain ⟨hk2, hf⟩ := gd_some hf
  refine p_putRf (v := some _) X fl_X6_11 rfl (by decide) (fun q hq => by cases hq; exact ⟨rfl, rfl⟩) hnm (nar_rf _ (by decide)) (fit_rf _ (by decide)) (dcg dc_X6_init 5 rfl) hk2 ?_
  obtain ⟨h3, rfl, hf⟩ := lt_some hf
  refine p_aload_n X (dcg dc_X6_init 6 rfl) rfl rfl ?_
  refine p_aloadq_n X (dcg dc_X6_init 7 rfl) rfl rfl ?_
  obtain ⟨hk4, hf⟩ := gd_some hf
  refine p_putRf X fl_X6_15 rfl (by decide) (fun q hq => by cases hq; exact ⟨rfl, rfl⟩) hnm (nar_rf _ (by decide)) (fit_rf _ (by decide)) (dcg dc_X6_init 8 rfl) hk4 ?_
  obtain ⟨h5, rfl, hf⟩ := lt_some hf
  have er := Option.some.inj hf
  subst er
  exact p_vret X rfl (dcg dc_X6_init 9 rfl) ⟨rfl, rfl⟩ hcm hsm
noncomputable def fX6_init_b0 (v0 : Nat) (v1 : Option Nat) (h : PH) : Option PH :=
  gd (¬ (20 : Int32) < 0 ∧ (Int32.toNatClampNeg (20 : Int32)) ≤ 1000000) (fX6_init_b9 v0 v1 v0 (hX h) (hnew h 20 (Int32.toNatClampNeg (20 : Int32))))
set_option maxRecDepth 100000 in
theorem mX6_init_b0 {v0 : Nat} {v1 : Option Nat} {h : PH} {r : PH} (hf : fX6_init_b0 v0 v1 h = some r) : lez h (hX r) (hV r) := by
  unfold fX6_init_b0 at hf
  have hle := lez_rf h
  obtain ⟨hg1, hf⟩ := gd_some hf
  have hle := lez_nw (c := 20) (n := (Int32.toNatClampNeg (20 : Int32))) hle
  exact lez_rt (mX6_init_b9 hf) hle
set_option maxRecDepth 100000 in
theorem wX6_init_b0 {E : PE} {p : Program} {l : Launch} {e : Env} {s : State} {m : MethodId} {args : Array Value} {below : List Frame} {meth : Method} {c : Code} {X0 V0 MC MS uc us : Nat} (X : Cx E p l e (rmv 1 MC MS) s m args below meth c RX6 cX6_init 2 (none)) (hG : Gs E l) (hnm : meth.name = yX6_init.name) {v0 : Nat} {v1 : Option Nat} {h : PH} {r : PH} (hM : MC + X0 = (hX r)) (hN : MS + V0 = (hV r)) (hu : uc + X0 = hX h) (hv : us + V0 = hV h) (hf : fX6_init_b0 v0 v1 h = some r)  : PW E p l e (rmv 1 MC MS) s m args below meth c 2 uc us (MQ below (QG E (fun v u => v = none ∧ u = r)) args s MC MS (pA E)) h 0 [(0, some (.ref v0)), (1, some (va_rf v1))] [] := by
  have hm1 : lez h (hX r) (hV r) := mX6_init_b0 hf
  have hcm : uc ≤ MC := (by have o0 := hm1.1; have o1 := hM; have o2 := hu; (try simp only [hX_sI, hX_sR, hX_sL, hX_sD, hX_sIa, hX_sRa, hV_sI, hV_sR, hV_sL, hV_sD, hV_sIa, hV_sRa, hX_new, hV_new] at o0 o1 o2 ⊢); omega)
  have hsm : us ≤ MS := (by have o0 := hm1.2; have o1 := hN; have o2 := hv; (try simp only [hX_sI, hX_sR, hX_sL, hX_sD, hX_sIa, hX_sRa, hV_sI, hV_sR, hV_sL, hV_sD, hV_sIa, hV_sRa, hX_new, hV_new] at o0 o1 o2 ⊢); omega)
  clear hm1
  unfold fX6_init_b0 at hf
  refine p_aload_n X (dcg dc_X6_init 0 rfl) rfl rfl ?_
  refine p_objinit X tw_174 tw_146 tw_147 (dcg dc_X6_init 1 rfl) (Nat.le_of_ble_eq_true rfl) (Nat.le_trans (Nat.add_le_add_right (room4 (Nat.le_of_ble_eq_true rfl)) 12) (Nat.le_of_ble_eq_true rfl)) (fun ls hl => hl.1.trans X.2.2.1.symm) ?_
  refine p_aload_n X (dcg dc_X6_init 2 rfl) rfl rfl ?_
  refine p_bipush (v := 20) X (dcg dc_X6_init 3 rfl) (by decide) ?_
  obtain ⟨hg1, hf⟩ := gd_some hf
  have hm1 : lez _ (hX r) (hV r) := mX6_init_b9 hf
  have hm2 := lez_new hm1
  refine p_newa20 X tw_168 (dcg dc_X6_init 4 rfl) hg1.1 hg1.2 (show uc + 1 ≤ MC from (by have o0 := hm2.1; have o1 := hM; have o2 := hu; (try simp only [hX_sI, hX_sR, hX_sL, hX_sD, hX_sIa, hX_sRa, hV_sI, hV_sR, hV_sL, hV_sD, hV_sIa, hV_sRa, hX_new, hV_new] at o0 o1 o2 ⊢); omega)) (show us + (Int32.toNatClampNeg (20 : Int32)) ≤ MS from (by have o0 := hm2.2; have o1 := hN; have o2 := hv; (try simp only [hX_sI, hX_sR, hX_sL, hX_sD, hX_sIa, hX_sRa, hV_sI, hV_sR, hV_sL, hV_sD, hV_sIa, hV_sRa, hX_new, hV_new] at o0 o1 o2 ⊢); omega)) ?_
  refine p_pick [0, 1] ?_
  exact wX6_init_b9 X hG hnm hM hN (by have o0 := hu; (try simp only [hX_sI, hX_sR, hX_sL, hX_sD, hX_sIa, hX_sRa, hV_sI, hV_sR, hV_sL, hV_sD, hV_sIa, hV_sRa, hX_new, hV_new] at o0 ⊢); omega) (by have o0 := hv; (try simp only [hX_sI, hX_sR, hX_sL, hX_sD, hX_sIa, hX_sRa, hV_sI, hV_sR, hV_sL, hV_sD, hV_sIa, hV_sRa, hX_new, hV_new] at o0 ⊢); omega) hf 
noncomputable def fX6_init (v0 : Nat) (v1 : Option Nat) (h : PH) : Option PH :=
  fX6_init_b0 v0 v1 h
set_option maxRecDepth 100000 in
theorem mX6_init {v0 : Nat} {v1 : Option Nat} {h : PH} {r : PH} (hf : fX6_init v0 v1 h = some r) : lez h (hX r) (hV r) := by
  unfold fX6_init at hf
  have hle := lez_rf h
  exact lez_rt (mX6_init_b0 hf) hle
set_option maxRecDepth 100000 in
theorem wX6_init {E : PE} {l : Launch} (hG : Gs E l) {v0 : Nat} {v1 : Option Nat} {h : PH} {r : PH} (hf : fX6_init v0 v1 h = some r) : Ct E l 1 ((hX r) - hX h) ((hV r) - hV h) yX6_init cX6_init 2 (none) [.ref v0, va_rf v1] h (fun v u => v = none ∧ u = r) := by
  have hmm := mX6_init hf
  refine ct_of hG (by decide) (by simp [lg_sl, cat_rf, cat_r, cat_i, cat_l, cat_d, cat_f]) ?_
  intro p e s m args below meth c X hnm
  rw [show pargs 0 [.ref v0, va_rf v1] = [(0, some (.ref v0)), (1, some (va_rf v1))] from by simp [pargs, cat_rf, cat_r, cat_i, cat_l, cat_d, cat_f]]
  unfold fX6_init at hf
  have hM := Nat.sub_add_cancel hmm.1
  have hN := Nat.sub_add_cancel hmm.2
  refine p_pick [0, 1] ?_
  exact wX6_init_b0 X hG hnm hM hN (Nat.zero_add _) (Nat.zero_add _) hf
theorem dc_X6_advanceWord : decs cX6_advanceWord [(0, .aload_n 0, 1), (1, .getfield 19, 3), (4, .aload_n 0, 1), (5, .getfield 15, 3), (8, .getfield 96, 3), (11, .if_icmp .ge 79, 3), (14, .aload_n 0, 1), (15, .getfield 15, 3), (18, .getfield 99, 3), (21, .aload_n 0, 1), (22, .getfield 19, 3), (25, .iaload, 1), (26, .bipush 97, 2), (28, .if_icmp .lt 62, 3), (31, .aload_n 0, 1), (32, .getfield 15, 3), (35, .getfield 99, 3), (38, .aload_n 0, 1), (39, .getfield 19, 3), (42, .iaload, 1), (43, .bipush 122, 2), (45, .if_icmp .gt 45, 3), (48, .aload_n 0, 1), (49, .aload_n 0, 1), (50, .getfield 83, 3), (53, .bipush 27, 2), (55, .imul, 1), (56, .aload_n 0, 1), (57, .getfield 15, 3), (60, .getfield 99, 3), (63, .aload_n 0, 1), (64, .getfield 19, 3), (67, .iaload, 1), (68, .iadd, 1), (69, .bipush 97, 2), (71, .isub, 1), (72, .iconst 1, 1), (73, .iadd, 1), (74, .putfield 83, 3), (77, .aload_n 0, 1), (78, .dup, 1), (79, .getfield 19, 3), (82, .iconst 1, 1), (83, .iadd, 1), (84, .putfield 19, 3), (87, .goto (-87), 3), (90, .aload_n 0, 1), (91, .dup, 1), (92, .getfield 23, 3), (95, .iconst 1, 1), (96, .iadd, 1), (97, .putfield 23, 3), (100, .aload_n 0, 1), (101, .getfield 19, 3), (104, .aload_n 0, 1), (105, .getfield 49, 3), (108, .isub, 1), (109, .bipush 6, 2), (111, .if_icmp .gt 16, 3), (114, .aload_n 0, 1), (115, .getfield 23, 3), (118, .bipush 20, 2), (120, .if_icmp .gt 7, 3), (123, .iconst 1, 1), (124, .goto 4, 3), (127, .iconst 0, 1), (128, .istore_n 1, 1), (129, .aload_n 0, 1), (130, .iload_n 1, 1), (131, .ifCond .eq 7, 3), (134, .iconst 2, 1), (135, .goto 4, 3), (138, .iconst 1, 1), (139, .putfield 36, 3), (142, .return_, 1)] = true := by decide +kernel
noncomputable def fX6_advanceWord_b139 (t0 : Option Nat) (t1 : Int32) (h : PH) : Option PH :=
  gs t0 (fun a7 =>
  gd (hK h a7 = 6) (lt (sI h 6 a7 3 t1) (fun h10 =>
  some (h10))))
set_option maxRecDepth 100000 in
theorem mX6_advanceWord_b139 {t0 : Option Nat} {t1 : Int32} {h : PH} {r : PH} (hf : fX6_advanceWord_b139 t0 t1 h = some r) : eqz h (hX r) (hV r) := by
  unfold fX6_advanceWord_b139 at hf
  have hle := eqz_rf h
  obtain ⟨a7, e8, hf⟩ := gs_some hf
  obtain ⟨hk9, hf⟩ := gd_some hf
  obtain ⟨h10, rfl, hf⟩ := lt_some hf
  have ee := Option.some.inj hf; subst ee; exact hle
set_option maxRecDepth 100000 in
theorem wX6_advanceWord_b139 {E : PE} {p : Program} {l : Launch} {e : Env} {s : State} {m : MethodId} {args : Array Value} {below : List Frame} {meth : Method} {c : Code} (X : Cx E p l e (rmv 0 0 0) s m args below meth c RX6 cX6_advanceWord 2 (none)) (hG : Gs E l) (hnm : meth.name = yX6_advanceWord.name) {t0 : Option Nat} {t1 : Int32} {h : PH} {r : PH} (hf : fX6_advanceWord_b139 t0 t1 h = some r)  : PW E p l e (rmv 0 0 0) s m args below meth c 2 0 0 (MQ below (QG E (fun v u => v = none ∧ u = r)) args s 0 0 (pA E)) h 139 [] [.int t1, va_rf t0] := by
  unfold fX6_advanceWord_b139 at hf
  obtain ⟨a7, e8, hf⟩ := gs_some hf
  first | subst e8 | (try rw [e8])
  obtain ⟨hk9, hf⟩ := gd_some hf
  refine p_putI X fl_X6_36 rfl (by decide) (fun q hq => by cases hq; rfl) rfl rfl (dcg dc_X6_advanceWord 73 rfl) hk9 ?_
  obtain ⟨h10, rfl, hf⟩ := lt_some hf
  have er := Option.some.inj hf
  subst er
  exact p_vret X rfl (dcg dc_X6_advanceWord 74 rfl) ⟨rfl, rfl⟩ (Nat.le_refl _) (Nat.le_refl _)
noncomputable def fX6_advanceWord_b128 (v0 : Nat) (t0 : Int32) (h : PH) : Option PH :=
  if (t0 = 0) then (fX6_advanceWord_b139 (some v0) (1 : Int32) h) else
  fX6_advanceWord_b139 (some v0) (2 : Int32) h
set_option maxRecDepth 100000 in
theorem mX6_advanceWord_b128 {v0 : Nat} {t0 : Int32} {h : PH} {r : PH} (hf : fX6_advanceWord_b128 v0 t0 h = some r) : eqz h (hX r) (hV r) := by
  unfold fX6_advanceWord_b128 at hf
  have hle := eqz_rf h
  rcases ite_or hf with ⟨q, hf⟩ | ⟨q, hf⟩
  · have hf := if_t q hf
    exact eqz_rt (mX6_advanceWord_b139 hf) hle
  · have hf := if_f q hf
    exact eqz_rt (mX6_advanceWord_b139 hf) hle
set_option maxRecDepth 100000 in
theorem wX6_advanceWord_b128 {E : PE} {p : Program} {l : Launch} {e : Env} {s : State} {m : MethodId} {args : Array Value} {below : List Frame} {meth : Method} {c : Code} (X : Cx E p l e (rmv 0 0 0) s m args below meth c RX6 cX6_advanceWord 2 (none)) (hG : Gs E l) (hnm : meth.name = yX6_advanceWord.name) {v0 : Nat} {t0 : Int32} {h : PH} {r : PH} (hf : fX6_advanceWord_b128 v0 t0 h = some r)  : PW E p l e (rmv 0 0 0) s m args below meth c 2 0 0 (MQ below (QG E (fun v u => v = none ∧ u = r)) args s 0 0 (pA E)) h 128 [(0, some (.ref v0))] [.int t0] := by
  unfold fX6_advanceWord_b128 at hf
  refine p_istore_n X (dcg dc_X6_advanceWord 66 rfl) rfl (by decide) rfl ?_
  refine p_aload_n X (dcg dc_X6_advanceWord 67 rfl) rfl rfl ?_
  refine p_iload_n X (dcg dc_X6_advanceWord 68 rfl) rfl rfl ?_
  refine p_if_eq (tgt := 138) X (dcg dc_X6_advanceWord 69 rfl) (by decide) (fun q => ?_) (fun q => ?_)
  · have hf := if_t q hf
    refine p_iconst (v := 1) X (dcg dc_X6_advanceWord 72 rfl) (by decide) ?_
    refine p_pick [] ?_
    exact wX6_advanceWord_b139 X hG hnm hf 
  · have hf := if_f q hf
    refine p_iconst (v := 2) X (dcg dc_X6_advanceWord 70 rfl) (by decide) ?_
    refine p_goto (tgt := 139) X (dcg dc_X6_advanceWord 71 rfl) (by decide) ?_
    refine p_pick [] ?_
    exact wX6_advanceWord_b139 X hG hnm hf 
noncomputable def fX6_advanceWord_b127 (v0 : Nat) (h : PH) : Option PH :=
  fX6_advanceWord_b128 v0 (0 : Int32) h
set_option maxRecDepth 100000 in
theorem mX6_advanceWord_b127 {v0 : Nat} {h : PH} {r : PH} (hf : fX6_advanceWord_b127 v0 h = some r) : eqz h (hX r) (hV r) := by
  unfold fX6_advanceWord_b127 at hf
  have hle := eqz_rf h
  exact eqz_rt (mX6_advanceWord_b128 hf) hle
set_option maxRecDepth 100000 in
theorem wX6_advanceWord_b127 {E : PE} {p : Program} {l : Launch} {e : Env} {s : State} {m : MethodId} {args : Array Value} {below : List Frame} {meth : Method} {c : Code} (X : Cx E p l e (rmv 0 0 0) s m args below meth c RX6 cX6_advanceWord 2 (none)) (hG : Gs E l) (hnm : meth.name = yX6_advanceWord.name) {v0 : Nat} {h : PH} {r : PH} (hf : fX6_advanceWord_b127 v0 h = some r)  : PW E p l e (rmv 0 0 0) s m args below meth c 2 0 0 (MQ below (QG E (fun v u => v = none ∧ u = r)) args s 0 0 (pA E)) h 127 [(0, some (.ref v0))] [] := by
  unfold fX6_advanceWord_b127 at hf
  refine p_iconst (v := 0) X (dcg dc_X6_advanceWord 65 rfl) (by decide) ?_
  refine p_pick [0] ?_
  exact wX6_advanceWord_b128 X hG hnm hf 
noncomputable def fX6_advanceWord_b90 (v0 : Nat) (h : PH) : Option PH :=
  gd (hK h v0 = 6) (lt (sI h 6 v0 6 ((hI h 6 v0 6) + (1 : Int32))) (fun h6 =>
  if ((6 : Int32) < ((hI h6 6 v0 2) - (hI h6 6 v0 4))) then (fX6_advanceWord_b127 v0 h6) else
  if ((20 : Int32) < (hI h6 6 v0 6)) then (fX6_advanceWord_b127 v0 h6) else
  fX6_advanceWord_b128 v0 (1 : Int32) h6))
set_option maxRecDepth 100000 in
theorem mX6_advanceWord_b90 {v0 : Nat} {h : PH} {r : PH} (hf : fX6_advanceWord_b90 v0 h = some r) : eqz h (hX r) (hV r) := by
  unfold fX6_advanceWord_b90 at hf
  have hle := eqz_rf h
  obtain ⟨hk5, hf⟩ := gd_some hf
  obtain ⟨h6, rfl, hf⟩ := lt_some hf
  rcases ite_or hf with ⟨q, hf⟩ | ⟨q, hf⟩
  · have hf := if_t q hf
    exact eqz_rt (mX6_advanceWord_b127 hf) hle
  · have hf := if_f q hf
    rcases ite_or hf with ⟨q, hf⟩ | ⟨q, hf⟩
    · have hf := if_t q hf
      exact eqz_rt (mX6_advanceWord_b127 hf) hle
    · have hf := if_f q hf
      exact eqz_rt (mX6_advanceWord_b128 hf) hle
set_option maxRecDepth 100000 in
theorem wX6_advanceWord_b90 {E : PE} {p : Program} {l : Launch} {e : Env} {s : State} {m : MethodId} {args : Array Value} {below : List Frame} {meth : Method} {c : Code} (X : Cx E p l e (rmv 0 0 0) s m args below meth c RX6 cX6_advanceWord 2 (none)) (hG : Gs E l) (hnm : meth.name = yX6_advanceWord.name) {v0 : Nat} {h : PH} {r : PH} (hf : fX6_advanceWord_b90 v0 h = some r)  : PW E p l e (rmv 0 0 0) s m args below meth c 2 0 0 (MQ below (QG E (fun v u => v = none ∧ u = r)) args s 0 0 (pA E)) h 90 [(0, some (.ref v0))] [] := by
  unfold fX6_advanceWord_b90 at hf
  refine p_aload_n X (dcg dc_X6_advanceWord 46 rfl) rfl rfl ?_
  refine p_dup X (dcg dc_X6_advanceWord 47 rfl) rfl ?_
  obtain ⟨hk5, hf⟩ := gd_some hf
  refine p_getI X fl_X6_23 rfl (by decide) (dcg dc_X6_advanceWord 48 rfl) hk5 ?_
  refine p_iconst (v := 1) X (dcg dc_X6_advanceWord 49 rfl) (by decide) ?_
  refine p_iadd X (dcg dc_X6_advanceWord 50 rfl) ?_
  refine p_putI X fl_X6_23 rfl (by decide) (fun q hq => by cases hq; rfl) rfl rfl (dcg dc_X6_advanceWord 51 rfl) hk5 ?_
  obtain ⟨h6, rfl, hf⟩ := lt_some hf
  refine p_aload_n X (dcg dc_X6_advanceWord 52 rfl) rfl rfl ?_
  refine p_getI X fl_X6_19 rfl (by decide) (dcg dc_X6_advanceWord 53 rfl) hk5 ?_
  refine p_aload_n X (dcg dc_X6_advanceWord 54 rfl) rfl rfl ?_
  refine p_getI X fl_X6_49 rfl (by decide) (dcg dc_X6_advanceWord 55 rfl) hk5 ?_
  refine p_isub X (dcg dc_X6_advanceWord 56 rfl) ?_
  refine p_bipush (v := 6) X (dcg dc_X6_advanceWord 57 rfl) (by decide) ?_
  refine p_icmp_gt (tgt := 127) X (dcg dc_X6_advanceWord 58 rfl) (by decide) (fun q => ?_) (fun q => ?_)
  · have hf := if_t q hf
    refine p_pick [0] ?_
    exact wX6_advanceWord_b127 X hG hnm hf 
  · have hf := if_f q hf
    refine p_aload_n X (dcg dc_X6_advanceWord 59 rfl) rfl rfl ?_
    refine p_getI X fl_X6_23 rfl (by decide) (dcg dc_X6_advanceWord 60 rfl) hk5 ?_
    refine p_bipush (v := 20) X (dcg dc_X6_advanceWord 61 rfl) (by decide) ?_
    refine p_icmp_gt (tgt := 127) X (dcg dc_X6_advanceWord 62 rfl) (by decide) (fun q => ?_) (fun q => ?_)
    · have hf := if_t q hf
      refine p_pick [0] ?_
      exact wX6_advanceWord_b127 X hG hnm hf 
    · have hf := if_f q hf
      refine p_iconst (v := 1) X (dcg dc_X6_advanceWord 63 rfl) (by decide) ?_
      refine p_goto (tgt := 128) X (dcg dc_X6_advanceWord 64 rfl) (by decide) ?_
      refine p_pick [0] ?_
      exact wX6_advanceWord_b128 X hG hnm hf 
noncomputable def fX6_advanceWord_c0 (v0 : Nat) (h : PH) : Option ((PH) ⊕ PH) :=
  gd (hK h v0 = 6) (gs (hR h 6 v0 0) (fun a2 =>
  gd (hK h a2 = 7) (if ((hI h 7 a2 1) ≤ (hI h 6 v0 2)) then (mr (fX6_advanceWord_b90 v0 h)) else
  gs (hR h 6 v0 0) (fun a13 =>
  gd (hK h a13 = 7) (gs (hR h 7 a13 0) (fun a16 =>
  gd (hK h a16 = 20 ∧ inb (hI h 6 v0 2) (hN h a16)) (if ((hI h 20 a16 (Int32.toNatClampNeg (hI h 6 v0 2))) < (97 : Int32)) then (mr (fX6_advanceWord_b90 v0 h)) else
  gs (hR h 6 v0 0) (fun a22 =>
  gd (hK h a22 = 7) (gs (hR h 7 a22 0) (fun a25 =>
  gd (hK h a25 = 20 ∧ inb (hI h 6 v0 2) (hN h a25)) (if ((122 : Int32) < (hI h 20 a25 (Int32.toNatClampNeg (hI h 6 v0 2)))) then (mr (fX6_advanceWord_b90 v0 h)) else
  gs (hR h 6 v0 0) (fun a31 =>
  gd (hK h a31 = 7) (gs (hR h 7 a31 0) (fun a34 =>
  gd (hK h a34 = 20 ∧ inb (hI h 6 v0 2) (hN h a34)) (lt (sI h 6 v0 5 (((((hI h 6 v0 5) * (27 : Int32)) + (hI h 20 a34 (Int32.toNatClampNeg (hI h 6 v0 2)))) - (97 : Int32)) + (1 : Int32))) (fun h38 =>
  lt (sI h38 6 v0 2 ((hI h38 6 v0 2) + (1 : Int32))) (fun h39 =>
  some (.inl (h39)))))))))))))))))))
set_option maxRecDepth 100000 in
theorem mX6_advanceWord_c0 {v0 : Nat} {h : PH} {x : ((PH) ⊕ PH)} (hf : fX6_advanceWord_c0 v0 h = some x) : (∀ w9 : (PH), x = .inl w9 → eqz h (hX (w9)) (hV (w9))) ∧ (∀ w9 : PH, x = .inr w9 → eqz h (hX w9) (hV w9)) := by
  unfold fX6_advanceWord_c0 at hf
  have hle := eqz_rf h
  obtain ⟨hk1, hf⟩ := gd_some hf
  obtain ⟨a2, e3, hf⟩ := gs_some hf
  obtain ⟨hk4, hf⟩ := gd_some hf
  rcases ite_or hf with ⟨q, hf⟩ | ⟨q, hf⟩
  · have hf := if_t q hf
    obtain ⟨y11, hfm, rfl⟩ := mr_some hf; have hf := hfm; clear hfm
    have cf := mX6_advanceWord_b90 hf
    exact ⟨(fun z e => nomatch e), (fun z e => by cases e <;> exact eqz_rt cf hle)⟩
  · have hf := if_f q hf
    obtain ⟨a13, e14, hf⟩ := gs_some hf
    obtain ⟨hk15, hf⟩ := gd_some hf
    obtain ⟨a16, e17, hf⟩ := gs_some hf
    obtain ⟨⟨hk19, hb18⟩, hf⟩ := gd_some hf
    rcases ite_or hf with ⟨q, hf⟩ | ⟨q, hf⟩
    · have hf := if_t q hf
      obtain ⟨y20, hfm, rfl⟩ := mr_some hf; have hf := hfm; clear hfm
      have cf := mX6_advanceWord_b90 hf
      exact ⟨(fun z e => nomatch e), (fun z e => by cases e <;> exact eqz_rt cf hle)⟩
    · have hf := if_f q hf
      obtain ⟨a22, e23, hf⟩ := gs_some hf
      obtain ⟨hk24, hf⟩ := gd_some hf
      obtain ⟨a25, e26, hf⟩ := gs_some hf
      obtain ⟨⟨hk28, hb27⟩, hf⟩ := gd_some hf
      rcases ite_or hf with ⟨q, hf⟩ | ⟨q, hf⟩
      · have hf := if_t q hf
        obtain ⟨y29, hfm, rfl⟩ := mr_some hf; have hf := hfm; clear hfm
        have cf := mX6_advanceWord_b90 hf
        exact ⟨(fun z e => nomatch e), (fun z e => by cases e <;> exact eqz_rt cf hle)⟩
      · have hf := if_f q hf
        obtain ⟨a31, e32, hf⟩ := gs_some hf
        obtain ⟨hk33, hf⟩ := gd_some hf
        obtain ⟨a34, e35, hf⟩ := gs_some hf
        obtain ⟨⟨hk37, hb36⟩, hf⟩ := gd_some hf
        obtain ⟨h38, rfl, hf⟩ := lt_some hf
        obtain ⟨h39, rfl, hf⟩ := lt_some hf
        have ee := Option.some.inj hf; subst ee
        exact ⟨(fun z e => by have ee := Sum.inl.inj (e); subst ee; exact hle), (fun z e => nomatch e)⟩
set_option maxRecDepth 100000 in
theorem wX6_advanceWord_c0 {E : PE} {p : Program} {l : Launch} {e : Env} {s : State} {m : MethodId} {args : Array Value} {below : List Frame} {meth : Method} {c : Code} (X : Cx E p l e (rmv 0 0 0) s m args below meth c RX6 cX6_advanceWord 2 (none)) (hG : Gs E l) (hnm : meth.name = yX6_advanceWord.name) {v0 : Nat} {h : PH} {r : PH} {x : ((PH) ⊕ PH)} (hf : fX6_advanceWord_c0 v0 h = some x) (k0 : ∀ z : (PH), x = .inl z → PW E p l e (rmv 0 0 0) s m args below meth c 2 0 0 (MQ below (QG E (fun v u => v = none ∧ u = r)) args s 0 0 (pA E)) (z) 0 [(0, some (.ref v0))] []) (kf : ∀ z : PH, x = .inr z → z = r) : PW E p l e (rmv 0 0 0) s m args below meth c 2 0 0 (MQ below (QG E (fun v u => v = none ∧ u = r)) args s 0 0 (pA E)) h 0 [(0, some (.ref v0))] [] := by
  unfold fX6_advanceWord_c0 at hf
  refine p_aload_n X (dcg dc_X6_advanceWord 0 rfl) rfl rfl ?_
  obtain ⟨hk1, hf⟩ := gd_some hf
  refine p_getI X fl_X6_19 rfl (by decide) (dcg dc_X6_advanceWord 1 rfl) hk1 ?_
  refine p_aload_n X (dcg dc_X6_advanceWord 2 rfl) rfl rfl ?_
  refine p_getR X fl_X6_15 rfl (by decide) (dcg dc_X6_advanceWord 3 rfl) hk1 ?_
  obtain ⟨a2, e3, hf⟩ := gs_some hf
  first | subst e3 | (try rw [e3])
  obtain ⟨hk4, hf⟩ := gd_some hf
  refine p_getIn X fl_X6_96 rfl (by decide) (dcg dc_X6_advanceWord 4 rfl) hk4 ?_
  refine p_icmp_ge (tgt := 90) X (dcg dc_X6_advanceWord 5 rfl) (by decide) (fun q => ?_) (fun q => ?_)
  · have hf := if_t q hf
    obtain ⟨y11, hf, hy12⟩ := mr_some hf
    have hy12f := kf y11 hy12
    subst hy12f
    refine p_pick [0] ?_
    exact wX6_advanceWord_b90 X hG hnm hf 
  · have hf := if_f q hf
    refine p_aload_n X (dcg dc_X6_advanceWord 6 rfl) rfl rfl ?_
    refine p_getR X fl_X6_15 rfl (by decide) (dcg dc_X6_advanceWord 7 rfl) hk1 ?_
    obtain ⟨a13, e14, hf⟩ := gs_some hf
    first | subst e14 | (try rw [e14])
    obtain ⟨hk15, hf⟩ := gd_some hf
    refine p_getRn X fl_X6_99 rfl (by decide) (dcg dc_X6_advanceWord 8 rfl) hk15 ?_
    refine p_aload_n X (dcg dc_X6_advanceWord 9 rfl) rfl rfl ?_
    refine p_getI X fl_X6_19 rfl (by decide) (dcg dc_X6_advanceWord 10 rfl) hk1 ?_
    obtain ⟨a16, e17, hf⟩ := gs_some hf
    first | subst e17 | (try rw [e17])
    obtain ⟨⟨hk19, hb18⟩, hf⟩ := gd_some hf
    refine p_iald X (dcg dc_X6_advanceWord 11 rfl) hk19 (vp_of_inb hb18) ?_
    refine p_bipush (v := 97) X (dcg dc_X6_advanceWord 12 rfl) (by decide) ?_
    refine p_icmp_lt (tgt := 90) X (dcg dc_X6_advanceWord 13 rfl) (by decide) (fun q => ?_) (fun q => ?_)
    · have hf := if_t q hf
      obtain ⟨y20, hf, hy21⟩ := mr_some hf
      have hy21f := kf y20 hy21
      subst hy21f
      refine p_pick [0] ?_
      exact wX6_advanceWord_b90 X hG hnm hf 
    · have hf := if_f q hf
      refine p_aload_n X (dcg dc_X6_advanceWord 14 rfl) rfl rfl ?_
      refine p_getR X fl_X6_15 rfl (by decide) (dcg dc_X6_advanceWord 15 rfl) hk1 ?_
      obtain ⟨a22, e23, hf⟩ := gs_some hf
      first | subst e23 | (try rw [e23])
      obtain ⟨hk24, hf⟩ := gd_some hf
      refine p_getRn X fl_X6_99 rfl (by decide) (dcg dc_X6_advanceWord 16 rfl) hk24 ?_
      refine p_aload_n X (dcg dc_X6_advanceWord 17 rfl) rfl rfl ?_
      refine p_getI X fl_X6_19 rfl (by decide) (dcg dc_X6_advanceWord 18 rfl) hk1 ?_
      obtain ⟨a25, e26, hf⟩ := gs_some hf
      first | subst e26 | (try rw [e26])
      obtain ⟨⟨hk28, hb27⟩, hf⟩ := gd_some hf
      refine p_iald X (dcg dc_X6_advanceWord 19 rfl) hk28 (vp_of_inb hb27) ?_
      refine p_bipush (v := 122) X (dcg dc_X6_advanceWord 20 rfl) (by decide) ?_
      refine p_icmp_gt (tgt := 90) X (dcg dc_X6_advanceWord 21 rfl) (by decide) (fun q => ?_) (fun q => ?_)
      · have hf := if_t q hf
        obtain ⟨y29, hf, hy30⟩ := mr_some hf
        have hy30f := kf y29 hy30
        subst hy30f
        refine p_pick [0] ?_
        exact wX6_advanceWord_b90 X hG hnm hf 
      · have hf := if_f q hf
        refine p_aload_n X (dcg dc_X6_advanceWord 22 rfl) rfl rfl ?_
        refine p_aload_n X (dcg dc_X6_advanceWord 23 rfl) rfl rfl ?_
        refine p_getI X fl_X6_83 rfl (by decide) (dcg dc_X6_advanceWord 24 rfl) hk1 ?_
        refine p_bipush (v := 27) X (dcg dc_X6_advanceWord 25 rfl) (by decide) ?_
        refine p_imul X (dcg dc_X6_advanceWord 26 rfl) ?_
        refine p_aload_n X (dcg dc_X6_advanceWord 27 rfl) rfl rfl ?_
        refine p_getR X fl_X6_15 rfl (by decide) (dcg dc_X6_advanceWord 28 rfl) hk1 ?_
        obtain ⟨a31, e32, hf⟩ := gs_some hf
        first | subst e32 | (try rw [e32])
        obtain ⟨hk33, hf⟩ := gd_some hf
        refine p_getRn X fl_X6_99 rfl (by decide) (dcg dc_X6_advanceWord 29 rfl) hk33 ?_
        refine p_aload_n X (dcg dc_X6_advanceWord 30 rfl) rfl rfl ?_
        refine p_getI X fl_X6_19 rfl (by decide) (dcg dc_X6_advanceWord 31 rfl) hk1 ?_
        obtain ⟨a34, e35, hf⟩ := gs_some hf
        first | subst e35 | (try rw [e35])
        obtain ⟨⟨hk37, hb36⟩, hf⟩ := gd_some hf
        refine p_iald X (dcg dc_X6_advanceWord 32 rfl) hk37 (vp_of_inb hb36) ?_
        refine p_iadd X (dcg dc_X6_advanceWord 33 rfl) ?_
        refine p_bipush (v := 97) X (dcg dc_X6_advanceWord 34 rfl) (by decide) ?_
        refine p_isub X (dcg dc_X6_advanceWord 35 rfl) ?_
        refine p_iconst (v := 1) X (dcg dc_X6_advanceWord 36 rfl) (by decide) ?_
        refine p_iadd X (dcg dc_X6_advanceWord 37 rfl) ?_
        refine p_putI X fl_X6_83 rfl (by decide) (fun q hq => by cases hq; rfl) rfl rfl (dcg dc_X6_advanceWord 38 rfl) hk1 ?_
        obtain ⟨h38, rfl, hf⟩ := lt_some hf
        refine p_aload_n X (dcg dc_X6_advanceWord 39 rfl) rfl rfl ?_
        refine p_dup X (dcg dc_X6_advanceWord 40 rfl) rfl ?_
        refine p_getI X fl_X6_19 rfl (by decide) (dcg dc_X6_advanceWord 41 rfl) hk1 ?_
        refine p_iconst (v := 1) X (dcg dc_X6_advanceWord 42 rfl) (by decide) ?_
        refine p_iadd X (dcg dc_X6_advanceWord 43 rfl) ?_
        refine p_putI X fl_X6_19 rfl (by decide) (fun q hq => by cases hq; rfl) rfl rfl (dcg dc_X6_advanceWord 44 rfl) hk1 ?_
        obtain ⟨h39, rfl, hf⟩ := lt_some hf
        refine p_goto (tgt := 0) X (dcg dc_X6_advanceWord 45 rfl) (by decide) ?_
        refine p_pick [0] ?_
        exact k0 _ (Option.some.inj hf).symm
noncomputable def fX6_advanceWord_l0 (v0 : Nat) (h : PH) : Option PH := wh (fun z : (PH) => fX6_advanceWord_c0 v0 (z)) (h)
set_option maxRecDepth 100000 in
theorem mX6_advanceWord_l0 {v0 : Nat} {h : PH} {r : PH} (hf : fX6_advanceWord_l0 v0 h = some r) : eqz h (hX r) (hV r) := by
  unfold fX6_advanceWord_l0 at hf
  refine wh_ind (P := fun z => eqz (z) (hX r) (hV r)) (fun z x0 hs i1 i2 => ?_) _ hf
  obtain ⟨c0, cf⟩ := mX6_advanceWord_c0 (v0 := v0) (h := z) hs
  rcases hxx : x0 with zz | zz
  · exact eqz_tr (c0 zz hxx) (i1 zz hxx)
  · have ee := i2 zz hxx; subst ee; exact cf zz hxx
set_option maxRecDepth 100000 in
theorem wX6_advanceWord_l0 {E : PE} {p : Program} {l : Launch} {e : Env} {s : State} {m : MethodId} {args : Array Value} {below : List Frame} {meth : Method} {c : Code} (X : Cx E p l e (rmv 0 0 0) s m args below meth c RX6 cX6_advanceWord 2 (none)) (hG : Gs E l) (hnm : meth.name = yX6_advanceWord.name) {v0 : Nat} {h : PH} {r : PH} (hf : fX6_advanceWord_l0 v0 h = some r)  : PW E p l e (rmv 0 0 0) s m args below meth c 2 0 0 (MQ below (QG E (fun v u => v = none ∧ u = r)) args s 0 0 (pA E)) h 0 [(0, some (.ref v0))] [] := by
  unfold fX6_advanceWord_l0 at hf
  refine wh_ind (P := fun z => PW E p l e (rmv 0 0 0) s m args below meth c 2 0 0 (MQ below (QG E (fun v u => v = none ∧ u = r)) args s 0 0 (pA E)) (z) 0 [(0, some (.ref v0))] []) (fun z x0 hs i1 i2 => ?_) _ hf
  exact wX6_advanceWord_c0 (r := r) (v0 := v0) (h := z) X hG hnm hs i1  i2
noncomputable def fX6_advanceWord (v0 : Nat) (h : PH) : Option PH :=
  fX6_advanceWord_l0 v0 h
set_option maxRecDepth 100000 in
theorem mX6_advanceWord {v0 : Nat} {h : PH} {r : PH} (hf : fX6_advanceWord v0 h = some r) : eqz h (hX r) (hV r) := by
  unfold fX6_advanceWord at hf
  have hle := eqz_rf h
  exact eqz_rt (mX6_advanceWord_l0 hf) hle
set_option maxRecDepth 100000 in
theorem wX6_advanceWord {E : PE} {l : Launch} (hG : Gs E l) {v0 : Nat} {h : PH} {r : PH} (hf : fX6_advanceWord v0 h = some r) : Ct E l 0 0 0 yX6_advanceWord cX6_advanceWord 2 (none) [.ref v0] h (fun v u => v = none ∧ u = r) := by
  refine ct_of hG (by decide) (Nat.le_of_ble_eq_true rfl) ?_
  intro p e s m args below meth c X hnm
  show PW E p l e _ s m args below meth c _ 0 0 _ h 0 [(0, some (.ref v0))] []
  unfold fX6_advanceWord at hf
  refine p_pick [0] ?_
  exact wX6_advanceWord_l0 X hG hnm hf
theorem dc_X6_advanceNumber : decs cX6_advanceNumber [(0, .aload_n 0, 1), (1, .getfield 19, 3), (4, .aload_n 0, 1), (5, .getfield 15, 3), (8, .getfield 96, 3), (11, .if_icmp .ge 77, 3), (14, .aload_n 0, 1), (15, .getfield 15, 3), (18, .getfield 99, 3), (21, .aload_n 0, 1), (22, .getfield 19, 3), (25, .iaload, 1), (26, .bipush 48, 2), (28, .if_icmp .lt 60, 3), (31, .aload_n 0, 1), (32, .getfield 15, 3), (35, .getfield 99, 3), (38, .aload_n 0, 1), (39, .getfield 19, 3), (42, .iaload, 1), (43, .bipush 57, 2), (45, .if_icmp .gt 43, 3), (48, .aload_n 0, 1), (49, .aload_n 0, 1), (50, .getfield 83, 3), (53, .bipush 10, 2), (55, .imul, 1), (56, .aload_n 0, 1), (57, .getfield 15, 3), (60, .getfield 99, 3), (63, .aload_n 0, 1), (64, .getfield 19, 3), (67, .iaload, 1), (68, .iadd, 1), (69, .bipush 48, 2), (71, .isub, 1), (72, .putfield 83, 3), (75, .aload_n 0, 1), (76, .dup, 1), (77, .getfield 19, 3), (80, .iconst 1, 1), (81, .iadd, 1), (82, .putfield 19, 3), (85, .goto (-85), 3), (88, .aload_n 0, 1), (89, .getfield 19, 3), (92, .aload_n 0, 1), (93, .getfield 49, 3), (96, .isub, 1), (97, .iconst 2, 1), (98, .if_icmp .gt 24, 3), (101, .aload_n 0, 1), (102, .getfield 83, 3), (105, .iconst 1, 1), (106, .if_icmp .lt 16, 3), (109, .aload_n 0, 1), (110, .getfield 83, 3), (113, .bipush 40, 2), (115, .if_icmp .gt 7, 3), (118, .iconst 1, 1), (119, .goto 4, 3), (122, .iconst 0, 1), (123, .istore_n 1, 1), (124, .aload_n 0, 1), (125, .iload_n 1, 1), (126, .ifCond .eq 7, 3), (129, .iconst 3, 1), (130, .goto 4, 3), (133, .iconst 1, 1), (134, .putfield 36, 3), (137, .return_, 1)] = true := by decide +kernel
noncomputable def fX6_advanceNumber_b134 (t0 : Option Nat) (t1 : Int32) (h : PH) : Option PH :=
  gs t0 (fun a6 =>
  gd (hK h a6 = 6) (lt (sI h 6 a6 3 t1) (fun h9 =>
  some (h9))))
set_option maxRecDepth 100000 in
theorem mX6_advanceNumber_b134 {t0 : Option Nat} {t1 : Int32} {h : PH} {r : PH} (hf : fX6_advanceNumber_b134 t0 t1 h = some r) : eqz h (hX r) (hV r) := by
  unfold fX6_advanceNumber_b134 at hf
  have hle := eqz_rf h
  obtain ⟨a6, e7, hf⟩ := gs_some hf
  obtain ⟨hk8, hf⟩ := gd_some hf
  obtain ⟨h9, rfl, hf⟩ := lt_some hf
  have ee := Option.some.inj hf; subst ee; exact hle
set_option maxRecDepth 100000 in
theorem wX6_advanceNumber_b134 {E : PE} {p : Program} {l : Launch} {e : Env} {s : State} {m : MethodId} {args : Array Value} {below : List Frame} {meth : Method} {c : Code} (X : Cx E p l e (rmv 0 0 0) s m args below meth c RX6 cX6_advanceNumber 2 (none)) (hG : Gs E l) (hnm : meth.name = yX6_advanceNumber.name) {t0 : Option Nat} {t1 : Int32} {h : PH} {r : PH} (hf : fX6_advanceNumber_b134 t0 t1 h = some r)  : PW E p l e (rmv 0 0 0) s m args below meth c 2 0 0 (MQ below (QG E (fun v u => v = none ∧ u = r)) args s 0 0 (pA E)) h 134 [] [.int t1, va_rf t0] := by
  unfold fX6_advanceNumber_b134 at hf
  obtain ⟨a6, e7, hf⟩ := gs_some hf
  first | subst e7 | (try rw [e7])
  obtain ⟨hk8, hf⟩ := gd_some hf
  refine p_putI X fl_X6_36 rfl (by decide) (fun q hq => by cases hq; rfl) rfl rfl (dcg dc_X6_advanceNumber 69 rfl) hk8 ?_
  obtain ⟨h9, rfl, hf⟩ := lt_some hf
  have er := Option.some.inj hf
  subst er
  exact p_vret X rfl (dcg dc_X6_advanceNumber 70 rfl) ⟨rfl, rfl⟩ (Nat.le_refl _) (Nat.le_refl _)
noncomputable def fX6_advanceNumber_b123 (v0 : Nat) (t0 : Int32) (h : PH) : Option PH :=
  if (t0 = 0) then (fX6_advanceNumber_b134 (some v0) (1 : Int32) h) else
  fX6_advanceNumber_b134 (some v0) (3 : Int32) h
set_option maxRecDepth 100000 in
theorem mX6_advanceNumber_b123 {v0 : Nat} {t0 : Int32} {h : PH} {r : PH} (hf : fX6_advanceNumber_b123 v0 t0 h = some r) : eqz h (hX r) (hV r) := by
  unfold fX6_advanceNumber_b123 at hf
  have hle := eqz_rf h
  rcases ite_or hf with ⟨q, hf⟩ | ⟨q, hf⟩
  · have hf := if_t q hf
    exact eqz_rt (mX6_advanceNumber_b134 hf) hle
  · have hf := if_f q hf
    exact eqz_rt (mX6_advanceNumber_b134 hf) hle
set_option maxRecDepth 100000 in
theorem wX6_advanceNumber_b123 {E : PE} {p : Program} {l : Launch} {e : Env} {s : State} {m : MethodId} {args : Array Value} {below : List Frame} {meth : Method} {c : Code} (X : Cx E p l e (rmv 0 0 0) s m args below meth c RX6 cX6_advanceNumber 2 (none)) (hG : Gs E l) (hnm : meth.name = yX6_advanceNumber.name) {v0 : Nat} {t0 : Int32} {h : PH} {r : PH} (hf : fX6_advanceNumber_b123 v0 t0 h = some r)  : PW E p l e (rmv 0 0 0) s m args below meth c 2 0 0 (MQ below (QG E (fun v u => v = none ∧ u = r)) args s 0 0 (pA E)) h 123 [(0, some (.ref v0))] [.int t0] := by
  unfold fX6_advanceNumber_b123 at hf
  refine p_istore_n X (dcg dc_X6_advanceNumber 62 rfl) rfl (by decide) rfl ?_
  refine p_aload_n X (dcg dc_X6_advanceNumber 63 rfl) rfl rfl ?_
  refine p_iload_n X (dcg dc_X6_advanceNumber 64 rfl) rfl rfl ?_
  refine p_if_eq (tgt := 133) X (dcg dc_X6_advanceNumber 65 rfl) (by decide) (fun q => ?_) (fun q => ?_)
  · have hf := if_t q hf
    refine p_iconst (v := 1) X (dcg dc_X6_advanceNumber 68 rfl) (by decide) ?_
    refine p_pick [] ?_
    exact wX6_advanceNumber_b134 X hG hnm hf 
  · have hf := if_f q hf
    refine p_iconst (v := 3) X (dcg dc_X6_advanceNumber 66 rfl) (by decide) ?_
    refine p_goto (tgt := 134) X (dcg dc_X6_advanceNumber 67 rfl) (by decide) ?_
    refine p_pick [] ?_
    exact wX6_advanceNumber_b134 X hG hnm hf 
noncomputable def fX6_advanceNumber_b122 (v0 : Nat) (h : PH) : Option PH :=
  fX6_advanceNumber_b123 v0 (0 : Int32) h
set_option maxRecDepth 100000 in
theorem mX6_advanceNumber_b122 {v0 : Nat} {h : PH} {r : PH} (hf : fX6_advanceNumber_b122 v0 h = some r) : eqz h (hX r) (hV r) := by
  unfold fX6_advanceNumber_b122 at hf
  have hle := eqz_rf h
  exact eqz_rt (mX6_advanceNumber_b123 hf) hle
set_option maxRecDepth 100000 in
theorem wX6_advanceNumber_b122 {E : PE} {p : Program} {l : Launch} {e : Env} {s : State} {m : MethodId} {args : Array Value} {below : List Frame} {meth : Method} {c : Code} (X : Cx E p l e (rmv 0 0 0) s m args below meth c RX6 cX6_advanceNumber 2 (none)) (hG : Gs E l) (hnm : meth.name = yX6_advanceNumber.name) {v0 : Nat} {h : PH} {r : PH} (hf : fX6_advanceNumber_b122 v0 h = some r)  : PW E p l e (rmv 0 0 0) s m args below meth c 2 0 0 (MQ below (QG E (fun v u => v = none ∧ u = r)) args s 0 0 (pA E)) h 122 [(0, some (.ref v0))] [] := by
  unfold fX6_advanceNumber_b122 at hf
  refine p_iconst (v := 0) X (dcg dc_X6_advanceNumber 61 rfl) (by decide) ?_
  refine p_pick [0] ?_
  exact wX6_advanceNumber_b123 X hG hnm hf 
noncomputable def fX6_advanceNumber_b88 (v0 : Nat) (h : PH) : Option PH :=
  gd (hK h v0 = 6) (if ((2 : Int32) < ((hI h 6 v0 2) - (hI h 6 v0 4))) then (fX6_advanceNumber_b122 v0 h) else
  if ((hI h 6 v0 5) < (1 : Int32)) then (fX6_advanceNumber_b122 v0 h) else
  if ((40 : Int32) < (hI h 6 v0 5)) then (fX6_advanceNumber_b122 v0 h) else
  fX6_advanceNumber_b123 v0 (1 : Int32) h)
set_option maxRecDepth 100000 in
theorem mX6_advanceNumber_b88 {v0 : Nat} {h : PH} {r : PH} (hf : fX6_advanceNumber_b88 v0 h = some r) : eqz h (hX r) (hV r) := by
  unfold fX6_advanceNumber_b88 at hf
  have hle := eqz_rf h
  obtain ⟨hk5, hf⟩ := gd_some hf
  rcases ite_or hf with ⟨q, hf⟩ | ⟨q, hf⟩
  · have hf := if_t q hf
    exact eqz_rt (mX6_advanceNumber_b122 hf) hle
  · have hf := if_f q hf
    rcases ite_or hf with ⟨q, hf⟩ | ⟨q, hf⟩
    · have hf := if_t q hf
      exact eqz_rt (mX6_advanceNumber_b122 hf) hle
    · have hf := if_f q hf
      rcases ite_or hf with ⟨q, hf⟩ | ⟨q, hf⟩
      · have hf := if_t q hf
        exact eqz_rt (mX6_advanceNumber_b122 hf) hle
      · have hf := if_f q hf
        exact eqz_rt (mX6_advanceNumber_b123 hf) hle
set_option maxRecDepth 100000 in
theorem wX6_advanceNumber_b88 {E : PE} {p : Program} {l : Launch} {e : Env} {s : State} {m : MethodId} {args : Array Value} {below : List Frame} {meth : Method} {c : Code} (X : Cx E p l e (rmv 0 0 0) s m args below meth c RX6 cX6_advanceNumber 2 (none)) (hG : Gs E l) (hnm : meth.name = yX6_advanceNumber.name) {v0 : Nat} {h : PH} {r : PH} (hf : fX6_advanceNumber_b88 v0 h = some r)  : PW E p l e (rmv 0 0 0) s m args below meth c 2 0 0 (MQ below (QG E (fun v u => v = none ∧ u = r)) args s 0 0 (pA E)) h 88 [(0, some (.ref v0))] [] := by
  unfold fX6_advanceNumber_b88 at hf
  refine p_aload_n X (dcg dc_X6_advanceNumber 44 rfl) rfl rfl ?_
  obtain ⟨hk5, hf⟩ := gd_some hf
  refine p_getI X fl_X6_19 rfl (by decide) (dcg dc_X6_advanceNumber 45 rfl) hk5 ?_
  refine p_aload_n X (dcg dc_X6_advanceNumber 46 rfl) rfl rfl ?_
  refine p_getI X fl_X6_49 rfl (by decide) (dcg dc_X6_advanceNumber 47 rfl) hk5 ?_
  refine p_isub X (dcg dc_X6_advanceNumber 48 rfl) ?_
  refine p_iconst (v := 2) X (dcg dc_X6_advanceNumber 49 rfl) (by decide) ?_
  refine p_icmp_gt (tgt := 122) X (dcg dc_X6_advanceNumber 50 rfl) (by decide) (fun q => ?_) (fun q => ?_)
  · have hf := if_t q hf
    refine p_pick [0] ?_
    exact wX6_advanceNumber_b122 X hG hnm hf 
  · have hf := if_f q hf
    refine p_aload_n X (dcg dc_X6_advanceNumber 51 rfl) rfl rfl ?_
    refine p_getI X fl_X6_83 rfl (by decide) (dcg dc_X6_advanceNumber 52 rfl) hk5 ?_
    refine p_iconst (v := 1) X (dcg dc_X6_advanceNumber 53 rfl) (by decide) ?_
    refine p_icmp_lt (tgt := 122) X (dcg dc_X6_advanceNumber 54 rfl) (by decide) (fun q => ?_) (fun q => ?_)
    · have hf := if_t q hf
      refine p_pick [0] ?_
      exact wX6_advanceNumber_b122 X hG hnm hf 
    · have hf := if_f q hf
      refine p_aload_n X (dcg dc_X6_advanceNumber 55 rfl) rfl rfl ?_
      refine p_getI X fl_X6_83 rfl (by decide) (dcg dc_X6_advanceNumber 56 rfl) hk5 ?_
      refine p_bipush (v := 40) X (dcg dc_X6_advanceNumber 57 rfl) (by decide) ?_
      refine p_icmp_gt (tgt := 122) X (dcg dc_X6_advanceNumber 58 rfl) (by decide) (fun q => ?_) (fun q => ?_)
      · have hf := if_t q hf
        refine p_pick [0] ?_
        exact wX6_advanceNumber_b122 X hG hnm hf 
      · have hf := if_f q hf
        refine p_iconst (v := 1) X (dcg dc_X6_advanceNumber 59 rfl) (by decide) ?_
        refine p_goto (tgt := 123) X (dcg dc_X6_advanceNumber 60 rfl) (by decide) ?_
        refine p_pick [0] ?_
        exact wX6_advanceNumber_b123 X hG hnm hf 
noncomputable def fX6_advanceNumber_c0 (v0 : Nat) (h : PH) : Option ((PH) ⊕ PH) :=
  gd (hK h v0 = 6) (gs (hR h 6 v0 0) (fun a2 =>
  gd (hK h a2 = 7) (if ((hI h 7 a2 1) ≤ (hI h 6 v0 2)) then (mr (fX6_advanceNumber_b88 v0 h)) else
  gs (hR h 6 v0 0) (fun a12 =>
  gd (hK h a12 = 7) (gs (hR h 7 a12 0) (fun a15 =>
  gd (hK h a15 = 20 ∧ inb (hI h 6 v0 2) (hN h a15)) (if ((hI h 20 a15 (Int32.toNatClampNeg (hI h 6 v0 2))) < (48 : Int32)) then (mr (fX6_advanceNumber_b88 v0 h)) else
  gs (hR h 6 v0 0) (fun a21 =>
  gd (hK h a21 = 7) (gs (hR h 7 a21 0) (fun a24 =>
  gd (hK h a24 = 20 ∧ inb (hI h 6 v0 2) (hN h a24)) (if ((57 : Int32) < (hI h 20 a24 (Int32.toNatClampNeg (hI h 6 v0 2)))) then (mr (fX6_advanceNumber_b88 v0 h)) else
  gs (hR h 6 v0 0) (fun a30 =>
  gd (hK h a30 = 7) (gs (hR h 7 a30 0) (fun a33 =>
  gd (hK h a33 = 20 ∧ inb (hI h 6 v0 2) (hN h a33)) (lt (sI h 6 v0 5 ((((hI h 6 v0 5) * (10 : Int32)) + (hI h 20 a33 (Int32.toNatClampNeg (hI h 6 v0 2)))) - (48 : Int32))) (fun h37 =>
  lt (sI h37 6 v0 2 ((hI h37 6 v0 2) + (1 : Int32))) (fun h38 =>
  some (.inl (h38)))))))))))))))))))
set_option maxRecDepth 100000 in
theorem mX6_advanceNumber_c0 {v0 : Nat} {h : PH} {x : ((PH) ⊕ PH)} (hf : fX6_advanceNumber_c0 v0 h = some x) : (∀ w9 : (PH), x = .inl w9 → eqz h (hX (w9)) (hV (w9))) ∧ (∀ w9 : PH, x = .inr w9 → eqz h (hX w9) (hV w9)) := by
  unfold fX6_advanceNumber_c0 at hf
  have hle := eqz_rf h
  obtain ⟨hk1, hf⟩ := gd_some hf
  obtain ⟨a2, e3, hf⟩ := gs_some hf
  obtain ⟨hk4, hf⟩ := gd_some hf
  rcases ite_or hf with ⟨q, hf⟩ | ⟨q, hf⟩
  · have hf := if_t q hf
    obtain ⟨y10, hfm, rfl⟩ := mr_some hf; have hf := hfm; clear hfm
    have cf := mX6_advanceNumber_b88 hf
    exact ⟨(fun z e => nomatch e), (fun z e => by cases e <;> exact eqz_rt cf hle)⟩
  · have hf := if_f q hf
    obtain ⟨a12, e13, hf⟩ := gs_some hf
    obtain ⟨hk14, hf⟩ := gd_some hf
    obtain ⟨a15, e16, hf⟩ := gs_some hf
    obtain ⟨⟨hk18, hb17⟩, hf⟩ := gd_some hf
    rcases ite_or hf with ⟨q, hf⟩ | ⟨q, hf⟩
    · have hf := if_t q hf
      obtain ⟨y19, hfm, rfl⟩ := mr_some hf; have hf := hfm; clear hfm
      have cf := mX6_advanceNumber_b88 hf
      exact ⟨(fun z e => nomatch e), (fun z e => by cases e <;> exact eqz_rt cf hle)⟩
    · have hf := if_f q hf
      obtain ⟨a21, e22, hf⟩ := gs_some hf
      obtain ⟨hk23, hf⟩ := gd_some hf
      obtain ⟨a24, e25, hf⟩ := gs_some hf
      obtain ⟨⟨hk27, hb26⟩, hf⟩ := gd_some hf
      rcases ite_or hf with ⟨q, hf⟩ | ⟨q, hf⟩
      · have hf := if_t q hf
        obtain ⟨y28, hfm, rfl⟩ := mr_some hf; have hf := hfm; clear hfm
        have cf := mX6_advanceNumber_b88 hf
        exact ⟨(fun z e => nomatch e), (fun z e => by cases e <;> exact eqz_rt cf hle)⟩
      · have hf := if_f q hf
        obtain ⟨a30, e31, hf⟩ := gs_some hf
        obtain ⟨hk32, hf⟩ := gd_some hf
        obtain ⟨a33, e34, hf⟩ := gs_some hf
        obtain ⟨⟨hk36, hb35⟩, hf⟩ := gd_some hf
        obtain ⟨h37, rfl, hf⟩ := lt_some hf
        obtain ⟨h38, rfl, hf⟩ := lt_some hf
        have ee := Option.some.inj hf; subst ee
        exact ⟨(fun z e => by have ee := Sum.inl.inj (e); subst ee; exact hle), (fun z e => nomatch e)⟩
set_option maxRecDepth 100000 in
theorem wX6_advanceNumber_c0 {E : PE} {p : Program} {l : Launch} {e : Env} {s : State} {m : MethodId} {args : Array Value} {below : List Frame} {meth : Method} {c : Code} (X : Cx E p l e (rmv 0 0 0) s m args below meth c RX6 cX6_advanceNumber 2 (none)) (hG : Gs E l) (hnm : meth.name = yX6_advanceNumber.name) {v0 : Nat} {h : PH} {r : PH} {x : ((PH) ⊕ PH)} (hf : fX6_advanceNumber_c0 v0 h = some x) (k0 : ∀ z : (PH), x = .inl z → PW E p l e (rmv 0 0 0) s m args below meth c 2 0 0 (MQ below (QG E (fun v u => v = none ∧ u = r)) args s 0 0 (pA E)) (z) 0 [(0, some (.ref v0))] []) (kf : ∀ z : PH, x = .inr z → z = r) : PW E p l e (rmv 0 0 0) s m args below meth c 2 0 0 (MQ below (QG E (fun v u => v = none ∧ u = r)) args s 0 0 (pA E)) h 0 [(0, some (.ref v0))] [] := by
  unfold fX6_advanceNumber_c0 at hf
  refine p_aload_n X (dcg dc_X6_advanceNumber 0 rfl) rfl rfl ?_
  obtain ⟨hk1, hf⟩ := gd_some hf
  refine p_getI X fl_X6_19 rfl (by decide) (dcg dc_X6_advanceNumber 1 rfl) hk1 ?_
  refine p_aload_n X (dcg dc_X6_advanceNumber 2 rfl) rfl rfl ?_
  refine p_getR X fl_X6_15 rfl (by decide) (dcg dc_X6_advanceNumber 3 rfl) hk1 ?_
  obtain ⟨a2, e3, hf⟩ := gs_some hf
  first | subst e3 | (try rw [e3])
  obtain ⟨hk4, hf⟩ := gd_some hf
  refine p_getIn X fl_X6_96 rfl (by decide) (dcg dc_X6_advanceNumber 4 rfl) hk4 ?_
  refine p_icmp_ge (tgt := 88) X (dcg dc_X6_advanceNumber 5 rfl) (by decide) (fun q => ?_) (fun q => ?_)
  · have hf := if_t q hf
    obtain ⟨y10, hf, hy11⟩ := mr_some hf
    have hy11f := kf y10 hy11
    subst hy11f
    refine p_pick [0] ?_
    exact wX6_advanceNumber_b88 X hG hnm hf 
  · have hf := if_f q hf
    refine p_aload_n X (dcg dc_X6_advanceNumber 6 rfl) rfl rfl ?_
    refine p_getR X fl_X6_15 rfl (by decide) (dcg dc_X6_advanceNumber 7 rfl) hk1 ?_
    obtain ⟨a12, e13, hf⟩ := gs_some hf
    first | subst e13 | (try rw [e13])
    obtain ⟨hk14, hf⟩ := gd_some hf
    refine p_getRn X fl_X6_99 rfl (by decide) (dcg dc_X6_advanceNumber 8 rfl) hk14 ?_
    refine p_aload_n X (dcg dc_X6_advanceNumber 9 rfl) rfl rfl ?_
    refine p_getI X fl_X6_19 rfl (by decide) (dcg dc_X6_advanceNumber 10 rfl) hk1 ?_
    obtain ⟨a15, e16, hf⟩ := gs_some hf
    first | subst e16 | (try rw [e16])
    obtain ⟨⟨hk18, hb17⟩, hf⟩ := gd_some hf
    refine p_iald X (dcg dc_X6_advanceNumber 11 rfl) hk18 (vp_of_inb hb17) ?_
    refine p_bipush (v := 48) X (dcg dc_X6_advanceNumber 12 rfl) (by decide) ?_
    refine p_icmp_lt (tgt := 88) X (dcg dc_X6_advanceNumber 13 rfl) (by decide) (fun q => ?_) (fun q => ?_)
    · have hf := if_t q hf
      obtain ⟨y19, hf, hy20⟩ := mr_some hf
      have hy20f := kf y19 hy20
      subst hy20f
      refine p_pick [0] ?_
      exact wX6_advanceNumber_b88 X hG hnm hf 
    · have hf := if_f q hf
      refine p_aload_n X (dcg dc_X6_advanceNumber 14 rfl) rfl rfl ?_
      refine p_getR X fl_X6_15 rfl (by decide) (dcg dc_X6_advanceNumber 15 rfl) hk1 ?_
      obtain ⟨a21, e22, hf⟩ := gs_some hf
      first | subst e22 | (try rw [e22])
      obtain ⟨hk23, hf⟩ := gd_some hf
      refine p_getRn X fl_X6_99 rfl (by decide) (dcg dc_X6_advanceNumber 16 rfl) hk23 ?_
      refine p_aload_n X (dcg dc_X6_advanceNumber 17 rfl) rfl rfl ?_
      refine p_getI X fl_X6_19 rfl (by decide) (dcg dc_X6_advanceNumber 18 rfl) hk1 ?_
      obtain ⟨a24, e25, hf⟩ := gs_some hf
      first | subst e25 | (try rw [e25])
      obtain ⟨⟨hk27, hb26⟩, hf⟩ := gd_some hf
      refine p_iald X (dcg dc_X6_advanceNumber 19 rfl) hk27 (vp_of_inb hb26) ?_
      refine p_bipush (v := 57) X (dcg dc_X6_advanceNumber 20 rfl) (by decide) ?_
      refine p_icmp_gt (tgt := 88) X (dcg dc_X6_advanceNumber 21 rfl) (by decide) (fun q => ?_) (fun q => ?_)
      · have hf := if_t q hf
        obtain ⟨y28, hf, hy29⟩ := mr_some hf
        have hy29f := kf y28 hy29
        subst hy29f
        refine p_pick [0] ?_
        exact wX6_advanceNumber_b88 X hG hnm hf 
      · have hf := if_f q hf
        refine p_aload_n X (dcg dc_X6_advanceNumber 22 rfl) rfl rfl ?_
        refine p_aload_n X (dcg dc_X6_advanceNumber 23 rfl) rfl rfl ?_
        refine p_getI X fl_X6_83 rfl (by decide) (dcg dc_X6_advanceNumber 24 rfl) hk1 ?_
        refine p_bipush (v := 10) X (dcg dc_X6_advanceNumber 25 rfl) (by decide) ?_
        refine p_imul X (dcg dc_X6_advanceNumber 26 rfl) ?_
        refine p_aload_n X (dcg dc_X6_advanceNumber 27 rfl) rfl rfl ?_
        refine p_getR X fl_X6_15 rfl (by decide) (dcg dc_X6_advanceNumber 28 rfl) hk1 ?_
        obtain ⟨a30, e31, hf⟩ := gs_some hf
        first | subst e31 | (try rw [e31])
        obtain ⟨hk32, hf⟩ := gd_some hf
        refine p_getRn X fl_X6_99 rfl (by decide) (dcg dc_X6_advanceNumber 29 rfl) hk32 ?_
        refine p_aload_n X (dcg dc_X6_advanceNumber 30 rfl) rfl rfl ?_
        refine p_getI X fl_X6_19 rfl (by decide) (dcg dc_X6_advanceNumber 31 rfl) hk1 ?_
        obtain ⟨a33, e34, hf⟩ := gs_some hf
        first | subst e34 | (try rw [e34])
        obtain ⟨⟨hk36, hb35⟩, hf⟩ := gd_some hf
        refine p_iald X (dcg dc_X6_advanceNumber 32 rfl) hk36 (vp_of_inb hb35) ?_
        refine p_iadd X (dcg dc_X6_advanceNumber 33 rfl) ?_
        refine p_bipush (v := 48) X (dcg dc_X6_advanceNumber 34 rfl) (by decide) ?_
        refine p_isub X (dcg dc_X6_advanceNumber 35 rfl) ?_
        refine p_putI X fl_X6_83 rfl (by decide) (fun q hq => by cases hq; rfl) rfl rfl (dcg dc_X6_advanceNumber 36 rfl) hk1 ?_
        obtain ⟨h37, rfl, hf⟩ := lt_some hf
        refine p_aload_n X (dcg dc_X6_advanceNumber 37 rfl) rfl rfl ?_
        refine p_dup X (dcg dc_X6_advanceNumber 38 rfl) rfl ?_
        refine p_getI X fl_X6_19 rfl (by decide) (dcg dc_X6_advanceNumber 39 rfl) hk1 ?_
        refine p_iconst (v := 1) X (dcg dc_X6_advanceNumber 40 rfl) (by decide) ?_
        refine p_iadd X (dcg dc_X6_advanceNumber 41 rfl) ?_
        refine p_putI X fl_X6_19 rfl (by decide) (fun q hq => by cases hq; rfl) rfl rfl (dcg dc_X6_advanceNumber 42 rfl) hk1 ?_
        obtain ⟨h38, rfl, hf⟩ := lt_some hf
        refine p_goto (tgt := 0) X (dcg dc_X6_advanceNumber 43 rfl) (by decide) ?_
        refine p_pick [0] ?_
        exact k0 _ (Option.some.inj hf).symm
noncomputable def fX6_advanceNumber_l0 (v0 : Nat) (h : PH) : Option PH := wh (fun z : (PH) => fX6_advanceNumber_c0 v0 (z)) (h)
set_option maxRecDepth 100000 in
theorem mX6_advanceNumber_l0 {v0 : Nat} {h : PH} {r : PH} (hf : fX6_advanceNumber_l0 v0 h = some r) : eqz h (hX r) (hV r) := by
  unfold fX6_advanceNumber_l0 at hf
  refine wh_ind (P := fun z => eqz (z) (hX r) (hV r)) (fun z x0 hs i1 i2 => ?_) _ hf
  obtain ⟨c0, cf⟩ := mX6_advanceNumber_c0 (v0 := v0) (h := z) hs
  rcases hxx : x0 with zz | zz
  · exact eqz_tr (c0 zz hxx) (i1 zz hxx)
  · have ee := i2 zz hxx; subst ee; exact cf zz hxx
set_option maxRecDepth 100000 in
theorem wX6_advanceNumber_l0 {E : PE} {p : Program} {l : Launch} {e : Env} {s : State} {m : MethodId} {args : Array Value} {below : List Frame} {meth : Method} {c : Code} (X : Cx E p l e (rmv 0 0 0) s m args below meth c RX6 cX6_advanceNumber 2 (none)) (hG : Gs E l) (hnm : meth.name = yX6_advanceNumber.name) {v0 : Nat} {h : PH} {r : PH} (hf : fX6_advanceNumber_l0 v0 h = some r)  : PW E p l e (rmv 0 0 0) s m args below meth c 2 0 0 (MQ below (QG E (fun v u => v = none ∧ u = r)) args s 0 0 (pA E)) h 0 [(0, some (.ref v0))] [] := by
  unfold fX6_advanceNumber_l0 at hf
  refine wh_ind (P := fun z => PW E p l e (rmv 0 0 0) s m args below meth c 2 0 0 (MQ below (QG E (fun v u => v = none ∧ u = r)) args s 0 0 (pA E)) (z) 0 [(0, some (.ref v0))] []) (fun z x0 hs i1 i2 => ?_) _ hf
  exact wX6_advanceNumber_c0 (r := r) (v0 := v0) (h := z) X hG hnm hs i1  i2
noncomputable def fX6_advanceNumber (v0 : Nat) (h : PH) : Option PH :=
  fX6_advanceNumber_l0 v0 h
set_option maxRecDepth 100000 in
theorem mX6_advanceNumber {v0 : Nat} {h : PH} {r : PH} (hf : fX6_advanceNumber v0 h = some r) : eqz h (hX r) (hV r) := by
  unfold fX6_advanceNumber at hf
  have hle := eqz_rf h
  exact eqz_rt (mX6_advanceNumber_l0 hf) hle
set_option maxRecDepth 100000 in
theorem wX6_advanceNumber {E : PE} {l : Launch} (hG : Gs E l) {v0 : Nat} {h : PH} {r : PH} (hf : fX6_advanceNumber v0 h = some r) : Ct E l 0 0 0 yX6_advanceNumber cX6_advanceNumber 2 (none) [.ref v0] h (fun v u => v = none ∧ u = r) := by
  refine ct_of hG (by decide) (Nat.le_of_ble_eq_true rfl) ?_
  intro p e s m args below meth c X hnm
  show PW E p l e _ s m args below meth c _ 0 0 _ h 0 [(0, some (.ref v0))] []
  unfold fX6_advanceNumber at hf
  refine p_pick [0] ?_
  exact wX6_advanceNumber_l0 X hG hnm hf
theorem dc_X6_isSign : decs cX6_isSign [(0, .iload_n 0, 1), (1, .lookupswitch 85 #[(33, 83), (38, 83), (40, 83), (41, 83), (42, 83), (91, 83), (93, 83), (124, 83), (126, 83)], 83), (84, .iconst 1, 1), (85, .ireturn, 1), (86, .iconst 0, 1), (87, .ireturn, 1)] = true := by decide +kernel
noncomputable def fX6_isSign_b84  : Option Int32 :=
  some ((1 : Int32))
set_option maxRecDepth 100000 in
theorem wX6_isSign_b84 {E : PE} {p : Program} {l : Launch} {e : Env} {s : State} {m : MethodId} {args : Array Value} {below : List Frame} {meth : Method} {c : Code} (X : Cx E p l e (rmv 0 0 0) s m args below meth c RX6 cX6_isSign 1 (some .boolean)) (hG : Gs E l) (hnm : meth.name = yX6_isSign.name)  {h : PH} {r : Int32} (hf : fX6_isSign_b84  = some r)  : PW E p l e (rmv 0 0 0) s m args below meth c 1 0 0 (MQ below (QG E (fun v u => v = some (.int r) ∧ u = h)) args s 0 0 (pA E)) h 84 [] [] := by
  unfold fX6_isSign_b84 at hf
  refine p_iconst (v := 1) X (dcg dc_X6_isSign 2 rfl) (by decide) ?_
  have er := Option.some.inj hf
  subst er
  exact p_zret X rfl rfl (dcg dc_X6_isSign 3 rfl) ⟨rfl, rfl⟩ (Nat.le_refl _) (Nat.le_refl _)
noncomputable def fX6_isSign (v0 : Int32) : Option Int32 :=
  if v0 = 33 then (fX6_isSign_b84 ) else
  if v0 = 38 then (fX6_isSign_b84 ) else
  if v0 = 40 then (fX6_isSign_b84 ) else
  if v0 = 41 then (fX6_isSign_b84 ) else
  if v0 = 42 then (fX6_isSign_b84 ) else
  if v0 = 91 then (fX6_isSign_b84 ) else
  if v0 = 93 then (fX6_isSign_b84 ) else
  if v0 = 124 then (fX6_isSign_b84 ) else
  if v0 = 126 then (fX6_isSign_b84 ) else
  some ((0 : Int32))
set_option maxRecDepth 100000 in
theorem wX6_isSign {E : PE} {l : Launch} (hG : Gs E l) {v0 : Int32} {h : PH} {r : Int32} (hf : fX6_isSign v0 = some r) : Ct E l 0 0 0 yX6_isSign cX6_isSign 1 (some .boolean) [.int v0] h (fun v u => v = some (.int r) ∧ u = h) := by
  refine ct_of hG (by decide) (Nat.le_of_ble_eq_true rfl) ?_
  intro p e s m args below meth c X hnm
  show PW E p l e _ s m args below meth c _ 0 0 _ h 0 [(0, some (.int v0))] []
  unfold fX6_isSign at hf
  refine p_iload_n X (dcg dc_X6_isSign 0 rfl) rfl rfl ?_
  by_cases hq33 : v0 = 33
  · have hf := if_t hq33 hf
    refine p_lookupK (k := 33) (tgt := 84) X (dcg dc_X6_isSign 1 rfl) (by decide) hq33 (by decide) (by decide) (by decide) ?_
    refine p_pick [] ?_
    exact wX6_isSign_b84 X hG hnm hf 
  · have hf := if_f hq33 hf
    by_cases hq38 : v0 = 38
    · have hf := if_t hq38 hf
      refine p_lookupK (k := 38) (tgt := 84) X (dcg dc_X6_isSign 1 rfl) (by decide) hq38 (by decide) (by decide) (by decide) ?_
      refine p_pick [] ?_
      exact wX6_isSign_b84 X hG hnm hf 
    · have hf := if_f hq38 hf
      by_cases hq40 : v0 = 40
      · have hf := if_t hq40 hf
        refine p_lookupK (k := 40) (tgt := 84) X (dcg dc_X6_isSign 1 rfl) (by decide) hq40 (by decide) (by decide) (by decide) ?_
        refine p_pick [] ?_
        exact wX6_isSign_b84 X hG hnm hf 
      · have hf := if_f hq40 hf
        by_cases hq41 : v0 = 41
        · have hf := if_t hq41 hf
          refine p_lookupK (k := 41) (tgt := 84) X (dcg dc_X6_isSign 1 rfl) (by decide) hq41 (by decide) (by decide) (by decide) ?_
          refine p_pick [] ?_
          exact wX6_isSign_b84 X hG hnm hf 
        · have hf := if_f hq41 hf
          by_cases hq42 : v0 = 42
          · have hf := if_t hq42 hf
            refine p_lookupK (k := 42) (tgt := 84) X (dcg dc_X6_isSign 1 rfl) (by decide) hq42 (by decide) (by decide) (by decide) ?_
            refine p_pick [] ?_
            exact wX6_isSign_b84 X hG hnm hf 
          · have hf := if_f hq42 hf
            by_cases hq91 : v0 = 91
            · have hf := if_t hq91 hf
              refine p_lookupK (k := 91) (tgt := 84) X (dcg dc_X6_isSign 1 rfl) (by decide) hq91 (by decide) (by decide) (by decide) ?_
              refine p_pick [] ?_
              exact wX6_isSign_b84 X hG hnm hf 
            · have hf := if_f hq91 hf
              by_cases hq93 : v0 = 93
              · have hf := if_t hq93 hf
                refine p_lookupK (k := 93) (tgt := 84) X (dcg dc_X6_isSign 1 rfl) (by decide) hq93 (by decide) (by decide) (by decide) ?_
                refine p_pick [] ?_
                exact wX6_isSign_b84 X hG hnm hf 
              · have hf := if_f hq93 hf
                by_cases hq124 : v0 = 124
                · have hf := if_t hq124 hf
                  refine p_lookupK (k := 124) (tgt := 84) X (dcg dc_X6_isSign 1 rfl) (by decide) hq124 (by decide) (by decide) (by decide) ?_
                  refine p_pick [] ?_
                  exact wX6_isSign_b84 X hG hnm hf 
                · have hf := if_f hq124 hf
                  by_cases hq126 : v0 = 126
                  · have hf := if_t hq126 hf
                    refine p_lookupK (k := 126) (tgt := 84) X (dcg dc_X6_isSign 1 rfl) (by decide) hq126 (by decide) (by decide) (by decide) ?_
                    refine p_pick [] ?_
                    exact wX6_isSign_b84 X hG hnm hf 
                  · have hf := if_f hq126 hf
                    refine p_lookupD (tgt := 86) X (dcg dc_X6_isSign 1 rfl) (by decide) (by simp [hq33, hq38, hq40, hq41, hq42, hq91, hq93, hq124, hq126]) (by decide) ?_
                    refine p_iconst (v := 0) X (dcg dc_X6_isSign 4 rfl) (by decide) ?_
                    have er := Option.some.inj hf
                    subst er
                    exact p_zret X rfl rfl (dcg dc_X6_isSign 5 rfl) ⟨rfl, rfl⟩ (Nat.le_refl _) (Nat.le_refl _)
theorem dc_X6_advance : decs cX6_advance [(0, .aload_n 0, 1), (1, .getfield 19, 3), (4, .aload_n 0, 1), (5, .getfield 15, 3), (8, .getfield 96, 3), (11, .if_icmp .ge 50, 3), (14, .aload_n 0, 1), (15, .getfield 15, 3), (18, .getfield 99, 3), (21, .aload_n 0, 1), (22, .getfield 19, 3), (25, .iaload, 1), (26, .bipush 32, 2), (28, .if_icmp .eq 20, 3), (31, .aload_n 0, 1), (32, .getfield 15, 3), (35, .getfield 99, 3), (38, .aload_n 0, 1), (39, .getfield 19, 3), (42, .iaload, 1), (43, .bipush 10, 2), (45, .if_icmp .ne 16, 3), (48, .aload_n 0, 1), (49, .dup, 1), (50, .getfield 19, 3), (53, .iconst 1, 1), (54, .iadd, 1), (55, .putfield 19, 3), (58, .goto (-58), 3), (61, .aload_n 0, 1), (62, .aload_n 0, 1), (63, .getfield 19, 3), (66, .putfield 49, 3), (69, .aload_n 0, 1), (70, .iconst 0, 1), (71, .putfield 83, 3), (74, .aload_n 0, 1), (75, .iconst 0, 1), (76, .putfield 36, 3), (79, .aload_n 0, 1), (80, .getfield 19, 3), (83, .aload_n 0, 1), (84, .getfield 15, 3), (87, .getfield 96, 3), (90, .if_icmp .lt 4, 3), (93, .return_, 1), (94, .aload_n 0, 1), (95, .getfield 15, 3), (98, .getfield 99, 3), (101, .aload_n 0, 1), (102, .getfield 19, 3), (105, .iaload, 1), (106, .istore_n 1, 1), (107, .iload_n 1, 1), (108, .bipush 97, 2), (110, .if_icmp .lt 16, 3), (113, .iload_n 1, 1), (114, .bipush 122, 2), (116, .if_icmp .gt 10, 3), (119, .aload_n 0, 1), (120, .invokevirtual 102, 3), (123, .goto 48, 3), (126, .iload_n 1, 1), (127, .bipush 48, 2), (129, .if_icmp .lt 16, 3), (132, .iload_n 1, 1), (133, .bipush 57, 2), (135, .if_icmp .gt 10, 3), (138, .aload_n 0, 1), (139, .invokevirtual 105, 3), (142, .goto 29, 3), (145, .aload_n 0, 1), (146, .iload_n 1, 1), (147, .invokestatic 108, 3), (150, .ifCond .eq 7, 3), (153, .iload_n 1, 1), (154, .goto 4, 3), (157, .iconst 1, 1), (158, .putfield 36, 3), (161, .aload_n 0, 1), (162, .dup, 1), (163, .getfield 19, 3), (166, .iconst 1, 1), (167, .iadd, 1), (168, .putfield 19, 3), (171, .return_, 1)] = true := by decide +kernel
noncomputable def fX6_advance_b171  (h : PH) : Option PH :=
  some (h)
set_option maxRecDepth 100000 in
theorem mX6_advance_b171  {h : PH} {r : PH} (hf : fX6_advance_b171  h = some r) : eqz h (hX r) (hV r) := by
  unfold fX6_advance_b171 at hf
  have hle := eqz_rf h
  have ee := Option.some.inj hf; subst ee; exact hle
set_option maxRecDepth 100000 in
theorem wX6_advance_b171 {E : PE} {p : Program} {l : Launch} {e : Env} {s : State} {m : MethodId} {args : Array Value} {below : List Frame} {meth : Method} {c : Code} (X : Cx E p l e (rmv 1 0 0) s m args below meth c RX6 cX6_advance 2 (none)) (hG : Gs E l) (hnm : meth.name = yX6_advance.name)  {h : PH} {r : PH} (hf : fX6_advance_b171  h = some r)  : PW E p l e (rmv 1 0 0) s m args below meth c 2 0 0 (MQ below (QG E (fun v u => v = none ∧ u = r)) args s 0 0 (pA E)) h 171 [] [] := by
  unfold fX6_advance_b171 at hf
  have er := Option.some.inj hf
  subst er
  exact p_vret X rfl (dcg dc_X6_advance 85 rfl) ⟨rfl, rfl⟩ (Nat.le_refl _) (Nat.le_refl _)
noncomputable def fX6_advance_b158 (v0 : Nat) (t0 : Option Nat) (t1 : Int32) (h : PH) : Option PH :=
  gs t0 (fun a20 =>
  gd (hK h a20 = 6) (lt (sI h 6 a20 3 t1) (fun h23 =>
  gd (hK h23 v0 = 6) (lt (sI h23 6 v0 2 ((hI h23 6 v0 2) + (1 : Int32))) (fun h25 =>
  fX6_advance_b171  h25)))))
set_option maxRecDepth 100000 in
theorem mX6_advance_b158 {v0 : Nat} {t0 : Option Nat} {t1 : Int32} {h : PH} {r : PH} (hf : fX6_advance_b158 v0 t0 t1 h = some r) : eqz h (hX r) (hV r) := by
  unfold fX6_advance_b158 at hf
  have hle := eqz_rf h
  obtain ⟨a20, e21, hf⟩ := gs_some hf
  obtain ⟨hk22, hf⟩ := gd_some hf
  obtain ⟨h23, rfl, hf⟩ := lt_some hf
  obtain ⟨hk24, hf⟩ := gd_some hf
  obtain ⟨h25, rfl, hf⟩ := lt_some hf
  exact eqz_rt (mX6_advance_b171 hf) hle
set_option maxRecDepth 100000 in
theorem wX6_advance_b158 {E : PE} {p : Program} {l : Launch} {e : Env} {s : State} {m : MethodId} {args : Array Value} {below : List Frame} {meth : Method} {c : Code} (X : Cx E p l e (rmv 1 0 0) s m args below meth c RX6 cX6_advance 2 (none)) (hG : Gs E l) (hnm : meth.name = yX6_advance.name) {v0 : Nat} {t0 : Option Nat} {t1 : Int32} {h : PH} {r : PH} (hf : fX6_advance_b158 v0 t0 t1 h = some r)  : PW E p l e (rmv 1 0 0) s m args below meth c 2 0 0 (MQ below (QG E (fun v u => v = none ∧ u = r)) args s 0 0 (pA E)) h 158 [(0, some (.ref v0))] [.int t1, va_rf t0] := by
  unfold fX6_advance_b158 at hf
  obtain ⟨a20, e21, hf⟩ := gs_some hf
  first | subst e21 | (try rw [e21])
  obtain ⟨hk22, hf⟩ := gd_some hf
  refine p_putI X fl_X6_36 rfl (by decide) (fun q hq => by cases hq; rfl) rfl rfl (dcg dc_X6_advance 78 rfl) hk22 ?_
  obtain ⟨h23, rfl, hf⟩ := lt_some hf
  refine p_aload_n X (dcg dc_X6_advance 79 rfl) rfl rfl ?_
  refine p_dup X (dcg dc_X6_advance 80 rfl) rfl ?_
  obtain ⟨hk24, hf⟩ := gd_some hf
  refine p_getI X fl_X6_19 rfl (by decide) (dcg dc_X6_advance 81 rfl) hk24 ?_
  refine p_iconst (v := 1) X (dcg dc_X6_advance 82 rfl) (by decide) ?_
  refine p_iadd X (dcg dc_X6_advance 83 rfl) ?_
  refine p_putI X fl_X6_19 rfl (by decide) (fun q hq => by cases hq; rfl) rfl rfl (dcg dc_X6_advance 84 rfl) hk24 ?_
  obtain ⟨h25, rfl, hf⟩ := lt_some hf
  refine p_pick [] ?_
  exact wX6_advance_b171 X hG hnm hf 
noncomputable def fX6_advance_b145 (v0 : Nat) (v1 : Int32) (h : PH) : Option PH :=
  bd (fX6_isSign v1) (fun z19 =>
  if (z19 = 0) then (fX6_advance_b158 v0 (some v0) (1 : Int32) h) else
  fX6_advance_b158 v0 (some v0) v1 h)
set_option maxRecDepth 100000 in
theorem mX6_advance_b145 {v0 : Nat} {v1 : Int32} {h : PH} {r : PH} (hf : fX6_advance_b145 v0 v1 h = some r) : eqz h (hX r) (hV r) := by
  unfold fX6_advance_b145 at hf
  have hle := eqz_rf h
  obtain ⟨z19, hz19, hf⟩ := bd_some hf
  rcases ite_or hf with ⟨q, hf⟩ | ⟨q, hf⟩
  · have hf := if_t q hf
    exact eqz_rt (mX6_advance_b158 hf) hle
  · have hf := if_f q hf
    exact eqz_rt (mX6_advance_b158 hf) hle
set_option maxRecDepth 100000 in
theorem wX6_advance_b145 {E : PE} {p : Program} {l : Launch} {e : Env} {s : State} {m : MethodId} {args : Array Value} {below : List Frame} {meth : Method} {c : Code} (X : Cx E p l e (rmv 1 0 0) s m args below meth c RX6 cX6_advance 2 (none)) (hG : Gs E l) (hnm : meth.name = yX6_advance.name) {v0 : Nat} {v1 : Int32} {h : PH} {r : PH} (hf : fX6_advance_b145 v0 v1 h = some r)  : PW E p l e (rmv 1 0 0) s m args below meth c 2 0 0 (MQ below (QG E (fun v u => v = none ∧ u = r)) args s 0 0 (pA E)) h 145 [(0, some (.ref v0)), (1, some (.int v1))] [] := by
  unfold fX6_advance_b145 at hf
  refine p_aload_n X (dcg dc_X6_advance 71 rfl) rfl rfl ?_
  refine p_iload_n X (dcg dc_X6_advance 72 rfl) rfl rfl ?_
  obtain ⟨z19, hz19, hf⟩ := bd_some hf
  refine p_callS (As := [_]) X ml_X6_108 (dcg dc_X6_advance 73 rfl) rfl rfl  (wX6_isSign hG hz19) (by decide) (room4 (Nat.le_of_ble_eq_true rfl)) (Nat.le_refl _) (Nat.le_refl _) ?_
  rintro _ u9 ⟨rfl, e9⟩; have e9 := e9.symm; subst e9
  refine p_if_eq (tgt := 157) X (dcg dc_X6_advance 74 rfl) (by decide) (fun q => ?_) (fun q => ?_)
  · have hf := if_t q hf
    refine p_iconst (v := 1) X (dcg dc_X6_advance 77 rfl) (by decide) ?_
    refine p_pick [0] ?_
    exact wX6_advance_b158 X hG hnm hf 
  · have hf := if_f q hf
    refine p_iload_n X (dcg dc_X6_advance 75 rfl) rfl rfl ?_
    refine p_goto (tgt := 158) X (dcg dc_X6_advance 76 rfl) (by decide) ?_
    refine p_pick [0] ?_
    exact wX6_advance_b158 X hG hnm hf 
noncomputable def fX6_advance_b126 (v0 : Nat) (v1 : Int32) (h : PH) : Option PH :=
  if (v1 < (48 : Int32)) then (fX6_advance_b145 v0 v1 h) else
  if ((57 : Int32) < v1) then (fX6_advance_b145 v0 v1 h) else
  gd (hK h v0 = 6) (bd (fX6_advanceNumber v0 h) (fun z27 =>
  fX6_advance_b171  z27))
set_option maxRecDepth 100000 in
theorem mX6_advance_b126 {v0 : Nat} {v1 : Int32} {h : PH} {r : PH} (hf : fX6_advance_b126 v0 v1 h = some r) : eqz h (hX r) (hV r) := by
  unfold fX6_advance_b126 at hf
  have hle := eqz_rf h
  rcases ite_or hf with ⟨q, hf⟩ | ⟨q, hf⟩
  · have hf := if_t q hf
    exact eqz_rt (mX6_advance_b145 hf) hle
  · have hf := if_f q hf
    rcases ite_or hf with ⟨q, hf⟩ | ⟨q, hf⟩
    · have hf := if_t q hf
      exact eqz_rt (mX6_advance_b145 hf) hle
    · have hf := if_f q hf
      obtain ⟨hk26, hf⟩ := gd_some hf
      obtain ⟨z27, hz27, hf⟩ := bd_some hf
      have hle := eqz_rt (mX6_advanceNumber hz27) hle
      exact eqz_rt (mX6_advance_b171 hf) hle
set_option maxRecDepth 100000 in
theorem wX6_advance_b126 {E : PE} {p : Program} {l : Launch} {e : Env} {s : State} {m : MethodId} {args : Array Value} {below : List Frame} {meth : Method} {c : Code} (X : Cx E p l e (rmv 1 0 0) s m args below meth c RX6 cX6_advance 2 (none)) (hG : Gs E l) (hnm : meth.name = yX6_advance.name) {v0 : Nat} {v1 : Int32} {h : PH} {r : PH} (hf : fX6_advance_b126 v0 v1 h = some r)  : PW E p l e (rmv 1 0 0) s m args below meth c 2 0 0 (MQ below (QG E (fun v u => v = none ∧ u = r)) args s 0 0 (pA E)) h 126 [(0, some (.ref v0)), (1, some (.int v1))] [] := by
  unfold fX6_advance_b126 at hf
  refine p_iload_n X (dcg dc_X6_advance 62 rfl) rfl rfl ?_
  refine p_bipush (v := 48) X (dcg dc_X6_advance 63 rfl) (by decide) ?_
  refine p_icmp_lt (tgt := 145) X (dcg dc_X6_advance 64 rfl) (by decide) (fun q => ?_) (fun q => ?_)
  · have hf := if_t q hf
    refine p_pick [0, 1] ?_
    exact wX6_advance_b145 X hG hnm hf 
  · have hf := if_f q hf
    refine p_iload_n X (dcg dc_X6_advance 65 rfl) rfl rfl ?_
    refine p_bipush (v := 57) X (dcg dc_X6_advance 66 rfl) (by decide) ?_
    refine p_icmp_gt (tgt := 145) X (dcg dc_X6_advance 67 rfl) (by decide) (fun q => ?_) (fun q => ?_)
    · have hf := if_t q hf
      refine p_pick [0, 1] ?_
      exact wX6_advance_b145 X hG hnm hf 
    · have hf := if_f q hf
      refine p_aload_n X (dcg dc_X6_advance 68 rfl) rfl rfl ?_
      obtain ⟨hk26, hf⟩ := gd_some hf
      obtain ⟨z27, hz27, hf⟩ := bd_some hf
      refine p_callV (As := []) X ml_X6_105 (dcg dc_X6_advance 69 rfl) rfl rfl hk26 (wX6_advanceNumber hG hz27) (by decide) (room4 (Nat.le_of_ble_eq_true rfl)) (Nat.le_refl _) (Nat.le_refl _) ?_
      rintro _ u9 ⟨rfl, e9⟩; have e9 := e9.symm; subst e9
      refine p_goto (tgt := 171) X (dcg dc_X6_advance 70 rfl) (by decide) ?_
      refine p_pick [] ?_
      exact wX6_advance_b171 X hG hnm hf 
noncomputable def fX6_advance_b61 (v0 : Nat) (h : PH) : Option PH :=
  gd (hK h v0 = 6) (lt (sI h 6 v0 4 (hI h 6 v0 2)) (fun h6 =>
  lt (sI h6 6 v0 5 (0 : Int32)) (fun h7 =>
  lt (sI h7 6 v0 3 (0 : Int32)) (fun h8 =>
  gs (hR h8 6 v0 0) (fun a9 =>
  gd (hK h8 a9 = 7) (if ((hI h8 6 v0 2) < (hI h8 7 a9 1)) then (gs (hR h8 6 v0 0) (fun a12 =>
  gd (hK h8 a12 = 7) (gs (hR h8 7 a12 0) (fun a15 =>
  gd (hK h8 a15 = 20 ∧ inb (hI h8 6 v0 2) (hN h8 a15)) (if ((hI h8 20 a15 (Int32.toNatClampNeg (hI h8 6 v0 2))) < (97 : Int32)) then (fX6_advance_b126 v0 (hI h8 20 a15 (Int32.toNatClampNeg (hI h8 6 v0 2))) h8) else
  if ((122 : Int32) < (hI h8 20 a15 (Int32.toNatClampNeg (hI h8 6 v0 2)))) then (fX6_advance_b126 v0 (hI h8 20 a15 (Int32.toNatClampNeg (hI h8 6 v0 2))) h8) else
  bd (fX6_advanceWord v0 h8) (fun z28 =>
  fX6_advance_b171  z28)))))) else
  some (h8)))))))
set_option maxRecDepth 100000 in
theorem mX6_advance_b61 {v0 : Nat} {h : PH} {r : PH} (hf : fX6_advance_b61 v0 h = some r) : eqz h (hX r) (hV r) := by
  unfold fX6_advance_b61 at hf
  have hle := eqz_rf h
  obtain ⟨hk5, hf⟩ := gd_some hf
  obtain ⟨h6, rfl, hf⟩ := lt_some hf
  obtain ⟨h7, rfl, hf⟩ := lt_some hf
  obtain ⟨h8, rfl, hf⟩ := lt_some hf
  obtain ⟨a9, e10, hf⟩ := gs_some hf
  obtain ⟨hk11, hf⟩ := gd_some hf
  rcases ite_or hf with ⟨q, hf⟩ | ⟨q, hf⟩
  · have hf := if_t q hf
    obtain ⟨a12, e13, hf⟩ := gs_some hf
    obtain ⟨hk14, hf⟩ := gd_some hf
    obtain ⟨a15, e16, hf⟩ := gs_some hf
    obtain ⟨⟨hk18, hb17⟩, hf⟩ := gd_some hf
    rcases ite_or hf with ⟨q, hf⟩ | ⟨q, hf⟩
    · have hf := if_t q hf
      exact eqz_rt (mX6_advance_b126 hf) hle
    · have hf := if_f q hf
      rcases ite_or hf with ⟨q, hf⟩ | ⟨q, hf⟩
      · have hf := if_t q hf
        exact eqz_rt (mX6_advance_b126 hf) hle
      · have hf := if_f q hf
        obtain ⟨z28, hz28, hf⟩ := bd_some hf
        have hle := eqz_rt (mX6_advanceWord hz28) hle
        exact eqz_rt (mX6_advance_b171 hf) hle
  · have hf := if_f q hf
    have ee := Option.some.inj hf; subst ee; exact hle
set_option maxRecDepth 100000 in
theorem wX6_advance_b61 {E : PE} {p : Program} {l : Launch} {e : Env} {s : State} {m : MethodId} {args : Array Value} {below : List Frame} {meth : Method} {c : Code} (X : Cx E p l e (rmv 1 0 0) s m args below meth c RX6 cX6_advance 2 (none)) (hG : Gs E l) (hnm : meth.name = yX6_advance.name) {v0 : Nat} {h : PH} {r : PH} (hf : fX6_advance_b61 v0 h = some r)  : PW E p l e (rmv 1 0 0) s m args below meth c 2 0 0 (MQ below (QG E (fun v u => v = none ∧ u = r)) args s 0 0 (pA E)) h 61 [(0, some (.ref v0))] [] := by
  unfold fX6_advance_b61 at hf
  refine p_aload_n X (dcg dc_X6_advance 29 rfl) rfl rfl ?_
  refine p_aload_n X (dcg dc_X6_advance 30 rfl) rfl rfl ?_
  obtain ⟨hk5, hf⟩ := gd_some hf
  refine p_getI X fl_X6_19 rfl (by decide) (dcg dc_X6_advance 31 rfl) hk5 ?_
  refine p_putI X fl_X6_49 rfl (by decide) (fun q hq => by cases hq; rfl) rfl rfl (dcg dc_X6_advance 32 rfl) hk5 ?_
  obtain ⟨h6, rfl, hf⟩ := lt_some hf
  refine p_aload_n X (dcg dc_X6_advance 33 rfl) rfl rfl ?_
  refine p_iconst (v := 0) X (dcg dc_X6_advance 34 rfl) (by decide) ?_
  refine p_putI X fl_X6_83 rfl (by decide) (fun q hq => by cases hq; rfl) rfl rfl (dcg dc_X6_advance 35 rfl) hk5 ?_
  obtain ⟨h7, rfl, hf⟩ := lt_some hf
  refine p_aload_n X (dcg dc_X6_advance 36 rfl) rfl rfl ?_
  refine p_iconst (v := 0) X (dcg dc_X6_advance 37 rfl) (by decide) ?_
  refine p_putI X fl_X6_36 rfl (by decide) (fun q hq => by cases hq; rfl) rfl rfl (dcg dc_X6_advance 38 rfl) hk5 ?_
  obtain ⟨h8, rfl, hf⟩ := lt_some hf
  refine p_aload_n X (dcg dc_X6_advance 39 rfl) rfl rfl ?_
  refine p_getI X fl_X6_19 rfl (by decide) (dcg dc_X6_advance 40 rfl) hk5 ?_
  refine p_aload_n X (dcg dc_X6_advance 41 rfl) rfl rfl ?_
  refine p_getR X fl_X6_15 rfl (by decide) (dcg dc_X6_advance 42 rfl) hk5 ?_
  obtain ⟨a9, e10, hf⟩ := gs_some hf
  first | subst e10 | (try rw [e10])
  obtain ⟨hk11, hf⟩ := gd_some hf
  refine p_getIn X fl_X6_96 rfl (by decide) (dcg dc_X6_advance 43 rfl) hk11 ?_
  refine p_icmp_lt (tgt := 94) X (dcg dc_X6_advance 44 rfl) (by decide) (fun q => ?_) (fun q => ?_)
  · have hf := if_t q hf
    refine p_aload_n X (dcg dc_X6_advance 46 rfl) rfl rfl ?_
    refine p_getR X fl_X6_15 rfl (by decide) (dcg dc_X6_advance 47 rfl) hk5 ?_
    obtain ⟨a12, e13, hf⟩ := gs_some hf
    first | subst e13 | (try rw [e13])
    obtain ⟨hk14, hf⟩ := gd_some hf
    refine p_getRn X fl_X6_99 rfl (by decide) (dcg dc_X6_advance 48 rfl) hk14 ?_
    refine p_aload_n X (dcg dc_X6_advance 49 rfl) rfl rfl ?_
    refine p_getI X fl_X6_19 rfl (by decide) (dcg dc_X6_advance 50 rfl) hk5 ?_
    obtain ⟨a15, e16, hf⟩ := gs_some hf
    first | subst e16 | (try rw [e16])
    obtain ⟨⟨hk18, hb17⟩, hf⟩ := gd_some hf
    refine p_iald X (dcg dc_X6_advance 51 rfl) hk18 (vp_of_inb hb17) ?_
    refine p_istore_n X (dcg dc_X6_advance 52 rfl) rfl (by decide) rfl ?_
    refine p_iload_n X (dcg dc_X6_advance 53 rfl) rfl rfl ?_
    refine p_bipush (v := 97) X (dcg dc_X6_advance 54 rfl) (by decide) ?_
    refine p_icmp_lt (tgt := 126) X (dcg dc_X6_advance 55 rfl) (by decide) (fun q => ?_) (fun q => ?_)
    · have hf := if_t q hf
      refine p_pick [0, 1] ?_
      exact wX6_advance_b126 X hG hnm hf 
    · have hf := if_f q hf
      refine p_iload_n X (dcg dc_X6_advance 56 rfl) rfl rfl ?_
      refine p_bipush (v := 122) X (dcg dc_X6_advance 57 rfl) (by decide) ?_
      refine p_icmp_gt (tgt := 126) X (dcg dc_X6_advance 58 rfl) (by decide) (fun q => ?_) (fun q => ?_)
      · have hf := if_t q hf
        refine p_pick [0, 1] ?_
        exact wX6_advance_b126 X hG hnm hf 
      · have hf := if_f q hf
        refine p_aload_n X (dcg dc_X6_advance 59 rfl) rfl rfl ?_
        obtain ⟨z28, hz28, hf⟩ := bd_some hf
        refine p_callV (As := []) X ml_X6_102 (dcg dc_X6_advance 60 rfl) rfl rfl hk5 (wX6_advanceWord hG hz28) (by decide) (room4 (Nat.le_of_ble_eq_true rfl)) (Nat.le_refl _) (Nat.le_refl _) ?_
        rintro _ u9 ⟨rfl, e9⟩; have e9 := e9.symm; subst e9
        refine p_goto (tgt := 171) X (dcg dc_X6_advance 61 rfl) (by decide) ?_
        refine p_pick [] ?_
        exact wX6_advance_b171 X hG hnm hf 
  · have hf := if_f q hf
    have er := Option.some.inj hf
    subst er
    exact p_vret X rfl (dcg dc_X6_advance 45 rfl) ⟨rfl, rfl⟩ (Nat.le_refl _) (Nat.le_refl _)
noncomputable def fX6_advance_b48 (v0 : Nat) (h : PH) : Option ((PH) ⊕ PH) :=
  gd (hK h v0 = 6) (lt (sI h 6 v0 2 ((hI h 6 v0 2) + (1 : Int32))) (fun h39 =>
  some (.inl (h39))))
set_option maxRecDepth 100000 in
theorem mX6_advance_b48 {v0 : Nat} {h : PH} {x : ((PH) ⊕ PH)} (hf : fX6_advance_b48 v0 h = some x) : (∀ w9 : (PH), x = .inl w9 → eqz h (hX (w9)) (hV (w9))) ∧ (∀ w9 : PH, x = .inr w9 → eqz h (hX w9) (hV w9)) := by
  unfold fX6_advance_b48 at hf
  have hle := eqz_rf h
  obtain ⟨hk38, hf⟩ := gd_some hf
  obtain ⟨h39, rfl, hf⟩ := lt_some hf
  have ee := Option.some.inj hf; subst ee
  exact ⟨(fun z e => by have ee := Sum.inl.inj (e); subst ee; exact hle), (fun z e => nomatch e)⟩
set_option maxRecDepth 100000 in
theorem wX6_advance_b48 {E : PE} {p : Program} {l : Launch} {e : Env} {s : State} {m : MethodId} {args : Array Value} {below : List Frame} {meth : Method} {c : Code} (X : Cx E p l e (rmv 1 0 0) s m args below meth c RX6 cX6_advance 2 (none)) (hG : Gs E l) (hnm : meth.name = yX6_advance.name) {v0 : Nat} {h : PH} {r : PH} {x : ((PH) ⊕ PH)} (hf : fX6_advance_b48 v0 h = some x) (k0 : ∀ z : (PH), x = .inl z → PW E p l e (rmv 1 0 0) s m args below meth c 2 0 0 (MQ below (QG E (fun v u => v = none ∧ u = r)) args s 0 0 (pA E)) (z) 0 [(0, some (.ref v0))] []) (kf : ∀ z : PH, x = .inr z → z = r) : PW E p l e (rmv 1 0 0) s m args below meth c 2 0 0 (MQ below (QG E (fun v u => v = none ∧ u = r)) args s 0 0 (pA E)) h 48 [(0, some (.ref v0))] [] := by
  unfold fX6_advance_b48 at hf
  refine p_aload_n X (dcg dc_X6_advance 22 rfl) rfl rfl ?_
  refine p_dup X (dcg dc_X6_advance 23 rfl) rfl ?_
  obtain ⟨hk38, hf⟩ := gd_some hf
  refine p_getI X fl_X6_19 rfl (by decide) (dcg dc_X6_advance 24 rfl) hk38 ?_
  refine p_iconst (v := 1) X (dcg dc_X6_advance 25 rfl) (by decide) ?_
  refine p_iadd X (dcg dc_X6_advance 26 rfl) ?_
  refine p_putI X fl_X6_19 rfl (by decide) (fun q hq => by cases hq; rfl) rfl rfl (dcg dc_X6_advance 27 rfl) hk38 ?_
  obtain ⟨h39, rfl, hf⟩ := lt_some hf
  refine p_goto (tgt := 0) X (dcg dc_X6_advance 28 rfl) (by decide) ?_
  refine p_pick [0] ?_
  exact k0 _ (Option.some.inj hf).symm
noncomputable def fX6_advance_c0 (v0 : Nat) (h : PH) : Option ((PH) ⊕ PH) :=
  gd (hK h v0 = 6) (gs (hR h 6 v0 0) (fun a2 =>
  gd (hK h a2 = 7) (if ((hI h 7 a2 1) ≤ (hI h 6 v0 2)) then (mr (fX6_advance_b61 v0 h)) else
  gs (hR h 6 v0 0) (fun a31 =>
  gd (hK h a31 = 7) (gs (hR h 7 a31 0) (fun a34 =>
  gd (hK h a34 = 20 ∧ inb (hI h 6 v0 2) (hN h a34)) (if ((hI h 20 a34 (Int32.toNatClampNeg (hI h 6 v0 2))) = (32 : Int32)) then (fX6_advance_b48 v0 h) else
  gs (hR h 6 v0 0) (fun a40 =>
  gd (hK h a40 = 7) (gs (hR h 7 a40 0) (fun a43 =>
  gd (hK h a43 = 20 ∧ inb (hI h 6 v0 2) (hN h a43)) (if (¬ (hI h 20 a43 (Int32.toNatClampNeg (hI h 6 v0 2))) = (10 : Int32)) then (mr (fX6_advance_b61 v0 h)) else
  fX6_advance_b48 v0 h)))))))))))
set_option maxRecDepth 100000 in
theorem mX6_advance_c0 {v0 : Nat} {h : PH} {x : ((PH) ⊕ PH)} (hf : fX6_advance_c0 v0 h = some x) : (∀ w9 : (PH), x = .inl w9 → eqz h (hX (w9)) (hV (w9))) ∧ (∀ w9 : PH, x = .inr w9 → eqz h (hX w9) (hV w9)) := by
  unfold fX6_advance_c0 at hf
  have hle := eqz_rf h
  obtain ⟨hk1, hf⟩ := gd_some hf
  obtain ⟨a2, e3, hf⟩ := gs_some hf
  obtain ⟨hk4, hf⟩ := gd_some hf
  rcases ite_or hf with ⟨q, hf⟩ | ⟨q, hf⟩
  · have hf := if_t q hf
    obtain ⟨y29, hfm, rfl⟩ := mr_some hf; have hf := hfm; clear hfm
    have cf := mX6_advance_b61 hf
    exact ⟨(fun z e => nomatch e), (fun z e => by cases e <;> exact eqz_rt cf hle)⟩
  · have hf := if_f q hf
    obtain ⟨a31, e32, hf⟩ := gs_some hf
    obtain ⟨hk33, hf⟩ := gd_some hf
    obtain ⟨a34, e35, hf⟩ := gs_some hf
    obtain ⟨⟨hk37, hb36⟩, hf⟩ := gd_some hf
    rcases ite_or hf with ⟨q, hf⟩ | ⟨q, hf⟩
    · have hf := if_t q hf
      obtain ⟨c0, cf⟩ := mX6_advance_b48 hf
      exact ⟨fun z e => eqz_rt (c0 z (e)) hle, fun z e => eqz_rt (cf z (e)) hle⟩
    · have hf := if_f q hf
      obtain ⟨a40, e41, hf⟩ := gs_some hf
      obtain ⟨hk42, hf⟩ := gd_some hf
      obtain ⟨a43, e44, hf⟩ := gs_some hf
      obtain ⟨⟨hk46, hb45⟩, hf⟩ := gd_some hf
      rcases ite_or hf with ⟨q, hf⟩ | ⟨q, hf⟩
      · have hf := if_t q hf
        obtain ⟨y47, hfm, rfl⟩ := mr_some hf; have hf := hfm; clear hfm
        have cf := mX6_advance_b61 hf
        exact ⟨(fun z e => nomatch e), (fun z e => by cases e <;> exact eqz_rt cf hle)⟩
      · have hf := if_f q hf
        obtain ⟨c0, cf⟩ := mX6_advance_b48 hf
        exact ⟨fun z e => eqz_rt (c0 z (e)) hle, fun z e => eqz_rt (cf z (e)) hle⟩
set_option maxRecDepth 100000 in
theorem wX6_advance_c0 {E : PE} {p : Program} {l : Launch} {e : Env} {s : State} {m : MethodId} {args : Array Value} {below : List Frame} {meth : Method} {c : Code} (X : Cx E p l e (rmv 1 0 0) s m args below meth c RX6 cX6_advance 2 (none)) (hG : Gs E l) (hnm : meth.name = yX6_advance.name) {v0 : Nat} {h : PH} {r : PH} {x : ((PH) ⊕ PH)} (hf : fX6_advance_c0 v0 h = some x) (k0 : ∀ z : (PH), x = .inl z → PW E p l e (rmv 1 0 0) s m args below meth c 2 0 0 (MQ below (QG E (fun v u => v = none ∧ u = r)) args s 0 0 (pA E)) (z) 0 [(0, some (.ref v0))] []) (kf : ∀ z : PH, x = .inr z → z = r) : PW E p l e (rmv 1 0 0) s m args below meth c 2 0 0 (MQ below (QG E (fun v u => v = none ∧ u = r)) args s 0 0 (pA E)) h 0 [(0, some (.ref v0))] [] := by
  unfold fX6_advance_c0 at hf
  refine p_aload_n X (dcg dc_X6_advance 0 rfl) rfl rfl ?_
  obtain ⟨hk1, hf⟩ := gd_some hf
  refine p_getI X fl_X6_19 rfl (by decide) (dcg dc_X6_advance 1 rfl) hk1 ?_
  refine p_aload_n X (dcg dc_X6_advance 2 rfl) rfl rfl ?_
  refine p_getR X fl_X6_15 rfl (by decide) (dcg dc_X6_advance 3 rfl) hk1 ?_
  obtain ⟨a2, e3, hf⟩ := gs_some hf
  first | subst e3 | (try rw [e3])
  obtain ⟨hk4, hf⟩ := gd_some hf
  refine p_getIn X fl_X6_96 rfl (by decide) (dcg dc_X6_advance 4 rfl) hk4 ?_
  refine p_icmp_ge (tgt := 61) X (dcg dc_X6_advance 5 rfl) (by decide) (fun q => ?_) (fun q => ?_)
  · have hf := if_t q hf
    obtain ⟨y29, hf, hy30⟩ := mr_some hf
    have hy30f := kf y29 hy30
    subst hy30f
    refine p_pick [0] ?_
    exact wX6_advance_b61 X hG hnm hf 
  · have hf := if_f q hf
    refine p_aload_n X (dcg dc_X6_advance 6 rfl) rfl rfl ?_
    refine p_getR X fl_X6_15 rfl (by decide) (dcg dc_X6_advance 7 rfl) hk1 ?_
    obtain ⟨a31, e32, hf⟩ := gs_some hf
    first | subst e32 | (try rw [e32])
    obtain ⟨hk33, hf⟩ := gd_some hf
    refine p_getRn X fl_X6_99 rfl (by decide) (dcg dc_X6_advance 8 rfl) hk33 ?_
    refine p_aload_n X (dcg dc_X6_advance 9 rfl) rfl rfl ?_
    refine p_getI X fl_X6_19 rfl (by decide) (dcg dc_X6_advance 10 rfl) hk1 ?_
    obtain ⟨a34, e35, hf⟩ := gs_some hf
    first | subst e35 | (try rw [e35])
    obtain ⟨⟨hk37, hb36⟩, hf⟩ := gd_some hf
    refine p_iald X (dcg dc_X6_advance 11 rfl) hk37 (vp_of_inb hb36) ?_
    refine p_bipush (v := 32) X (dcg dc_X6_advance 12 rfl) (by decide) ?_
    refine p_icmp_eq (tgt := 48) X (dcg dc_X6_advance 13 rfl) (by decide) (fun q => ?_) (fun q => ?_)
    · have hf := if_t q hf
      refine p_pick [0] ?_
      exact wX6_advance_b48 X hG hnm hf k0 kf
    · have hf := if_f q hf
      refine p_aload_n X (dcg dc_X6_advance 14 rfl) rfl rfl ?_
      refine p_getR X fl_X6_15 rfl (by decide) (dcg dc_X6_advance 15 rfl) hk1 ?_
      obtain ⟨a40, e41, hf⟩ := gs_some hf
      first | subst e41 | (try rw [e41])
      obtain ⟨hk42, hf⟩ := gd_some hf
      refine p_getRn X fl_X6_99 rfl (by decide) (dcg dc_X6_advance 16 rfl) hk42 ?_
      refine p_aload_n X (dcg dc_X6_advance 17 rfl) rfl rfl ?_
      refine p_getI X fl_X6_19 rfl (by decide) (dcg dc_X6_advance 18 rfl) hk1 ?_
      obtain ⟨a43, e44, hf⟩ := gs_some hf
      first | subst e44 | (try rw [e44])
      obtain ⟨⟨hk46, hb45⟩, hf⟩ := gd_some hf
      refine p_iald X (dcg dc_X6_advance 19 rfl) hk46 (vp_of_inb hb45) ?_
      refine p_bipush (v := 10) X (dcg dc_X6_advance 20 rfl) (by decide) ?_
      refine p_icmp_ne (tgt := 61) X (dcg dc_X6_advance 21 rfl) (by decide) (fun q => ?_) (fun q => ?_)
      · have hf := if_t q hf
        obtain ⟨y47, hf, hy48⟩ := mr_some hf
        have hy48f := kf y47 hy48
        subst hy48f
        refine p_pick [0] ?_
        exact wX6_advance_b61 X hG hnm hf 
      · have hf := if_f q hf
        refine p_pick [0] ?_
        exact wX6_advance_b48 X hG hnm hf k0 kf
noncomputable def fX6_advance_l0 (v0 : Nat) (h : PH) : Option PH := wh (fun z : (PH) => fX6_advance_c0 v0 (z)) (h)
set_option maxRecDepth 100000 in
theorem mX6_advance_l0 {v0 : Nat} {h : PH} {r : PH} (hf : fX6_advance_l0 v0 h = some r) : eqz h (hX r) (hV r) := by
  unfold fX6_advance_l0 at hf
  refine wh_ind (P := fun z => eqz (z) (hX r) (hV r)) (fun z x0 hs i1 i2 => ?_) _ hf
  obtain ⟨c0, cf⟩ := mX6_advance_c0 (v0 := v0) (h := z) hs
  rcases hxx : x0 with zz | zz
  · exact eqz_tr (c0 zz hxx) (i1 zz hxx)
  · have ee := i2 zz hxx; subst ee; exact cf zz hxx
set_option maxRecDepth 100000 in
theorem wX6_advance_l0 {E : PE} {p : Program} {l : Launch} {e : Env} {s : State} {m : MethodId} {args : Array Value} {below : List Frame} {meth : Method} {c : Code} (X : Cx E p l e (rmv 1 0 0) s m args below meth c RX6 cX6_advance 2 (none)) (hG : Gs E l) (hnm : meth.name = yX6_advance.name) {v0 : Nat} {h : PH} {r : PH} (hf : fX6_advance_l0 v0 h = some r)  : PW E p l e (rmv 1 0 0) s m args below meth c 2 0 0 (MQ below (QG E (fun v u => v = none ∧ u = r)) args s 0 0 (pA E)) h 0 [(0, some (.ref v0))] [] := by
  unfold fX6_advance_l0 at hf
  refine wh_ind (P := fun z => PW E p l e (rmv 1 0 0) s m args below meth c 2 0 0 (MQ below (QG E (fun v u => v = none ∧ u = r)) args s 0 0 (pA E)) (z) 0 [(0, some (.ref v0))] []) (fun z x0 hs i1 i2 => ?_) _ hf
  exact wX6_advance_c0 (r := r) (v0 := v0) (h := z) X hG hnm hs i1  i2
noncomputable def fX6_advance (v0 : Nat) (h : PH) : Option PH :=
  fX6_advance_l0 v0 h
set_option maxRecDepth 100000 in
theorem mX6_advance {v0 : Nat} {h : PH} {r : PH} (hf : fX6_advance v0 h = some r) : eqz h (hX r) (hV r) := by
  unfold fX6_advance at hf
  have hle := eqz_rf h
  exact eqz_rt (mX6_advance_l0 hf) hle
set_option maxRecDepth 100000 in
theorem wX6_advance {E : PE} {l : Launch} (hG : Gs E l) {v0 : Nat} {h : PH} {r : PH} (hf : fX6_advance v0 h = some r) : Ct E l 1 0 0 yX6_advance cX6_advance 2 (none) [.ref v0] h (fun v u => v = none ∧ u = r) := by
  refine ct_of hG (by decide) (Nat.le_of_ble_eq_true rfl) ?_
  intro p e s m args below meth c X hnm
  show PW E p l e _ s m args below meth c _ 0 0 _ h 0 [(0, some (.ref v0))] []
  unfold fX6_advance at hf
  refine p_pick [0] ?_
  exact wX6_advance_l0 X hG hnm hf
