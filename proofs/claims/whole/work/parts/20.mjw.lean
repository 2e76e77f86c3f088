/-! methods of the program (by program: wip/whole/gen2.py) -/
theorem dc_X12_drop : decs cX12_drop [(0, .aload_n 0, 1), (1, .iconst 0, 1), (2, .putfield 1, 3), (5, .aload_n 0, 1), (6, .iload_n 1, 1), (7, .invokevirtual 358, 3), (10, .ifCond .eq 5, 3), (13, .iconst 0, 1), (14, .ireturn, 1), (15, .aload_n 0, 1), (16, .getfield 87, 3), (19, .iload_n 1, 1), (20, .iaload, 1), (21, .iconst (-1), 1), (22, .if_icmp .eq 7, 3), (25, .iconst 1, 1), (26, .goto 4, 3), (29, .iconst 0, 1), (30, .istore_n 2, 1), (31, .aload_n 0, 1), (32, .getfield 87, 3), (35, .iload_n 1, 1), (36, .iconst (-1), 1), (37, .iastore, 1), (38, .iload_n 2, 1), (39, .ireturn, 1)] = true := by decide +kernel
noncomputable def fX12_drop_b30 (v0 : Nat) (v1 : Int32) (t0 : Int32) (h : PH) : Option (Int32 × PH) :=
  gd (hK h v0 = 12) (gs (hR h 12 v0 34) (fun a10 =>
  gd (hK h a10 = 20 ∧ inb v1 (hN h a10)) (lt (sI h 20 a10 (Int32.toNatClampNeg v1) (-1 : Int32)) (fun h14 =>
  gd (t0 &&& 1 = t0) (some ((t0, h14)))))))
set_option maxRecDepth 100000 in
theorem mX12_drop_b30 {v0 : Nat} {v1 : Int32} {t0 : Int32} {h : PH} {r : (Int32 × PH)} (hf : fX12_drop_b30 v0 v1 t0 h = some r) : eqz h (hX r.2) (hV r.2) := by
  unfold fX12_drop_b30 at hf
  have hle := eqz_rf h
  obtain ⟨hk9, hf⟩ := gd_some hf
  obtain ⟨a10, e11, hf⟩ := gs_some hf
  obtain ⟨⟨hk13, hb12⟩, hf⟩ := gd_some hf
  obtain ⟨h14, rfl, hf⟩ := lt_some hf
  obtain ⟨hg15, hf⟩ := gd_some hf
  have ee := Option.some.inj hf; subst ee; exact hle
set_option maxRecDepth 100000 in
theorem wX12_drop_b30 {E : PE} {p : Program} {l : Launch} {e : Env} {s : State} {m : MethodId} {args : Array Value} {below : List Frame} {meth : Method} {c : Code} (X : Cx E p l e (rmv 2 0 0) s m args below meth c RX12 cX12_drop 3 (some .boolean)) (hG : Gs E l) (hnm : meth.name = yX12_drop.name) {v0 : Nat} {v1 : Int32} {t0 : Int32} {h : PH} {r : (Int32 × PH)} (hf : fX12_drop_b30 v0 v1 t0 h = some r)  : PW E p l e (rmv 2 0 0) s m args below meth c 3 0 0 (MQ below (QG E (fun v u => v = some (.int r.1) ∧ u = r.2)) args s 0 0 (pA E)) h 30 [(0, some (.ref v0)), (1, some (.int v1))] [.int t0] := by
  unfold fX12_drop_b30 at hf
  refine p_istore_n X (dcg dc_X12_drop 18 rfl) rfl (by decide) rfl ?_
  refine p_aload_n X (dcg dc_X12_drop 19 rfl) rfl rfl ?_
  obtain ⟨hk9, hf⟩ := gd_some hf
  refine p_getR X fl_X12_87 rfl (by decide) (dcg dc_X12_drop 20 rfl) hk9 ?_
  refine p_iload_n X (dcg dc_X12_drop 21 rfl) rfl rfl ?_
  refine p_iconst (v := -1) X (dcg dc_X12_drop 22 rfl) (by decide) ?_
  obtain ⟨a10, e11, hf⟩ := gs_some hf
  first | subst e11 | (try rw [e11])
  obtain ⟨⟨hk13, hb12⟩, hf⟩ := gd_some hf
  refine p_iast X (dcg dc_X12_drop 23 rfl) hk13 (vp_of_inb hb12) ?_
  obtain ⟨h14, rfl, hf⟩ := lt_some hf
  refine p_iload_n X (dcg dc_X12_drop 24 rfl) rfl rfl ?_
  obtain ⟨hg15, hf⟩ := gd_some hf
  have er := Option.some.inj hf
  subst er
  exact p_zret X rfl (congrArg Value.int hg15) (dcg dc_X12_drop 25 rfl) ⟨rfl, rfl⟩ (Nat.le_refl _) (Nat.le_refl _)
noncomputable def fX12_drop (v0 : Nat) (v1 : Int32) (h : PH) : Option (Int32 × PH) :=
  gd (hK h v0 = 12) (lt (sI h 12 v0 0 (0 : Int32)) (fun h2 =>
  bd (fX12_noQuery v0 v1 h2) (fun z3 =>
  if (z3.1 = 0) then (gd (hK z3.2 v0 = 12) (gs (hR z3.2 12 v0 34) (fun a5 =>
  gd (hK z3.2 a5 = 20 ∧ inb v1 (hN z3.2 a5)) (if ((hI z3.2 20 a5 (Int32.toNatClampNeg v1)) = (-1 : Int32)) then (fX12_drop_b30 v0 v1 (0 : Int32) z3.2) else
  fX12_drop_b30 v0 v1 (1 : Int32) z3.2)))) else
  some (((0 : Int32), z3.2)))))
set_option maxRecDepth 100000 in
theorem mX12_drop {v0 : Nat} {v1 : Int32} {h : PH} {r : (Int32 × PH)} (hf : fX12_drop v0 v1 h = some r) : eqz h (hX r.2) (hV r.2) := by
  unfold fX12_drop at hf
  have hle := eqz_rf h
  obtain ⟨hk1, hf⟩ := gd_some hf
  obtain ⟨h2, rfl, hf⟩ := lt_some hf
  obtain ⟨z3, hz3, hf⟩ := bd_some hf
  have hle := eqz_rt (mX12_noQuery hz3) hle
  rcases ite_or hf with ⟨q, hf⟩ | ⟨q, hf⟩
  · have hf := if_t q hf
    obtain ⟨hk4, hf⟩ := gd_some hf
    obtain ⟨a5, e6, hf⟩ := gs_some hf
    obtain ⟨⟨hk8, hb7⟩, hf⟩ := gd_some hf
    rcases ite_or hf with ⟨q, hf⟩ | ⟨q, hf⟩
    · have hf := if_t q hf
      exact eqz_rt (mX12_drop_b30 hf) hle
    · have hf := if_f q hf
      exact eqz_rt (mX12_drop_b30 hf) hle
  · have hf := if_f q hf
    have ee := Option.some.inj hf; subst ee; exact hle
set_option maxRecDepth 100000 in
theorem wX12_drop {E : PE} {l : Launch} (hG : Gs E l) {v0 : Nat} {v1 : Int32} {h : PH} {r : (Int32 × PH)} (hf : fX12_drop v0 v1 h = some r) : Ct E l 2 0 0 yX12_drop cX12_drop 3 (some .boolean) [.ref v0, .int v1] h (fun v u => v = some (.int r.1) ∧ u = r.2) := by
  refine ct_of hG (by decide) (Nat.le_of_ble_eq_true rfl) ?_
  intro p e s m args below meth c X hnm
  show PW E p l e _ s m args below meth c _ 0 0 _ h 0 [(0, some (.ref v0)), (1, some (.int v1))] []
  unfold fX12_drop at hf
  refine p_aload_n X (dcg dc_X12_drop 0 rfl) rfl rfl ?_
  refine p_iconst (v := 0) X (dcg dc_X12_drop 1 rfl) (by decide) ?_
  obtain ⟨hk1, hf⟩ := gd_some hf
  refine p_putI X fl_X12_1 rfl (by decide) (fun q hq => by cases hq; rfl) rfl rfl (dcg dc_X12_drop 2 rfl) hk1 ?_
  obtain ⟨h2, rfl, hf⟩ := lt_some hf
  refine p_aload_n X (dcg dc_X12_drop 3 rfl) rfl rfl ?_
  refine p_iload_n X (dcg dc_X12_drop 4 rfl) rfl rfl ?_
  obtain ⟨z3, hz3, hf⟩ := bd_some hf
  refine p_callV (As := [_]) X ml_X12_358 (dcg dc_X12_drop 5 rfl) rfl rfl hk1 (wX12_noQuery hG hz3) (by decide) (room4 (Nat.le_of_ble_eq_true rfl)) (Nat.le_refl _) (Nat.le_refl _) ?_
  rintro _ u9 ⟨rfl, e9⟩; have e9 := e9.symm; subst e9
  refine p_if_eq (tgt := 15) X (dcg dc_X12_drop 6 rfl) (by decide) (fun q => ?_) (fun q => ?_)
  · have hf := if_t q hf
    refine p_aload_n X (dcg dc_X12_drop 9 rfl) rfl rfl ?_
    obtain ⟨hk4, hf⟩ := gd_some hf
    refine p_getR X fl_X12_87 rfl (by decide) (dcg dc_X12_drop 10 rfl) hk4 ?_
    refine p_iload_n X (dcg dc_X12_drop 11 rfl) rfl rfl ?_
    obtain ⟨a5, e6, hf⟩ := gs_some hf
    first | subst e6 | (try rw [e6])
    obtain ⟨⟨hk8, hb7⟩, hf⟩ := gd_some hf
    refine p_iald X (dcg dc_X12_drop 12 rfl) hk8 (vp_of_inb hb7) ?_
    refine p_iconst (v := -1) X (dcg dc_X12_drop 13 rfl) (by decide) ?_
    refine p_icmp_eq (tgt := 29) X (dcg dc_X12_drop 14 rfl) (by decide) (fun q => ?_) (fun q => ?_)
    · have hf := if_t q hf
      refine p_iconst (v := 0) X (dcg dc_X12_drop 17 rfl) (by decide) ?_
      refine p_pick [0, 1] ?_
      exact wX12_drop_b30 X hG hnm hf 
    · have hf := if_f q hf
      refine p_iconst (v := 1) X (dcg dc_X12_drop 15 rfl) (by decide) ?_
      refine p_goto (tgt := 30) X (dcg dc_X12_drop 16 rfl) (by decide) ?_
      refine p_pick [0, 1] ?_
      exact wX12_drop_b30 X hG hnm hf 
  · have hf := if_f q hf
    refine p_iconst (v := 0) X (dcg dc_X12_drop 7 rfl) (by decide) ?_
    have er := Option.some.inj hf
    subst er
    exact p_zret X rfl rfl (dcg dc_X12_drop 8 rfl) ⟨rfl, rfl⟩ (Nat.le_refl _) (Nat.le_refl _)
theorem dc_X12_simple : decs cX12_simple [(0, .iload_n 2, 1), (1, .istore_n 3, 1), (2, .iconst 0, 1), (3, .istore 4, 2), (5, .iload 4, 2), (7, .aload_n 0, 1), (8, .getfield 81, 3), (11, .iload_n 1, 1), (12, .iaload, 1), (13, .if_icmp .ge 43, 3), (16, .iload_n 3, 1), (17, .ifCond .lt 39, 3), (20, .aload_n 0, 1), (21, .getfield 60, 3), (24, .sipush 400, 3), (27, .iload_n 1, 1), (28, .imul, 1), (29, .iload 4, 2), (31, .iadd, 1), (32, .iaload, 1), (33, .iconst 4, 1), (34, .if_icmp .lt 6, 3), (37, .goto 13, 3), (40, .iload_n 3, 1), (41, .ifCond .ne 6, 3), (44, .iload 4, 2), (46, .ireturn, 1), (47, .iinc 3 (-1), 3), (50, .iinc 4 1, 3), (53, .goto (-48), 3), (56, .iconst (-1), 1), (57, .ireturn, 1)] = true := by decide +kernel
noncomputable def fX12_simple_b56  (h : PH) : Option Int32 :=
  some ((-1 : Int32))
set_option maxRecDepth 100000 in
theorem wX12_simple_b56 {E : PE} {p : Program} {l : Launch} {e : Env} {s : State} {m : MethodId} {args : Array Value} {below : List Frame} {meth : Method} {c : Code} (X : Cx E p l e (rmv 0 0 0) s m args below meth c RX12 cX12_simple 5 (some .int)) (hG : Gs E l) (hnm : meth.name = yX12_simple.name)  {h : PH} {r : Int32} (hf : fX12_simple_b56  h = some r)  : PW E p l e (rmv 0 0 0) s m args below meth c 5 0 0 (MQ below (QG E (fun v u => v = some (.int r) ∧ u = h)) args s 0 0 (pA E)) h 56 [] [] := by
  unfold fX12_simple_b56 at hf
  refine p_iconst (v := -1) X (dcg dc_X12_simple 30 rfl) (by decide) ?_
  have er := Option.some.inj hf
  subst er
  exact p_iret X rfl (dcg dc_X12_simple 31 rfl) ⟨rfl, rfl⟩ (Nat.le_refl _) (Nat.le_refl _)
noncomputable def fX12_simple_b50 (v0 : Nat) (v1 : Int32) (v3 : Int32) (v4 : Int32) (h : PH) : Option ((Int32 × Int32) ⊕ Int32) :=
  some (.inl (v3, (v4 + 1)))
set_option maxRecDepth 100000 in
theorem wX12_simple_b50 {E : PE} {p : Program} {l : Launch} {e : Env} {s : State} {m : MethodId} {args : Array Value} {below : List Frame} {meth : Method} {c : Code} (X : Cx E p l e (rmv 0 0 0) s m args below meth c RX12 cX12_simple 5 (some .int)) (hG : Gs E l) (hnm : meth.name = yX12_simple.name) {v0 : Nat} {v1 : Int32} {v3 : Int32} {v4 : Int32} {h : PH} {r : Int32} {x : ((Int32 × Int32) ⊕ Int32)} (hf : fX12_simple_b50 v0 v1 v3 v4 h = some x) (k0 : ∀ z : (Int32 × Int32), x = .inl z → PW E p l e (rmv 0 0 0) s m args below meth c 5 0 0 (MQ below (QG E (fun v u => v = some (.int r) ∧ u = h)) args s 0 0 (pA E)) h 5 [(0, some (.ref v0)), (1, some (.int v1)), (3, some (.int (z.1))), (4, some (.int (z.2)))] []) (kf : ∀ z : Int32, x = .inr z → z = r) : PW E p l e (rmv 0 0 0) s m args below meth c 5 0 0 (MQ below (QG E (fun v u => v = some (.int r) ∧ u = h)) args s 0 0 (pA E)) h 50 [(0, some (.ref v0)), (1, some (.int v1)), (3, some (.int v3)), (4, some (.int v4))] [] := by
  unfold fX12_simple_b50 at hf
  refine p_iinc (v := 1) X (dcg dc_X12_simple 28 rfl) rfl (by decide) (by decide) rfl ?_
  refine p_goto (tgt := 5) X (dcg dc_X12_simple 29 rfl) (by decide) ?_
  refine p_pick [0, 1, 3, 4] ?_
  exact k0 _ (Option.some.inj hf).symm
noncomputable def fX12_simple_c5 (v0 : Nat) (v1 : Int32) (v3 : Int32) (v4 : Int32) (h : PH) : Option ((Int32 × Int32) ⊕ Int32) :=
  gd (hK h v0 = 12) (gs (hR h 12 v0 32) (fun a2 =>
  gd (hK h a2 = 20 ∧ inb v1 (hN h a2)) (if ((hI h 20 a2 (Int32.toNatClampNeg v1)) ≤ v4) then (mr (fX12_simple_b56  h)) else
  if (v3 < 0) then (mr (fX12_simple_b56  h)) else
  gs (hR h 12 v0 25) (fun a10 =>
  gd (hK h a10 = 20 ∧ inb (((400 : Int32) * v1) + v4) (hN h a10)) (if ((hI h 20 a10 (Int32.toNatClampNeg (((400 : Int32) * v1) + v4))) < (4 : Int32)) then (if (¬ v3 = 0) then (fX12_simple_b50 v0 v1 (v3 + (-1)) v4 h) else
  mr (some (v4))) else
  fX12_simple_b50 v0 v1 v3 v4 h)))))
set_option maxRecDepth 100000 in
theorem wX12_simple_c5 {E : PE} {p : Program} {l : Launch} {e : Env} {s : State} {m : MethodId} {args : Array Value} {below : List Frame} {meth : Method} {c : Code} (X : Cx E p l e (rmv 0 0 0) s m args below meth c RX12 cX12_simple 5 (some .int)) (hG : Gs E l) (hnm : meth.name = yX12_simple.name) {v0 : Nat} {v1 : Int32} {v3 : Int32} {v4 : Int32} {h : PH} {r : Int32} {x : ((Int32 × Int32) ⊕ Int32)} (hf : fX12_simple_c5 v0 v1 v3 v4 h = some x) (k0 : ∀ z : (Int32 × Int32), x = .inl z → PW E p l e (rmv 0 0 0) s m args below meth c 5 0 0 (MQ below (QG E (fun v u => v = some (.int r) ∧ u = h)) args s 0 0 (pA E)) h 5 [(0, some (.ref v0)), (1, some (.int v1)), (3, some (.int (z.1))), (4, some (.int (z.2)))] []) (kf : ∀ z : Int32, x = .inr z → z = r) : PW E p l e (rmv 0 0 0) s m args below meth c 5 0 0 (MQ below (QG E (fun v u => v = some (.int r) ∧ u = h)) args s 0 0 (pA E)) h 5 [(0, some (.ref v0)), (1, some (.int v1)), (3, some (.int v3)), (4, some (.int v4))] [] := by
  unfold fX12_simple_c5 at hf
  refine p_iload X (dcg dc_X12_simple 4 rfl) rfl ?_
  refine p_aload_n X (dcg dc_X12_simple 5 rfl) rfl rfl ?_
  obtain ⟨hk1, hf⟩ := gd_some hf
  refine p_getR X fl_X12_81 rfl (by decide) (dcg dc_X12_simple 6 rfl) hk1 ?_
  refine p_iload_n X (dcg dc_X12_simple 7 rfl) rfl rfl ?_
  obtain ⟨a2, e3, hf⟩ := gs_some hf
  first | subst e3 | (try rw [e3])
  obtain ⟨⟨hk5, hb4⟩, hf⟩ := gd_some hf
  refine p_iald X (dcg dc_X12_simple 8 rfl) hk5 (vp_of_inb hb4) ?_
  refine p_icmp_ge (tgt := 56) X (dcg dc_X12_simple 9 rfl) (by decide) (fun q => ?_) (fun q => ?_)
  · have hf := if_t q hf
    obtain ⟨y6, hf, hy7⟩ := mr_some hf
    have hy7f := kf y6 hy7
    subst hy7f
    refine p_pick [] ?_
    exact wX12_simple_b56 X hG hnm hf 
  · have hf := if_f q hf
    refine p_iload_n X (dcg dc_X12_simple 10 rfl) rfl rfl ?_
    refine p_if_lt (tgt := 56) X (dcg dc_X12_simple 11 rfl) (by decide) (fun q => ?_) (fun q => ?_)
    · have hf := if_t q hf
      obtain ⟨y8, hf, hy9⟩ := mr_some hf
      have hy9f := kf y8 hy9
      subst hy9f
      refine p_pick [] ?_
      exact wX12_simple_b56 X hG hnm hf 
    · have hf := if_f q hf
      refine p_aload_n X (dcg dc_X12_simple 12 rfl) rfl rfl ?_
      refine p_getR X fl_X12_60 rfl (by decide) (dcg dc_X12_simple 13 rfl) hk1 ?_
      refine p_sipush (v := 400) X (dcg dc_X12_simple 14 rfl) (by decide) ?_
      refine p_iload_n X (dcg dc_X12_simple 15 rfl) rfl rfl ?_
      refine p_imul X (dcg dc_X12_simple 16 rfl) ?_
      refine p_iload X (dcg dc_X12_simple 17 rfl) rfl ?_
      refine p_iadd X (dcg dc_X12_simple 18 rfl) ?_
      obtain ⟨a10, e11, hf⟩ := gs_some hf
      first | subst e11 | (try rw [e11])
      obtain ⟨⟨hk13, hb12⟩, hf⟩ := gd_some hf
      refine p_iald X (dcg dc_X12_simple 19 rfl) hk13 (vp_of_inb hb12) ?_
      refine p_iconst (v := 4) X (dcg dc_X12_simple 20 rfl) (by decide) ?_
      refine p_icmp_lt (tgt := 40) X (dcg dc_X12_simple 21 rfl) (by decide) (fun q => ?_) (fun q => ?_)
      · have hf := if_t q hf
        refine p_iload_n X (dcg dc_X12_simple 23 rfl) rfl rfl ?_
        refine p_if_ne (tgt := 47) X (dcg dc_X12_simple 24 rfl) (by decide) (fun q => ?_) (fun q => ?_)
        · have hf := if_t q hf
          refine p_iinc (v := -1) X (dcg dc_X12_simple 27 rfl) rfl (by decide) (by decide) rfl ?_
          refine p_pick [0, 1, 3, 4] ?_
          exact wX12_simple_b50 X hG hnm hf k0 kf
        · have hf := if_f q hf
          obtain ⟨y14, hf, hy15⟩ := mr_some hf
          have hy15f := kf y14 hy15
          subst hy15f
          refine p_iload X (dcg dc_X12_simple 25 rfl) rfl ?_
          have er := Option.some.inj hf
          subst er
          exact p_iret X rfl (dcg dc_X12_simple 26 rfl) ⟨rfl, rfl⟩ (Nat.le_refl _) (Nat.le_refl _)
      · have hf := if_f q hf
        refine p_goto (tgt := 50) X (dcg dc_X12_simple 22 rfl) (by decide) ?_
        refine p_pick [0, 1, 3, 4] ?_
        exact wX12_simple_b50 X hG hnm hf k0 kf
noncomputable def fX12_simple_l5 (v0 : Nat) (v1 : Int32) (v3 : Int32) (v4 : Int32) (h : PH) : Option Int32 := wh (fun z : (Int32 × Int32) => fX12_simple_c5 v0 v1 (z.1) (z.2) h) (v3, v4)
set_option maxRecDepth 100000 in
theorem wX12_simple_l5 {E : PE} {p : Program} {l : Launch} {e : Env} {s : State} {m : MethodId} {args : Array Value} {below : List Frame} {meth : Method} {c : Code} (X : Cx E p l e (rmv 0 0 0) s m args below meth c RX12 cX12_simple 5 (some .int)) (hG : Gs E l) (hnm : meth.name = yX12_simple.name) {v0 : Nat} {v1 : Int32} {v3 : Int32} {v4 : Int32} {h : PH} {r : Int32} (hf : fX12_simple_l5 v0 v1 v3 v4 h = some r)  : PW E p l e (rmv 0 0 0) s m args below meth c 5 0 0 (MQ below (QG E (fun v u => v = some (.int r) ∧ u = h)) args s 0 0 (pA E)) h 5 [(0, some (.ref v0)), (1, some (.int v1)), (3, some (.int v3)), (4, some (.int v4))] [] := by
  unfold fX12_simple_l5 at hf
  refine wh_ind (P := fun z => PW E p l e (rmv 0 0 0) s m args below meth c 5 0 0 (MQ below (QG E (fun v u => v = some (.int r) ∧ u = h)) args s 0 0 (pA E)) h 5 [(0, some (.ref v0)), (1, some (.int v1)), (3, some (.int (z.1))), (4, some (.int (z.2)))] []) (fun z x0 hs i1 i2 => ?_) _ hf
  exact wX12_simple_c5 (r := r) (v0 := v0) (v1 := v1) (v3 := z.1) (v4 := z.2) (h := h) X hG hnm hs i1  i2
noncomputable def fX12_simple (v0 : Nat) (v1 : Int32) (v2 : Int32) (h : PH) : Option Int32 :=
  fX12_simple_l5 v0 v1 v2 (0 : Int32) h
set_option maxRecDepth 100000 in
theorem wX12_simple {E : PE} {l : Launch} (hG : Gs E l) {v0 : Nat} {v1 : Int32} {v2 : Int32} {h : PH} {r : Int32} (hf : fX12_simple v0 v1 v2 h = some r) : Ct E l 0 0 0 yX12_simple cX12_simple 5 (some .int) [.ref v0, .int v1, .int v2] h (fun v u => v = some (.int r) ∧ u = h) := by
  refine ct_of hG (by decide) (Nat.le_of_ble_eq_true rfl) ?_
  intro p e s m args below meth c X hnm
  show PW E p l e _ s m args below meth c _ 0 0 _ h 0 [(0, some (.ref v0)), (1, some (.int v1)), (2, some (.int v2))] []
  unfold fX12_simple at hf
  refine p_iload_n X (dcg dc_X12_simple 0 rfl) rfl rfl ?_
  refine p_istore_n X (dcg dc_X12_simple 1 rfl) rfl (by decide) rfl ?_
  refine p_iconst (v := 0) X (dcg dc_X12_simple 2 rfl) (by decide) ?_
  refine p_istore X (dcg dc_X12_simple 3 rfl) (by decide) rfl ?_
  refine p_pick [0, 1, 3, 4] ?_
  exact wX12_simple_l5 X hG hnm hf 
theorem dc_X12_simples : decs cX12_simples [(0, .iconst 0, 1), (1, .istore_n 2, 1), (2, .iconst 0, 1), (3, .istore_n 3, 1), (4, .iload_n 3, 1), (5, .aload_n 0, 1), (6, .getfield 81, 3), (9, .iload_n 1, 1), (10, .iaload, 1), (11, .if_icmp .ge 33, 3), (14, .iload_n 2, 1), (15, .aload_n 0, 1), (16, .getfield 60, 3), (19, .sipush 400, 3), (22, .iload_n 1, 1), (23, .imul, 1), (24, .iload_n 3, 1), (25, .iadd, 1), (26, .iaload, 1), (27, .iconst 4, 1), (28, .if_icmp .ge 7, 3), (31, .iconst 1, 1), (32, .goto 4, 3), (35, .iconst 0, 1), (36, .iadd, 1), (37, .istore_n 2, 1), (38, .iinc 3 1, 3), (41, .goto (-37), 3), (44, .iload_n 2, 1), (45, .ireturn, 1)] = true := by decide +kernel
noncomputable def fX12_simples_b36 (v0 : Nat) (v1 : Int32) (v3 : Int32) (t0 : Int32) (t1 : Int32) (h : PH) : Option ((Int32 × Int32) ⊕ Int32) :=
  some (.inl ((t0 + t1), (v3 + 1)))
set_option maxRecDepth 100000 in
theorem wX12_simples_b36 {E : PE} {p : Program} {l : Launch} {e : Env} {s : State} {m : MethodId} {args : Array Value} {below : List Frame} {meth : Method} {c : Code} (X : Cx E p l e (rmv 0 0 0) s m args below meth c RX12 cX12_simples 4 (some .int)) (hG : Gs E l) (hnm : meth.name = yX12_simples.name) {v0 : Nat} {v1 : Int32} {v3 : Int32} {t0 : Int32} {t1 : Int32} {h : PH} {r : Int32} {x : ((Int32 × Int32) ⊕ Int32)} (hf : fX12_simples_b36 v0 v1 v3 t0 t1 h = some x) (k0 : ∀ z : (Int32 × Int32), x = .inl z → PW E p l e (rmv 0 0 0) s m args below meth c 4 0 0 (MQ below (QG E (fun v u => v = some (.int r) ∧ u = h)) args s 0 0 (pA E)) h 4 [(0, some (.ref v0)), (1, some (.int v1)), (2, some (.int (z.1))), (3, some (.int (z.2)))] []) (kf : ∀ z : Int32, x = .inr z → z = r) : PW E p l e (rmv 0 0 0) s m args below meth c 4 0 0 (MQ below (QG E (fun v u => v = some (.int r) ∧ u = h)) args s 0 0 (pA E)) h 36 [(0, some (.ref v0)), (1, some (.int v1)), (3, some (.int v3))] [.int t1, .int t0] := by
  unfold fX12_simples_b36 at hf
  refine p_iadd X (dcg dc_X12_simples 24 rfl) ?_
  refine p_istore_n X (dcg dc_X12_simples 25 rfl) rfl (by decide) rfl ?_
  refine p_iinc (v := 1) X (dcg dc_X12_simples 26 rfl) rfl (by decide) (by decide) rfl ?_
  refine p_goto (tgt := 4) X (dcg dc_X12_simples 27 rfl) (by decide) ?_
  refine p_pick [0, 1, 2, 3] ?_
  exact k0 _ (Option.some.inj hf).symm
noncomputable def fX12_simples_c4 (v0 : Nat) (v1 : Int32) (v2 : Int32) (v3 : Int32) (h : PH) : Option ((Int32 × Int32) ⊕ Int32) :=
  gd (hK h v0 = 12) (gs (hR h 12 v0 32) (fun a2 =>
  gd (hK h a2 = 20 ∧ inb v1 (hN h a2)) (if ((hI h 20 a2 (Int32.toNatClampNeg v1)) ≤ v3) then (mr (some (v2))) else
  gs (hR h 12 v0 25) (fun a8 =>
  gd (hK h a8 = 20 ∧ inb (((400 : Int32) * v1) + v3) (hN h a8)) (if ((4 : Int32) ≤ (hI h 20 a8 (Int32.toNatClampNeg (((400 : Int32) * v1) + v3)))) then (fX12_simples_b36 v0 v1 v3 v2 (0 : Int32) h) else
  fX12_simples_b36 v0 v1 v3 v2 (1 : Int32) h)))))
set_option maxRecDepth 100000 in
theorem wX12_simples_c4 {E : PE} {p : Program} {l : Launch} {e : Env} {s : State} {m : MethodId} {args : Array Value} {below : List Frame} {meth : Method} {c : Code} (X : Cx E p l e (rmv 0 0 0) s m args below meth c RX12 cX12_simples 4 (some .int)) (hG : Gs E l) (hnm : meth.name = yX12_simples.name) {v0 : Nat} {v1 : Int32} {v2 : Int32} {v3 : Int32} {h : PH} {r : Int32} {x : ((Int32 × Int32) ⊕ Int32)} (hf : fX12_simples_c4 v0 v1 v2 v3 h = some x) (k0 : ∀ z : (Int32 × Int32), x = .inl z → PW E p l e (rmv 0 0 0) s m args below meth c 4 0 0 (MQ below (QG E (fun v u => v = some (.int r) ∧ u = h)) args s 0 0 (pA E)) h 4 [(0, some (.ref v0)), (1, some (.int v1)), (2, some (.int (z.1))), (3, some (.int (z.2)))] []) (kf : ∀ z : Int32, x = .inr z → z = r) : PW E p l e (rmv 0 0 0) s m args below meth c 4 0 0 (MQ below (QG E (fun v u => v = some (.int r) ∧ u = h)) args s 0 0 (pA E)) h 4 [(0, some (.ref v0)), (1, some (.int v1)), (2, some (.int v2)), (3, some (.int v3))] [] := by
  unfold fX12_simples_c4 at hf
  refine p_iload_n X (dcg dc_X12_simples 4 rfl) rfl rfl ?_
  refine p_aload_n X (dcg dc_X12_simples 5 rfl) rfl rfl ?_
  obtain ⟨hk1, hf⟩ := gd_some hf
  refine p_getR X fl_X12_81 rfl (by decide) (dcg dc_X12_simples 6 rfl) hk1 ?_
  refine p_iload_n X (dcg dc_X12_simples 7 rfl) rfl rfl ?_
  obtain ⟨a2, e3, hf⟩ := gs_some hf
  first | subst e3 | (try rw [e3])
  obtain ⟨⟨hk5, hb4⟩, hf⟩ := gd_some hf
  refine p_iald X (dcg dc_X12_simples 8 rfl) hk5 (vp_of_inb hb4) ?_
  refine p_icmp_ge (tgt := 44) X (dcg dc_X12_simples 9 rfl) (by decide) (fun q => ?_) (fun q => ?_)
  · have hf := if_t q hf
    obtain ⟨y6, hf, hy7⟩ := mr_some hf
    have hy7f := kf y6 hy7
    subst hy7f
    refine p_iload_n X (dcg dc_X12_simples 28 rfl) rfl rfl ?_
    have er := Option.some.inj hf
    subst er
    exact p_iret X rfl (dcg dc_X12_simples 29 rfl) ⟨rfl, rfl⟩ (Nat.le_refl _) (Nat.le_refl _)
  · have hf := if_f q hf
    refine p_iload_n X (dcg dc_X12_simples 10 rfl) rfl rfl ?_
    refine p_aload_n X (dcg dc_X12_simples 11 rfl) rfl rfl ?_
    refine p_getR X fl_X12_60 rfl (by decide) (dcg dc_X12_simples 12 rfl) hk1 ?_
    refine p_sipush (v := 400) X (dcg dc_X12_simples 13 rfl) (by decide) ?_
    refine p_iload_n X (dcg dc_X12_simples 14 rfl) rfl rfl ?_
    refine p_imul X (dcg dc_X12_simples 15 rfl) ?_
    refine p_iload_n X (dcg dc_X12_simples 16 rfl) rfl rfl ?_
    refine p_iadd X (dcg dc_X12_simples 17 rfl) ?_
    obtain ⟨a8, e9, hf⟩ := gs_some hf
    first | subst e9 | (try rw [e9])
    obtain ⟨⟨hk11, hb10⟩, hf⟩ := gd_some hf
    refine p_iald X (dcg dc_X12_simples 18 rfl) hk11 (vp_of_inb hb10) ?_
    refine p_iconst (v := 4) X (dcg dc_X12_simples 19 rfl) (by decide) ?_
    refine p_icmp_ge (tgt := 35) X (dcg dc_X12_simples 20 rfl) (by decide) (fun q => ?_) (fun q => ?_)
    · have hf := if_t q hf
      refine p_iconst (v := 0) X (dcg dc_X12_simples 23 rfl) (by decide) ?_
      refine p_pick [0, 1, 3] ?_
      exact wX12_simples_b36 X hG hnm hf k0 kf
    · have hf := if_f q hf
      refine p_iconst (v := 1) X (dcg dc_X12_simples 21 rfl) (by decide) ?_
      refine p_goto (tgt := 36) X (dcg dc_X12_simples 22 rfl) (by decide) ?_
      refine p_pick [0, 1, 3] ?_
      exact wX12_simples_b36 X hG hnm hf k0 kf
noncomputable def fX12_simples_l4 (v0 : Nat) (v1 : Int32) (v2 : Int32) (v3 : Int32) (h : PH) : Option Int32 := wh (fun z : (Int32 × Int32) => fX12_simples_c4 v0 v1 (z.1) (z.2) h) (v2, v3)
set_option maxRecDepth 100000 in
theorem wX12_simples_l4 {E : PE} {p : Program} {l : Launch} {e : Env} {s : State} {m : MethodId} {args : Array Value} {below : List Frame} {meth : Method} {c : Code} (X : Cx E p l e (rmv 0 0 0) s m args below meth c RX12 cX12_simples 4 (some .int)) (hG : Gs E l) (hnm : meth.name = yX12_simples.name) {v0 : Nat} {v1 : Int32} {v2 : Int32} {v3 : Int32} {h : PH} {r : Int32} (hf : fX12_simples_l4 v0 v1 v2 v3 h = some r)  : PW E p l e (rmv 0 0 0) s m args below meth c 4 0 0 (MQ below (QG E (fun v u => v = some (.int r) ∧ u = h)) args s 0 0 (pA E)) h 4 [(0, some (.ref v0)), (1, some (.int v1)), (2, some (.int v2)), (3, some (.int v3))] [] := by
  unfold fX12_simples_l4 at hf
  refine wh_ind (P := fun z => PW E p l e (rmv 0 0 0) s m args below meth c 4 0 0 (MQ below (QG E (fun v u => v = some (.int r) ∧ u = h)) args s 0 0 (pA E)) h 4 [(0, some (.ref v0)), (1, some (.int v1)), (2, some (.int (z.1))), (3, some (.int (z.2)))] []) (fun z x0 hs i1 i2 => ?_) _ hf
  exact wX12_simples_c4 (r := r) (v0 := v0) (v1 := v1) (v2 := z.1) (v3 := z.2) (h := h) X hG hnm hs i1  i2
noncomputable def fX12_simples (v0 : Nat) (v1 : Int32) (h : PH) : Option Int32 :=
  fX12_simples_l4 v0 v1 (0 : Int32) (0 : Int32) h
set_option maxRecDepth 100000 in
theorem wX12_simples {E : PE} {l : Launch} (hG : Gs E l) {v0 : Nat} {v1 : Int32} {h : PH} {r : Int32} (hf : fX12_simples v0 v1 h = some r) : Ct E l 0 0 0 yX12_simples cX12_simples 4 (some .int) [.ref v0, .int v1] h (fun v u => v = some (.int r) ∧ u = h) := by
  refine ct_of hG (by decide) (Nat.le_of_ble_eq_true rfl) ?_
  intro p e s m args below meth c X hnm
  show PW E p l e _ s m args below meth c _ 0 0 _ h 0 [(0, some (.ref v0)), (1, some (.int v1))] []
  unfold fX12_simples at hf
  refine p_iconst (v := 0) X (dcg dc_X12_simples 0 rfl) (by decide) ?_
  refine p_istore_n X (dcg dc_X12_simples 1 rfl) rfl (by decide) rfl ?_
  refine p_iconst (v := 0) X (dcg dc_X12_simples 2 rfl) (by decide) ?_
  refine p_istore_n X (dcg dc_X12_simples 3 rfl) rfl (by decide) rfl ?_
  refine p_pick [0, 1, 2, 3] ?_
  exact wX12_simples_l4 X hG hnm hf 
theorem dc_X12_parts : decs cX12_parts [(0, .aload_n 0, 1), (1, .iconst 0, 1), (2, .putfield 1, 3), (5, .aload_n 0, 1), (6, .iload_n 1, 1), (7, .invokevirtual 361, 3), (10, .ifCond .eq 7, 3), (13, .iconst 0, 1), (14, .goto 8, 3), (17, .aload_n 0, 1), (18, .iload_n 1, 1), (19, .invokevirtual 376, 3), (22, .ireturn, 1)] = true := by decide +kernel
noncomputable def fX12_parts_b22 (t0 : Int32) (h : PH) : Option (Int32 × PH) :=
  some ((t0, h))
set_option maxRecDepth 100000 in
theorem mX12_parts_b22 {t0 : Int32} {h : PH} {r : (Int32 × PH)} (hf : fX12_parts_b22 t0 h = some r) : eqz h (hX r.2) (hV r.2) := by
  unfold fX12_parts_b22 at hf
  have hle := eqz_rf h
  have ee := Option.some.inj hf; subst ee; exact hle
set_option maxRecDepth 100000 in
theorem wX12_parts_b22 {E : PE} {p : Program} {l : Launch} {e : Env} {s : State} {m : MethodId} {args : Array Value} {below : List Frame} {meth : Method} {c : Code} (X : Cx E p l e (rmv 3 0 0) s m args below meth c RX12 cX12_parts 2 (some .int)) (hG : Gs E l) (hnm : meth.name = yX12_parts.name) {t0 : Int32} {h : PH} {r : (Int32 × PH)} (hf : fX12_parts_b22 t0 h = some r)  : PW E p l e (rmv 3 0 0) s m args below meth c 2 0 0 (MQ below (QG E (fun v u => v = some (.int r.1) ∧ u = r.2)) args s 0 0 (pA E)) h 22 [] [.int t0] := by
  unfold fX12_parts_b22 at hf
  have er := Option.some.inj hf
  subst er
  exact p_iret X rfl (dcg dc_X12_parts 12 rfl) ⟨rfl, rfl⟩ (Nat.le_refl _) (Nat.le_refl _)
noncomputable def fX12_parts (v0 : Nat) (v1 : Int32) (h : PH) : Option (Int32 × PH) :=
  gd (hK h v0 = 12) (lt (sI h 12 v0 0 (0 : Int32)) (fun h2 =>
  bd (fX12_noKept v0 v1 h2) (fun z3 =>
  if (z3.1 = 0) then (gd (hK z3.2 v0 = 12) (bd (fX12_simples v0 v1 z3.2) (fun z5 =>
  fX12_parts_b22 z5 z3.2))) else
  fX12_parts_b22 (0 : Int32) z3.2)))
set_option maxRecDepth 100000 in
theorem mX12_parts {v0 : Nat} {v1 : Int32} {h : PH} {r : (Int32 × PH)} (hf : fX12_parts v0 v1 h = some r) : eqz h (hX r.2) (hV r.2) := by
  unfold fX12_parts at hf
  have hle := eqz_rf h
  obtain ⟨hk1, hf⟩ := gd_some hf
  obtain ⟨h2, rfl, hf⟩ := lt_some hf
  obtain ⟨z3, hz3, hf⟩ := bd_some hf
  have hle := eqz_rt (mX12_noKept hz3) hle
  rcases ite_or hf with ⟨q, hf⟩ | ⟨q, hf⟩
  · have hf := if_t q hf
    obtain ⟨hk4, hf⟩ := gd_some hf
    obtain ⟨z5, hz5, hf⟩ := bd_some hf
    exact eqz_rt (mX12_parts_b22 hf) hle
  · have hf := if_f q hf
    exact eqz_rt (mX12_parts_b22 hf) hle
set_option maxRecDepth 100000 in
theorem wX12_parts {E : PE} {l : Launch} (hG : Gs E l) {v0 : Nat} {v1 : Int32} {h : PH} {r : (Int32 × PH)} (hf : fX12_parts v0 v1 h = some r) : Ct E l 3 0 0 yX12_parts cX12_parts 2 (some .int) [.ref v0, .int v1] h (fun v u => v = some (.int r.1) ∧ u = r.2) := by
  refine ct_of hG (by decide) (Nat.le_of_ble_eq_true rfl) ?_
  intro p e s m args below meth c X hnm
  show PW E p l e _ s m args below meth c _ 0 0 _ h 0 [(0, some (.ref v0)), (1, some (.int v1))] []
  unfold fX12_parts at hf
  refine p_aload_n X (dcg dc_X12_parts 0 rfl) rfl rfl ?_
  refine p_iconst (v := 0) X (dcg dc_X12_parts 1 rfl) (by decide) ?_
  obtain ⟨hk1, hf⟩ := gd_some hf
  refine p_putI X fl_X12_1 rfl (by decide) (fun q hq => by cases hq; rfl) rfl rfl (dcg dc_X12_parts 2 rfl) hk1 ?_
  obtain ⟨h2, rfl, hf⟩ := lt_some hf
  refine p_aload_n X (dcg dc_X12_parts 3 rfl) rfl rfl ?_
  refine p_iload_n X (dcg dc_X12_parts 4 rfl) rfl rfl ?_
  obtain ⟨z3, hz3, hf⟩ := bd_some hf
  refine p_callV (As := [_]) X ml_X12_361 (dcg dc_X12_parts 5 rfl) rfl rfl hk1 (wX12_noKept hG hz3) (by decide) (room4 (Nat.le_of_ble_eq_true rfl)) (Nat.le_refl _) (Nat.le_refl _) ?_
  rintro _ u9 ⟨rfl, e9⟩; have e9 := e9.symm; subst e9
  refine p_if_eq (tgt := 17) X (dcg dc_X12_parts 6 rfl) (by decide) (fun q => ?_) (fun q => ?_)
  · have hf := if_t q hf
    refine p_aload_n X (dcg dc_X12_parts 9 rfl) rfl rfl ?_
    refine p_iload_n X (dcg dc_X12_parts 10 rfl) rfl rfl ?_
    obtain ⟨hk4, hf⟩ := gd_some hf
    obtain ⟨z5, hz5, hf⟩ := bd_some hf
    refine p_callV (As := [_]) X ml_X12_376 (dcg dc_X12_parts 11 rfl) rfl rfl hk4 (wX12_simples hG hz5) (by decide) (room4 (Nat.le_of_ble_eq_true rfl)) (Nat.le_refl _) (Nat.le_refl _) ?_
    rintro _ u9 ⟨rfl, e9⟩; have e9 := e9.symm; subst e9
    refine p_pick [] ?_
    exact wX12_parts_b22 X hG hnm hf 
  · have hf := if_f q hf
    refine p_iconst (v := 0) X (dcg dc_X12_parts 7 rfl) (by decide) ?_
    refine p_goto (tgt := 22) X (dcg dc_X12_parts 8 rfl) (by decide) ?_
    refine p_pick [] ?_
    exact wX12_parts_b22 X hG hnm hf 
theorem dc_X12_partFound : decs cX12_partFound [(0, .aload_n 0, 1), (1, .iconst 0, 1), (2, .putfield 1, 3), (5, .aload_n 0, 1), (6, .iload_n 1, 1), (7, .invokevirtual 361, 3), (10, .ifCond .ne 26, 3), (13, .aload_n 0, 1), (14, .aload_n 0, 1), (15, .iload_n 1, 1), (16, .iload_n 2, 1), (17, .invokevirtual 379, 3), (20, .iconst (-1), 1), (21, .if_icmp .eq 7, 3), (24, .iconst 1, 1), (25, .goto 4, 3), (28, .iconst 0, 1), (29, .iconst 3, 1), (30, .invokevirtual 156, 3), (33, .ifCond .eq 5, 3), (36, .iconst 0, 1), (37, .ireturn, 1), (38, .aload_n 0, 1), (39, .iload_n 1, 1), (40, .iload_n 2, 1), (41, .invokevirtual 379, 3), (44, .istore_n 3, 1), (45, .iconst 0, 1), (46, .istore 4, 2), (48, .iconst 0, 1), (49, .istore 5, 2), (51, .iload 5, 2), (53, .bipush 100, 2), (55, .if_icmp .ge 30, 3), (58, .iload 4, 2), (60, .aload_n 0, 1), (61, .iload_n 1, 1), (62, .iload_n 3, 1), (63, .iload 5, 2), (65, .invokevirtual 340, 3), (68, .ifCond .le 7, 3), (71, .iconst 1, 1), (72, .goto 4, 3), (75, .iconst 0, 1), (76, .iadd, 1), (77, .istore 4, 2), (79, .iinc 5 1, 3), (82, .goto (-31), 3), (85, .iload 4, 2), (87, .ireturn, 1)] = true := by decide +kernel
noncomputable def fX12_partFound_b36  (h : PH) : Option (Int32 × PH) :=
  some (((0 : Int32), h))
set_option maxRecDepth 100000 in
theorem mX12_partFound_b36  {h : PH} {r : (Int32 × PH)} (hf : fX12_partFound_b36  h = some r) : eqz h (hX r.2) (hV r.2) := by
  unfold fX12_partFound_b36 at hf
  have hle := eqz_rf h
  have ee := Option.some.inj hf; subst ee; exact hle
set_option maxRecDepth 100000 in
theorem wX12_partFound_b36 {E : PE} {p : Program} {l : Launch} {e : Env} {s : State} {m : MethodId} {args : Array Value} {below : List Frame} {meth : Method} {c : Code} (X : Cx E p l e (rmv 3 0 0) s m args below meth c RX12 cX12_partFound 6 (some .int)) (hG : Gs E l) (hnm : meth.name = yX12_partFound.name)  {h : PH} {r : (Int32 × PH)} (hf : fX12_partFound_b36  h = some r)  : PW E p l e (rmv 3 0 0) s m args below meth c 6 0 0 (MQ below (QG E (fun v u => v = some (.int r.1) ∧ u = r.2)) args s 0 0 (pA E)) h 36 [] [] := by
  unfold fX12_partFound_b36 at hf
  refine p_iconst (v := 0) X (dcg dc_X12_partFound 20 rfl) (by decide) ?_
  have er := Option.some.inj hf
  subst er
  exact p_iret X rfl (dcg dc_X12_partFound 21 rfl) ⟨rfl, rfl⟩ (Nat.le_refl _) (Nat.le_refl _)
noncomputable def fX12_partFound_b76 (v0 : Nat) (v1 : Int32) (v3 : Int32) (v5 : Int32) (t0 : Int32) (t1 : Int32) (h : PH) : Option ((Int32 × Int32) ⊕ (Int32 × PH)) :=
  some (.inl ((t0 + t1), (v5 + 1)))
set_option maxRecDepth 100000 in
theorem mX12_partFound_b76 {v0 : Nat} {v1 : Int32} {v3 : Int32} {v5 : Int32} {t0 : Int32} {t1 : Int32} {h : PH} {x : ((Int32 × Int32) ⊕ (Int32 × PH))} (hf : fX12_partFound_b76 v0 v1 v3 v5 t0 t1 h = some x) : (∀ w9 : (Int32 × PH), x = .inr w9 → eqz h (hX w9.2) (hV w9.2)) := by
  unfold fX12_partFound_b76 at hf
  have hle := eqz_rf h
  have ee := Option.some.inj hf; subst ee
  exact (fun z e => nomatch e)
set_option maxRecDepth 100000 in
theorem wX12_partFound_b76 {E : PE} {p : Program} {l : Launch} {e : Env} {s : State} {m : MethodId} {args : Array Value} {below : List Frame} {meth : Method} {c : Code} (X : Cx E p l e (rmv 3 0 0) s m args below meth c RX12 cX12_partFound 6 (some .int)) (hG : Gs E l) (hnm : meth.name = yX12_partFound.name) {v0 : Nat} {v1 : Int32} {v3 : Int32} {v5 : Int32} {t0 : Int32} {t1 : Int32} {h : PH} {r : (Int32 × PH)} {x : ((Int32 × Int32) ⊕ (Int32 × PH))} (hf : fX12_partFound_b76 v0 v1 v3 v5 t0 t1 h = some x) (k0 : ∀ z : (Int32 × Int32), x = .inl z → PW E p l e (rmv 3 0 0) s m args below meth c 6 0 0 (MQ below (QG E (fun v u => v = some (.int r.1) ∧ u = r.2)) args s 0 0 (pA E)) h 51 [(0, some (.ref v0)), (1, some (.int v1)), (3, some (.int v3)), (4, some (.int (z.1))), (5, some (.int (z.2)))] []) (kf : ∀ z : (Int32 × PH), x = .inr z → z = r) : PW E p l e (rmv 3 0 0) s m args below meth c 6 0 0 (MQ below (QG E (fun v u => v = some (.int r.1) ∧ u = r.2)) args s 0 0 (pA E)) h 76 [(0, some (.ref v0)), (1, some (.int v1)), (3, some (.int v3)), (5, some (.int v5))] [.int t1, .int t0] := by
  unfold fX12_partFound_b76 at hf
  refine p_iadd X (dcg dc_X12_partFound 44 rfl) ?_
  refine p_istore X (dcg dc_X12_partFound 45 rfl) (by decide) rfl ?_
  refine p_iinc (v := 1) X (dcg dc_X12_partFound 46 rfl) rfl (by decide) (by decide) rfl ?_
  refine p_goto (tgt := 51) X (dcg dc_X12_partFound 47 rfl) (by decide) ?_
  refine p_pick [0, 1, 3, 4, 5] ?_
  exact k0 _ (Option.some.inj hf).symm
noncomputable def fX12_partFound_c51 (v0 : Nat) (v1 : Int32) (v3 : Int32) (v4 : Int32) (v5 : Int32) (h : PH) : Option ((Int32 × Int32) ⊕ (Int32 × PH)) :=
  if ((100 : Int32) ≤ v5) then (mr (some ((v4, h)))) else
  gd (hK h v0 = 12) (bd (fX12_meets v0 v1 v3 v5 h) (fun z15 =>
  if (z15 ≤ 0) then (fX12_partFound_b76 v0 v1 v3 v5 v4 (0 : Int32) h) else
  fX12_partFound_b76 v0 v1 v3 v5 v4 (1 : Int32) h))
set_option maxRecDepth 100000 in
theorem mX12_partFound_c51 {v0 : Nat} {v1 : Int32} {v3 : Int32} {v4 : Int32} {v5 : Int32} {h : PH} {x : ((Int32 × Int32) ⊕ (Int32 × PH))} (hf : fX12_partFound_c51 v0 v1 v3 v4 v5 h = some x) : (∀ w9 : (Int32 × PH), x = .inr w9 → eqz h (hX w9.2) (hV w9.2)) := by
  unfold fX12_partFound_c51 at hf
  have hle := eqz_rf h
  rcases ite_or hf with ⟨q, hf⟩ | ⟨q, hf⟩
  · have hf := if_t q hf
    obtain ⟨y12, hfm, rfl⟩ := mr_some hf; have hf := hfm; clear hfm
    have ee := Option.some.inj hf; subst ee
    exact (fun z e => by have ee := Sum.inr.inj (e); subst ee; exact hle)
  · have hf := if_f q hf
    obtain ⟨hk14, hf⟩ := gd_some hf
    obtain ⟨z15, hz15, hf⟩ := bd_some hf
    rcases ite_or hf with ⟨q, hf⟩ | ⟨q, hf⟩
    · have hf := if_t q hf
      obtain cf := mX12_partFound_b76 hf
      exact fun z e => eqz_rt (cf z (e)) hle
    · have hf := if_f q hf
      obtain cf := mX12_partFound_b76 hf
      exact fun z e => eqz_rt (cf z (e)) hle
set_option maxRecDepth 100000 in
theorem wX12_partFound_c51 {E : PE} {p : Program} {l : Launch} {e : Env} {s : State} {m : MethodId} {args : Array Value} {below : List Frame} {meth : Method} {c : Code} (X : Cx E p l e (rmv 3 0 0) s m args below meth c RX12 cX12_partFound 6 (some .int)) (hG : Gs E l) (hnm : meth.name = yX12_partFound.name) {v0 : Nat} {v1 : Int32} {v3 : Int32} {v4 : Int32} {v5 : Int32} {h : PH} {r : (Int32 × PH)} {x : ((Int32 × Int32) ⊕ (Int32 × PH))} (hf : fX12_partFound_c51 v0 v1 v3 v4 v5 h = some x) (k0 : ∀ z : (Int32 × Int32), x = .inl z → PW E p l e (rmv 3 0 0) s m args below meth c 6 0 0 (MQ below (QG E (fun v u => v = some (.int r.1) ∧ u = r.2)) args s 0 0 (pA E)) h 51 [(0, some (.ref v0)), (1, some (.int v1)), (3, some (.int v3)), (4, some (.int (z.1))), (5, some (.int (z.2)))] []) (kf : ∀ z : (Int32 × PH), x = .inr z → z = r) : PW E p l e (rmv 3 0 0) s m args below meth c 6 0 0 (MQ below (QG E (fun v u => v = some (.int r.1) ∧ u = r.2)) args s 0 0 (pA E)) h 51 [(0, some (.ref v0)), (1, some (.int v1)), (3, some (.int v3)), (4, some (.int v4)), (5, some (.int v5))] [] := by
  unfold fX12_partFound_c51 at hf
  refine p_iload X (dcg dc_X12_partFound 31 rfl) rfl ?_
  refine p_bipush (v := 100) X (dcg dc_X12_partFound 32 rfl) (by decide) ?_
  refine p_icmp_ge (tgt := 85) X (dcg dc_X12_partFound 33 rfl) (by decide) (fun q => ?_) (fun q => ?_)
  · have hf := if_t q hf
    obtain ⟨y12, hf, hy13⟩ := mr_some hf
    have hy13f := kf y12 hy13
    subst hy13f
    refine p_iload X (dcg dc_X12_partFound 48 rfl) rfl ?_
    have er := Option.some.inj hf
    subst er
    exact p_iret X rfl (dcg dc_X12_partFound 49 rfl) ⟨rfl, rfl⟩ (Nat.le_refl _) (Nat.le_refl _)
  · have hf := if_f q hf
    refine p_iload X (dcg dc_X12_partFound 34 rfl) rfl ?_
    refine p_aload_n X (dcg dc_X12_partFound 35 rfl) rfl rfl ?_
    refine p_iload_n X (dcg dc_X12_partFound 36 rfl) rfl rfl ?_
    refine p_iload_n X (dcg dc_X12_partFound 37 rfl) rfl rfl ?_
    refine p_iload X (dcg dc_X12_partFound 38 rfl) rfl ?_
    obtain ⟨hk14, hf⟩ := gd_some hf
    obtain ⟨z15, hz15, hf⟩ := bd_some hf
    refine p_callV (As := [_, _, _]) X ml_X12_340 (dcg dc_X12_partFound 39 rfl) rfl rfl hk14 (wX12_meets hG hz15) (by decide) (room4 (Nat.le_of_ble_eq_true rfl)) (Nat.le_refl _) (Nat.le_refl _) ?_
    rintro _ u9 ⟨rfl, e9⟩; have e9 := e9.symm; subst e9
    refine p_if_le (tgt := 75) X (dcg dc_X12_partFound 40 rfl) (by decide) (fun q => ?_) (fun q => ?_)
    · have hf := if_t q hf
      refine p_iconst (v := 0) X (dcg dc_X12_partFound 43 rfl) (by decide) ?_
      refine p_pick [0, 1, 3, 5] ?_
      exact wX12_partFound_b76 X hG hnm hf k0 kf
    · have hf := if_f q hf
      refine p_iconst (v := 1) X (dcg dc_X12_partFound 41 rfl) (by decide) ?_
      refine p_goto (tgt := 76) X (dcg dc_X12_partFound 42 rfl) (by decide) ?_
      refine p_pick [0, 1, 3, 5] ?_
      exact wX12_partFound_b76 X hG hnm hf k0 kf
noncomputable def fX12_partFound_l51 (v0 : Nat) (v1 : Int32) (v3 : Int32) (v4 : Int32) (v5 : Int32) (h : PH) : Option (Int32 × PH) := wh (fun z : (Int32 × Int32) => fX12_partFound_c51 v0 v1 v3 (z.1) (z.2) h) (v4, v5)
set_option maxRecDepth 100000 in
theorem mX12_partFound_l51 {v0 : Nat} {v1 : Int32} {v3 : Int32} {v4 : Int32} {v5 : Int32} {h : PH} {r : (Int32 × PH)} (hf : fX12_partFound_l51 v0 v1 v3 v4 v5 h = some r) : eqz h (hX r.2) (hV r.2) := by
  unfold fX12_partFound_l51 at hf
  refine wh_ind (P := fun z => eqz h (hX r.2) (hV r.2)) (fun z x0 hs i1 i2 => ?_) _ hf
  obtain cf := mX12_partFound_c51 (v0 := v0) (v1 := v1) (v3 := v3) (v4 := z.1) (v5 := z.2) (h := h) hs
  rcases hxx : x0 with zz | zz
  · exact (i1 zz hxx)
  · have ee := i2 zz hxx; subst ee; exact cf zz hxx
set_option maxRecDepth 100000 in
theorem wX12_partFound_l51 {E : PE} {p : Program} {l : Launch} {e : Env} {s : State} {m : MethodId} {args : Array Value} {below : List Frame} {meth : Method} {c : Code} (X : Cx E p l e (rmv 3 0 0) s m args below meth c RX12 cX12_partFound 6 (some .int)) (hG : Gs E l) (hnm : meth.name = yX12_partFound.name) {v0 : Nat} {v1 : Int32} {v3 : Int32} {v4 : Int32} {v5 : Int32} {h : PH} {r : (Int32 × PH)} (hf : fX12_partFound_l51 v0 v1 v3 v4 v5 h = some r)  : PW E p l e (rmv 3 0 0) s m args below meth c 6 0 0 (MQ below (QG E (fun v u => v = some (.int r.1) ∧ u = r.2)) args s 0 0 (pA E)) h 51 [(0, some (.ref v0)), (1, some (.int v1)), (3, some (.int v3)), (4, some (.int v4)), (5, some (.int v5))] [] := by
  unfold fX12_partFound_l51 at hf
  refine wh_ind (P := fun z => PW E p l e (rmv 3 0 0) s m args below meth c 6 0 0 (MQ below (QG E (fun v u => v = some (.int r.1) ∧ u = r.2)) args s 0 0 (pA E)) h 51 [(0, some (.ref v0)), (1, some (.int v1)), (3, some (.int v3)), (4, some (.int (z.1))), (5, some (.int (z.2)))] []) (fun z x0 hs i1 i2 => ?_) _ hf
  exact wX12_partFound_c51 (r := r) (v0 := v0) (v1 := v1) (v3 := v3) (v4 := z.1) (v5 := z.2) (h := h) X hG hnm hs i1  i2
noncomputable def fX12_partFound_b29 (v0 : Nat) (v1 : Int32) (v2 : Int32) (t0 : Option Nat) (t1 : Int32) (h : PH) : Option (Int32 × PH) :=
  gs t0 (fun a6 =>
  gd (hK h a6 = 12) (bd (fX12_fails a6 t1 (3 : Int32) h) (fun z9 =>
  if (z9.1 = 0) then (gd (hK z9.2 v0 = 12) (bd (fX12_simple v0 v1 v2 z9.2) (fun z11 =>
  fX12_partFound_l51 v0 v1 z11 (0 : Int32) (0 : Int32) z9.2))) else
  fX12_partFound_b36  z9.2)))
set_option maxRecDepth 100000 in
theorem mX12_partFound_b29 {v0 : Nat} {v1 : Int32} {v2 : Int32} {t0 : Option Nat} {t1 : Int32} {h : PH} {r : (Int32 × PH)} (hf : fX12_partFound_b29 v0 v1 v2 t0 t1 h = some r) : eqz h (hX r.2) (hV r.2) := by
  unfold fX12_partFound_b29 at hf
  have hle := eqz_rf h
  obtain ⟨a6, e7, hf⟩ := gs_some hf
  obtain ⟨hk8, hf⟩ := gd_some hf
  obtain ⟨z9, hz9, hf⟩ := bd_some hf
  have hle := eqz_rt (mX12_fails hz9) hle
  rcases ite_or hf with ⟨q, hf⟩ | ⟨q, hf⟩
  · have hf := if_t q hf
    obtain ⟨hk10, hf⟩ := gd_some hf
    obtain ⟨z11, hz11, hf⟩ := bd_some hf
    exact eqz_rt (mX12_partFound_l51 hf) hle
  · have hf := if_f q hf
    exact eqz_rt (mX12_partFound_b36 hf) hle
set_option maxRecDepth 100000 in
theorem wX12_partFound_b29 {E : PE} {p : Program} {l : Launch} {e : Env} {s : State} {m : MethodId} {args : Array Value} {below : List Frame} {meth : Method} {c : Code} (X : Cx E p l e (rmv 3 0 0) s m args below meth c RX12 cX12_partFound 6 (some .int)) (hG : Gs E l) (hnm : meth.name = yX12_partFound.name) {v0 : Nat} {v1 : Int32} {v2 : Int32} {t0 : Option Nat} {t1 : Int32} {h : PH} {r : (Int32 × PH)} (hf : fX12_partFound_b29 v0 v1 v2 t0 t1 h = some r)  : PW E p l e (rmv 3 0 0) s m args below meth c 6 0 0 (MQ below (QG E (fun v u => v = some (.int r.1) ∧ u = r.2)) args s 0 0 (pA E)) h 29 [(0, some (.ref v0)), (1, some (.int v1)), (2, some (.int v2))] [.int t1, va_rf t0] := by
  unfold fX12_partFound_b29 at hf
  refine p_iconst (v := 3) X (dcg dc_X12_partFound 17 rfl) (by decide) ?_
  obtain ⟨a6, e7, hf⟩ := gs_some hf
  first | subst e7 | (try rw [e7])
  obtain ⟨hk8, hf⟩ := gd_some hf
  obtain ⟨z9, hz9, hf⟩ := bd_some hf
  refine p_callV (As := [_, _]) X ml_X12_156 (dcg dc_X12_partFound 18 rfl) rfl rfl hk8 (wX12_fails hG hz9) (by decide) (room4 (Nat.le_of_ble_eq_true rfl)) (Nat.le_refl _) (Nat.le_refl _) ?_
  rintro _ u9 ⟨rfl, e9⟩; have e9 := e9.symm; subst e9
  refine p_if_eq (tgt := 38) X (dcg dc_X12_partFound 19 rfl) (by decide) (fun q => ?_) (fun q => ?_)
  · have hf := if_t q hf
    refine p_aload_n X (dcg dc_X12_partFound 22 rfl) rfl rfl ?_
    refine p_iload_n X (dcg dc_X12_partFound 23 rfl) rfl rfl ?_
    refine p_iload_n X (dcg dc_X12_partFound 24 rfl) rfl rfl ?_
    obtain ⟨hk10, hf⟩ := gd_some hf
    obtain ⟨z11, hz11, hf⟩ := bd_some hf
    refine p_callV (As := [_, _]) X ml_X12_379 (dcg dc_X12_partFound 25 rfl) rfl rfl hk10 (wX12_simple hG hz11) (by decide) (room4 (Nat.le_of_ble_eq_true rfl)) (Nat.le_refl _) (Nat.le_refl _) ?_
    rintro _ u9 ⟨rfl, e9⟩; have e9 := e9.symm; subst e9
    refine p_istore_n X (dcg dc_X12_partFound 26 rfl) rfl (by decide) rfl ?_
    refine p_iconst (v := 0) X (dcg dc_X12_partFound 27 rfl) (by decide) ?_
    refine p_istore X (dcg dc_X12_partFound 28 rfl) (by decide) rfl ?_
    refine p_iconst (v := 0) X (dcg dc_X12_partFound 29 rfl) (by decide) ?_
    refine p_istore X (dcg dc_X12_partFound 30 rfl) (by decide) rfl ?_
    refine p_pick [0, 1, 3, 4, 5] ?_
    exact wX12_partFound_l51 X hG hnm hf 
  · have hf := if_f q hf
    refine p_pick [] ?_
    exact wX12_partFound_b36 X hG hnm hf 
noncomputable def fX12_partFound (v0 : Nat) (v1 : Int32) (v2 : Int32) (h : PH) : Option (Int32 × PH) :=
  gd (hK h v0 = 12) (lt (sI h 12 v0 0 (0 : Int32)) (fun h2 =>
  bd (fX12_noKept v0 v1 h2) (fun z3 =>
  if (¬ z3.1 = 0) then (fX12_partFound_b36  z3.2) else
  gd (hK z3.2 v0 = 12) (bd (fX12_simple v0 v1 v2 z3.2) (fun z5 =>
  if (z5 = (-1 : Int32)) then (fX12_partFound_b29 v0 v1 v2 (some v0) (0 : Int32) z3.2) else
  fX12_partFound_b29 v0 v1 v2 (some v0) (1 : Int32) z3.2)))))
set_option maxRecDepth 100000 in
theorem mX12_partFound {v0 : Nat} {v1 : Int32} {v2 : Int32} {h : PH} {r : (Int32 × PH)} (hf : fX12_partFound v0 v1 v2 h = some r) : eqz h (hX r.2) (hV r.2) := by
  unfold fX12_partFound at hf
  have hle := eqz_rf h
  obtain ⟨hk1, hf⟩ := gd_some hf
  obtain ⟨h2, rfl, hf⟩ := lt_some hf
  obtain ⟨z3, hz3, hf⟩ := bd_some hf
  have hle := eqz_rt (mX12_noKept hz3) hle
  rcases ite_or hf with ⟨q, hf⟩ | ⟨q, hf⟩
  · have hf := if_t q hf
    exact eqz_rt (mX12_partFound_b36 hf) hle
  · have hf := if_f q hf
    obtain ⟨hk4, hf⟩ := gd_some hf
    obtain ⟨z5, hz5, hf⟩ := bd_some hf
    rcases ite_or hf with ⟨q, hf⟩ | ⟨q, hf⟩
    · have hf := if_t q hf
      exact eqz_rt (mX12_partFound_b29 hf) hle
    · have hf := if_f q hf
      exact eqz_rt (mX12_partFound_b29 hf) hle
set_option maxRecDepth 100000 in
theorem wX12_partFound {E : PE} {l : Launch} (hG : Gs E l) {v0 : Nat} {v1 : Int32} {v2 : Int32} {h : PH} {r : (Int32 × PH)} (hf : fX12_partFound v0 v1 v2 h = some r) : Ct E l 3 0 0 yX12_partFound cX12_partFound 6 (some .int) [.ref v0, .int v1, .int v2] h (fun v u => v = some (.int r.1) ∧ u = r.2) := by
  refine ct_of hG (by decide) (Nat.le_of_ble_eq_true rfl) ?_
  intro p e s m args below meth c X hnm
  show PW E p l e _ s m args below meth c _ 0 0 _ h 0 [(0, some (.ref v0)), (1, some (.int v1)), (2, some (.int v2))] []
  unfold fX12_partFound at hf
  refine p_aload_n X (dcg dc_X12_partFound 0 rfl) rfl rfl ?_
  refine p_iconst (v := 0) X (dcg dc_X12_partFound 1 rfl) (by decide) ?_
  obtain ⟨hk1, hf⟩ := gd_some hf
  refine p_putI X fl_X12_1 rfl (by decide) (fun q hq => by cases hq; rfl) rfl rfl (dcg dc_X12_partFound 2 rfl) hk1 ?_
  obtain ⟨h2, rfl, hf⟩ := lt_some hf
  refine p_aload_n X (dcg dc_X12_partFound 3 rfl) rfl rfl ?_
  refine p_iload_n X (dcg dc_X12_partFound 4 rfl) rfl rfl ?_
  obtain ⟨z3, hz3, hf⟩ := bd_some hf
  refine p_callV (As := [_]) X ml_X12_361 (dcg dc_X12_partFound 5 rfl) rfl rfl hk1 (wX12_noKept hG hz3) (by decide) (room4 (Nat.le_of_ble_eq_true rfl)) (Nat.le_refl _) (Nat.le_refl _) ?_
  rintro _ u9 ⟨rfl, e9⟩; have e9 := e9.symm; subst e9
  refine p_if_ne (tgt := 36) X (dcg dc_X12_partFound 6 rfl) (by decide) (fun q => ?_) (fun q => ?_)
  · have hf := if_t q hf
    refine p_pick [] ?_
    exact wX12_partFound_b36 X hG hnm hf 
  · have hf := if_f q hf
    refine p_aload_n X (dcg dc_X12_partFound 7 rfl) rfl rfl ?_
    refine p_aload_n X (dcg dc_X12_partFound 8 rfl) rfl rfl ?_
    refine p_iload_n X (dcg dc_X12_partFound 9 rfl) rfl rfl ?_
    refine p_iload_n X (dcg dc_X12_partFound 10 rfl) rfl rfl ?_
    obtain ⟨hk4, hf⟩ := gd_some hf
    obtain ⟨z5, hz5, hf⟩ := bd_some hf
    refine p_callV (As := [_, _]) X ml_X12_379 (dcg dc_X12_partFound 11 rfl) rfl rfl hk4 (wX12_simple hG hz5) (by decide) (room4 (Nat.le_of_ble_eq_true rfl)) (Nat.le_refl _) (Nat.le_refl _) ?_
    rintro _ u9 ⟨rfl, e9⟩; have e9 := e9.symm; subst e9
    refine p_iconst (v := -1) X (dcg dc_X12_partFound 12 rfl) (by decide) ?_
    refine p_icmp_eq (tgt := 28) X (dcg dc_X12_partFound 13 rfl) (by decide) (fun q => ?_) (fun q => ?_)
    · have hf := if_t q hf
      refine p_iconst (v := 0) X (dcg dc_X12_partFound 16 rfl) (by decide) ?_
      refine p_pick [0, 1, 2] ?_
      exact wX12_partFound_b29 X hG hnm hf 
    · have hf := if_f q hf
      refine p_iconst (v := 1) X (dcg dc_X12_partFound 14 rfl) (by decide) ?_
      refine p_goto (tgt := 29) X (dcg dc_X12_partFound 15 rfl) (by decide) ?_
      refine p_pick [0, 1, 2] ?_
      exact wX12_partFound_b29 X hG hnm hf 
theorem dc_X12_writes : decs cX12_writes [(0, .aload_n 0, 1), (1, .getfield 132, 3), (4, .aload_n 0, 1), (5, .getfield 382, 3), (8, .iload_n 1, 1), (9, .iastore, 1), (10, .aload_n 0, 1), (11, .dup, 1), (12, .getfield 382, 3), (15, .iconst 1, 1), (16, .iadd, 1), (17, .putfield 382, 3), (20, .return_, 1)] = true := by decide +kernel
noncomputable def fX12_writes (v0 : Nat) (v1 : Int32) (h : PH) : Option PH :=
  gd (hK h v0 = 12) (gs (hR h 12 v0 54) (fun a2 =>
  gd (hK h a2 = 20 ∧ inb (hI h 12 v0 56) (hN h a2)) (lt (sI h 20 a2 (Int32.toNatClampNeg (hI h 12 v0 56)) v1) (fun h6 =>
  lt (sI h6 12 v0 56 ((hI h6 12 v0 56) + (1 : Int32))) (fun h7 =>
  some (h7))))))
set_option maxRecDepth 100000 in
theorem mX12_writes {v0 : Nat} {v1 : Int32} {h : PH} {r : PH} (hf : fX12_writes v0 v1 h = some r) : eqz h (hX r) (hV r) := by
  unfold fX12_writes at hf
  have hle := eqz_rf h
  obtain ⟨hk1, hf⟩ := gd_some hf
  obtain ⟨a2, e3, hf⟩ := gs_some hf
  obtain ⟨⟨hk5, hb4⟩, hf⟩ := gd_some hf
  obtain ⟨h6, rfl, hf⟩ := lt_some hf
  obtain ⟨h7, rfl, hf⟩ := lt_some hf
  have ee := Option.some.inj hf; subst ee; exact hle
set_option maxRecDepth 100000 in
theorem wX12_writes {E : PE} {l : Launch} (hG : Gs E l) {v0 : Nat} {v1 : Int32} {h : PH} {r : PH} (hf : fX12_writes v0 v1 h = some r) : Ct E l 0 0 0 yX12_writes cX12_writes 2 (none) [.ref v0, .int v1] h (fun v u => v = none ∧ u = r) := by
  refine ct_of hG (by decide) (Nat.le_of_ble_eq_true rfl) ?_
  intro p e s m args below meth c X hnm
  show PW E p l e _ s m args below meth c _ 0 0 _ h 0 [(0, some (.ref v0)), (1, some (.int v1))] []
  unfold fX12_writes at hf
  refine p_aload_n X (dcg dc_X12_writes 0 rfl) rfl rfl ?_
  obtain ⟨hk1, hf⟩ := gd_some hf
  refine p_getR X fl_X12_132 rfl (by decide) (dcg dc_X12_writes 1 rfl) hk1 ?_
  refine p_aload_n X (dcg dc_X12_writes 2 rfl) rfl rfl ?_
  refine p_getI X fl_X12_382 rfl (by decide) (dcg dc_X12_writes 3 rfl) hk1 ?_
  refine p_iload_n X (dcg dc_X12_writes 4 rfl) rfl rfl ?_
  obtain ⟨a2, e3, hf⟩ := gs_some hf
  first | subst e3 | (try rw [e3])
  obtain ⟨⟨hk5, hb4⟩, hf⟩ := gd_some hf
  refine p_iast X (dcg dc_X12_writes 5 rfl) hk5 (vp_of_inb hb4) ?_
  obtain ⟨h6, rfl, hf⟩ := lt_some hf
  refine p_aload_n X (dcg dc_X12_writes 6 rfl) rfl rfl ?_
  refine p_dup X (dcg dc_X12_writes 7 rfl) rfl ?_
  refine p_getI X fl_X12_382 rfl (by decide) (dcg dc_X12_writes 8 rfl) hk1 ?_
  refine p_iconst (v := 1) X (dcg dc_X12_writes 9 rfl) (by decide) ?_
  refine p_iadd X (dcg dc_X12_writes 10 rfl) ?_
  refine p_putI X fl_X12_382 rfl (by decide) (fun q hq => by cases hq; rfl) rfl rfl (dcg dc_X12_writes 11 rfl) hk1 ?_
  obtain ⟨h7, rfl, hf⟩ := lt_some hf
  have er := Option.some.inj hf
  subst er
  exact p_vret X rfl (dcg dc_X12_writes 12 rfl) ⟨rfl, rfl⟩ (Nat.le_refl _) (Nat.le_refl _)
theorem dc_X12_writesWord : decs cX12_writesWord [(0, .iconst 0, 1), (1, .istore_n 2, 1), (2, .iload_n 2, 1), (3, .iload_n 1, 1), (4, .invokestatic 144, 3), (7, .if_icmp .ge 21, 3), (10, .aload_n 0, 1), (11, .bipush 96, 2), (13, .iload_n 1, 1), (14, .iload_n 2, 1), (15, .invokestatic 222, 3), (18, .iadd, 1), (19, .invokevirtual 385, 3), (22, .iinc 2 1, 3), (25, .goto (-23), 3), (28, .return_, 1)] = true := by decide +kernel
noncomputable def fX12_writesWord_c2 (v0 : Nat) (v1 : Int32) (v2 : Int32) (h : PH) : Option ((Int32 × PH) ⊕ PH) :=
  bd (fX12_letters v1) (fun z1 =>
  if (z1 ≤ v2) then (mr (some (h))) else
  bd (fX12_letterOf v1 v2) (fun z4 =>
  gd (hK h v0 = 12) (bd (fX12_writes v0 ((96 : Int32) + z4) h) (fun z6 =>
  some (.inl ((v2 + 1), z6))))))
set_option maxRecDepth 100000 in
theorem mX12_writesWord_c2 {v0 : Nat} {v1 : Int32} {v2 : Int32} {h : PH} {x : ((Int32 × PH) ⊕ PH)} (hf : fX12_writesWord_c2 v0 v1 v2 h = some x) : (∀ w9 : (Int32 × PH), x = .inl w9 → eqz h (hX (w9.2)) (hV (w9.2))) ∧ (∀ w9 : PH, x = .inr w9 → eqz h (hX w9) (hV w9)) := by
  unfold fX12_writesWord_c2 at hf
  have hle := eqz_rf h
  obtain ⟨z1, hz1, hf⟩ := bd_some hf
  rcases ite_or hf with ⟨q, hf⟩ | ⟨q, hf⟩
  · have hf := if_t q hf
    obtain ⟨y2, hfm, rfl⟩ := mr_some hf; have hf := hfm; clear hfm
    have ee := Option.some.inj hf; subst ee
    exact ⟨(fun z e => nomatch e), (fun z e => by have ee := Sum.inr.inj (e); subst ee; exact hle)⟩
  · have hf := if_f q hf
    obtain ⟨z4, hz4, hf⟩ := bd_some hf
    obtain ⟨hk5, hf⟩ := gd_some hf
    obtain ⟨z6, hz6, hf⟩ := bd_some hf
    have hle := eqz_rt (mX12_writes hz6) hle
    have ee := Option.some.inj hf; subst ee
    exact ⟨(fun z e => by have ee := Sum.inl.inj (e); subst ee; exact hle), (fun z e => nomatch e)⟩
set_option maxRecDepth 100000 in
theorem wX12_writesWord_c2 {E : PE} {p : Program} {l : Launch} {e : Env} {s : State} {m : MethodId} {args : Array Value} {below : List Frame} {meth : Method} {c : Code} (X : Cx E p l e (rmv 2 0 0) s m args below meth c RX12 cX12_writesWord 3 (none)) (hG : Gs E l) (hnm : meth.name = yX12_writesWord.name) {v0 : Nat} {v1 : Int32} {v2 : Int32} {h : PH} {r : PH} {x : ((Int32 × PH) ⊕ PH)} (hf : fX12_writesWord_c2 v0 v1 v2 h = some x) (k0 : ∀ z : (Int32 × PH), x = .inl z → PW E p l e (rmv 2 0 0) s m args below meth c 3 0 0 (MQ below (QG E (fun v u => v = none ∧ u = r)) args s 0 0 (pA E)) (z.2) 2 [(0, some (.ref v0)), (1, some (.int v1)), (2, some (.int (z.1)))] []) (kf : ∀ z : PH, x = .inr z → z = r) : PW E p l e (rmv 2 0 0) s m args below meth c 3 0 0 (MQ below (QG E (fun v u => v = none ∧ u = r)) args s 0 0 (pA E)) h 2 [(0, some (.ref v0)), (1, some (.int v1)), (2, some (.int v2))] [] := by
  unfold fX12_writesWord_c2 at hf
  refine p_iload_n X (dcg dc_X12_writesWord 2 rfl) rfl rfl ?_
  refine p_iload_n X (dcg dc_X12_writesWord 3 rfl) rfl rfl ?_
  obtain ⟨z1, hz1, hf⟩ := bd_some hf
  refine p_callS (As := [_]) X ml_X12_144 (dcg dc_X12_writesWord 4 rfl) rfl rfl  (wX12_letters hG hz1) (by decide) (room4 (Nat.le_of_ble_eq_true rfl)) (Nat.le_refl _) (Nat.le_refl _) ?_
  rintro _ u9 ⟨rfl, e9⟩; have e9 := e9.symm; subst e9
  refine p_icmp_ge (tgt := 28) X (dcg dc_X12_writesWord 5 rfl) (by decide) (fun q => ?_) (fun q => ?_)
  · have hf := if_t q hf
    obtain ⟨y2, hf, hy3⟩ := mr_some hf
    have hy3f := kf y2 hy3
    subst hy3f
    have er := Option.some.inj hf
    subst er
    exact p_vret X rfl (dcg dc_X12_writesWord 15 rfl) ⟨rfl, rfl⟩ (Nat.le_refl _) (Nat.le_refl _)
  · have hf := if_f q hf
    refine p_aload_n X (dcg dc_X12_writesWord 6 rfl) rfl rfl ?_
    refine p_bipush (v := 96) X (dcg dc_X12_writesWord 7 rfl) (by decide) ?_
    refine p_iload_n X (dcg dc_X12_writesWord 8 rfl) rfl rfl ?_
    refine p_iload_n X (dcg dc_X12_writesWord 9 rfl) rfl rfl ?_
    obtain ⟨z4, hz4, hf⟩ := bd_some hf
    refine p_callS (As := [_, _]) X ml_X12_222 (dcg dc_X12_writesWord 10 rfl) rfl rfl  (wX12_letterOf hG hz4) (by decide) (room4 (Nat.le_of_ble_eq_true rfl)) (Nat.le_refl _) (Nat.le_refl _) ?_
    rintro _ u9 ⟨rfl, e9⟩; have e9 := e9.symm; subst e9
    refine p_iadd X (dcg dc_X12_writesWord 11 rfl) ?_
    obtain ⟨hk5, hf⟩ := gd_some hf
    obtain ⟨z6, hz6, hf⟩ := bd_some hf
    refine p_callV (As := [_]) X ml_X12_385 (dcg dc_X12_writesWord 12 rfl) rfl rfl hk5 (wX12_writes hG hz6) (by decide) (room4 (Nat.le_of_ble_eq_true rfl)) (Nat.le_refl _) (Nat.le_refl _) ?_
    rintro _ u9 ⟨rfl, e9⟩; have e9 := e9.symm; subst e9
    refine p_iinc (v := 1) X (dcg dc_X12_writesWord 13 rfl) rfl (by decide) (by decide) rfl ?_
    refine p_goto (tgt := 2) X (dcg dc_X12_writesWord 14 rfl) (by decide) ?_
    refine p_pick [0, 1, 2] ?_
    exact k0 _ (Option.some.inj hf).symm
noncomputable def fX12_writesWord_l2 (v0 : Nat) (v1 : Int32) (v2 : Int32) (h : PH) : Option PH := wh (fun z : (Int32 × PH) => fX12_writesWord_c2 v0 v1 (z.1) (z.2)) (v2, h)
set_option maxRecDepth 100000 in
theorem mX12_writesWord_l2 {v0 : Nat} {v1 : Int32} {v2 : Int32} {h : PH} {r : PH} (hf : fX12_writesWord_l2 v0 v1 v2 h = some r) : eqz h (hX r) (hV r) := by
  unfold fX12_writesWord_l2 at hf
  refine wh_ind (P := fun z => eqz (z.2) (hX r) (hV r)) (fun z x0 hs i1 i2 => ?_) _ hf
  obtain ⟨c0, cf⟩ := mX12_writesWord_c2 (v0 := v0) (v1 := v1) (v2 := z.1) (h := z.2) hs
  rcases hxx : x0 with zz | zz
  · exact eqz_tr (c0 zz hxx) (i1 zz hxx)
  · have ee := i2 zz hxx; subst ee; exact cf zz hxx
set_option maxRecDepth 100000 in
theorem wX12_writesWord_l2 {E : PE} {p : Program} {l : Launch} {e : Env} {s : State} {m : MethodId} {args : Array Value} {below : List Frame} {meth : Method} {c : Code} (X : Cx E p l e (rmv 2 0 0) s m args below meth c RX12 cX12_writesWord 3 (none)) (hG : Gs E l) (hnm : meth.name = yX12_writesWord.name) {v0 : Nat} {v1 : Int32} {v2 : Int32} {h : PH} {r : PH} (hf : fX12_writesWord_l2 v0 v1 v2 h = some r)  : PW E p l e (rmv 2 0 0) s m args below meth c 3 0 0 (MQ below (QG E (fun v u => v = none ∧ u = r)) args s 0 0 (pA E)) h 2 [(0, some (.ref v0)), (1, some (.int v1)), (2, some (.int v2))] [] := by
  unfold fX12_writesWord_l2 at hf
  refine wh_ind (P := fun z => PW E p l e (rmv 2 0 0) s m args below meth c 3 0 0 (MQ below (QG E (fun v u => v = none ∧ u = r)) args s 0 0 (pA E)) (z.2) 2 [(0, some (.ref v0)), (1, some (.int v1)), (2, some (.int (z.1)))] []) (fun z x0 hs i1 i2 => ?_) _ hf
  exact wX12_writesWord_c2 (r := r) (v0 := v0) (v1 := v1) (v2 := z.1) (h := z.2) X hG hnm hs i1  i2
noncomputable def fX12_writesWord (v0 : Nat) (v1 : Int32) (h : PH) : Option PH :=
  fX12_writesWord_l2 v0 v1 (0 : Int32) h
set_option maxRecDepth 100000 in
theorem mX12_writesWord {v0 : Nat} {v1 : Int32} {h : PH} {r : PH} (hf : fX12_writesWord v0 v1 h = some r) : eqz h (hX r) (hV r) := by
  unfold fX12_writesWord at hf
  have hle := eqz_rf h
  exact eqz_rt (mX12_writesWord_l2 hf) hle
set_option maxRecDepth 100000 in
theorem wX12_writesWord {E : PE} {l : Launch} (hG : Gs E l) {v0 : Nat} {v1 : Int32} {h : PH} {r : PH} (hf : fX12_writesWord v0 v1 h = some r) : Ct E l 2 0 0 yX12_writesWord cX12_writesWord 3 (none) [.ref v0, .int v1] h (fun v u => v = none ∧ u = r) := by
  refine ct_of hG (by decide) (Nat.le_of_ble_eq_true rfl) ?_
  intro p e s m args below meth c X hnm
  show PW E p l e _ s m args below meth c _ 0 0 _ h 0 [(0, some (.ref v0)), (1, some (.int v1))] []
  unfold fX12_writesWord at hf
  refine p_iconst (v := 0) X (dcg dc_X12_writesWord 0 rfl) (by decide) ?_
  refine p_istore_n X (dcg dc_X12_writesWord 1 rfl) rfl (by decide) rfl ?_
  refine p_pick [0, 1, 2] ?_
  exact wX12_writesWord_l2 X hG hnm hf 
theorem dc_X12_lays : decs cX12_lays [(0, .aload_n 0, 1), (1, .getfield 135, 3), (4, .aload_n 0, 1), (5, .getfield 388, 3), (8, .iload_n 1, 1), (9, .iastore, 1), (10, .aload_n 0, 1), (11, .dup, 1), (12, .getfield 388, 3), (15, .iconst 1, 1), (16, .iadd, 1), (17, .putfield 388, 3), (20, .return_, 1)] = true := by decide +kernel
noncomputable def fX12_lays (v0 : Nat) (v1 : Int32) (h : PH) : Option PH :=
  gd (hK h v0 = 12) (gs (hR h 12 v0 55) (fun a2 =>
  gd (hK h a2 = 20 ∧ inb (hI h 12 v0 57) (hN h a2)) (lt (sI h 20 a2 (Int32.toNatClampNeg (hI h 12 v0 57)) v1) (fun h6 =>
  lt (sI h6 12 v0 57 ((hI h6 12 v0 57) + (1 : Int32))) (fun h7 =>
  some (h7))))))
set_option maxRecDepth 100000 in
theorem mX12_lays {v0 : Nat} {v1 : Int32} {h : PH} {r : PH} (hf : fX12_lays v0 v1 h = some r) : eqz h (hX r) (hV r) := by
  unfold fX12_lays at hf
  have hle := eqz_rf h
  obtain ⟨hk1, hf⟩ := gd_some hf
  obtain ⟨a2, e3, hf⟩ := gs_some hf
  obtain ⟨⟨hk5, hb4⟩, hf⟩ := gd_some hf
  obtain ⟨h6, rfl, hf⟩ := lt_some hf
  obtain ⟨h7, rfl, hf⟩ := lt_some hf
  have ee := Option.some.inj hf; subst ee; exact hle
set_option maxRecDepth 100000 in
theorem wX12_lays {E : PE} {l : Launch} (hG : Gs E l) {v0 : Nat} {v1 : Int32} {h : PH} {r : PH} (hf : fX12_lays v0 v1 h = some r) : Ct E l 0 0 0 yX12_lays cX12_lays 2 (none) [.ref v0, .int v1] h (fun v u => v = none ∧ u = r) := by
  refine ct_of hG (by decide) (Nat.le_of_ble_eq_true rfl) ?_
  intro p e s m args below meth c X hnm
  show PW E p l e _ s m args below meth c _ 0 0 _ h 0 [(0, some (.ref v0)), (1, some (.int v1))] []
  unfold fX12_lays at hf
  refine p_aload_n X (dcg dc_X12_lays 0 rfl) rfl rfl ?_
  obtain ⟨hk1, hf⟩ := gd_some hf
  refine p_getR X fl_X12_135 rfl (by decide) (dcg dc_X12_lays 1 rfl) hk1 ?_
  refine p_aload_n X (dcg dc_X12_lays 2 rfl) rfl rfl ?_
  refine p_getI X fl_X12_388 rfl (by decide) (dcg dc_X12_lays 3 rfl) hk1 ?_
  refine p_iload_n X (dcg dc_X12_lays 4 rfl) rfl rfl ?_
  obtain ⟨a2, e3, hf⟩ := gs_some hf
  first | subst e3 | (try rw [e3])
  obtain ⟨⟨hk5, hb4⟩, hf⟩ := gd_some hf
  refine p_iast X (dcg dc_X12_lays 5 rfl) hk5 (vp_of_inb hb4) ?_
  obtain ⟨h6, rfl, hf⟩ := lt_some hf
  refine p_aload_n X (dcg dc_X12_lays 6 rfl) rfl rfl ?_
  refine p_dup X (dcg dc_X12_lays 7 rfl) rfl ?_
  refine p_getI X fl_X12_388 rfl (by decide) (dcg dc_X12_lays 8 rfl) hk1 ?_
  refine p_iconst (v := 1) X (dcg dc_X12_lays 9 rfl) (by decide) ?_
  refine p_iadd X (dcg dc_X12_lays 10 rfl) ?_
  refine p_putI X fl_X12_388 rfl (by decide) (fun q hq => by cases hq; rfl) rfl rfl (dcg dc_X12_lays 11 rfl) hk1 ?_
  obtain ⟨h7, rfl, hf⟩ := lt_some hf
  have er := Option.some.inj hf
  subst er
  exact p_vret X rfl (dcg dc_X12_lays 12 rfl) ⟨rfl, rfl⟩ (Nat.le_refl _) (Nat.le_refl _)
theorem dc_X12_writesSimple : decs cX12_writesSimple [(0, .sipush 400, 3), (3, .iload_n 1, 1), (4, .imul, 1), (5, .iload_n 2, 1), (6, .iadd, 1), (7, .istore_n 3, 1), (8, .aload_n 0, 1), (9, .getfield 60, 3), (12, .iload_n 3, 1), (13, .iaload, 1), (14, .iconst 3, 1), (15, .if_icmp .ne 70, 3), (18, .aload_n 0, 1), (19, .bipush 91, 2), (21, .invokevirtual 385, 3), (24, .iconst 0, 1), (25, .istore 4, 2), (27, .iload 4, 2), (29, .aload_n 0, 1), (30, .getfield 66, 3), (33, .iload_n 3, 1), (34, .iaload, 1), (35, .if_icmp .ge 43, 3), (38, .iload 4, 2), (40, .ifCond .le 9, 3), (43, .aload_n 0, 1), (44, .bipush 32, 2), (46, .invokevirtual 385, 3), (49, .aload_n 0, 1), (50, .aload_n 0, 1), (51, .getfield 78, 3), (54, .bipush 20, 2), (56, .iload_n 1, 1), (57, .imul, 1), (58, .aload_n 0, 1), (59, .getfield 63, 3), (62, .iload_n 3, 1), (63, .iaload, 1), (64, .iadd, 1), (65, .iload 4, 2), (67, .iadd, 1), (68, .iaload, 1), (69, .invokevirtual 391, 3), (72, .iinc 4 1, 3), (75, .goto (-48), 3), (78, .aload_n 0, 1), (79, .bipush 93, 2), (81, .invokevirtual 385, 3), (84, .return_, 1), (85, .aload_n 0, 1), (86, .aload_n 0, 1), (87, .getfield 63, 3), (90, .iload_n 3, 1), (91, .iaload, 1), (92, .invokevirtual 391, 3), (95, .aload_n 0, 1), (96, .getfield 60, 3), (99, .iload_n 3, 1), (100, .iaload, 1), (101, .iconst 1, 1), (102, .if_icmp .ne 9, 3), (105, .aload_n 0, 1), (106, .bipush 42, 2), (108, .invokevirtual 385, 3), (111, .aload_n 0, 1), (112, .getfield 60, 3), (115, .iload_n 3, 1), (116, .iaload, 1), (117, .iconst 2, 1), (118, .if_icmp .eq 4, 3), (121, .return_, 1), (122, .aload_n 0, 1), (123, .bipush 126, 2), (125, .invokevirtual 385, 3), (128, .aload_n 0, 1), (129, .getfield 69, 3), (132, .iload_n 3, 1), (133, .iaload, 1), (134, .bipush 9, 2), (136, .if_icmp .le 19, 3), (139, .aload_n 0, 1), (140, .bipush 48, 2), (142, .aload_n 0, 1), (143, .getfield 69, 3), (146, .iload_n 3, 1), (147, .iaload, 1), (148, .bipush 10, 2), (150, .idiv, 1), (151, .iadd, 1), (152, .invokevirtual 385, 3), (155, .aload_n 0, 1), (156, .bipush 48, 2), (158, .aload_n 0, 1), (159, .getfield 69, 3), (162, .iload_n 3, 1), (163, .iaload, 1), (164, .bipush 10, 2), (166, .irem, 1), (167, .iadd, 1), (168, .invokevirtual 385, 3), (171, .aload_n 0, 1), (172, .aload_n 0, 1), (173, .getfield 66, 3), (176, .iload_n 3, 1), (177, .iaload, 1), (178, .invokevirtual 391, 3), (181, .return_, 1)] = true := by decide +kernel
noncomputable def fX12_writesSimple_b155 (v0 : Nat) (v3 : Int32) (h : PH) : Option PH :=
  gd (hK h v0 = 12) (gs (hR h 12 v0 28) (fun a28 =>
  gd (hK h a28 = 20 ∧ inb v3 (hN h a28)) (bd (fX12_writes v0 ((48 : Int32) + ((hI h 20 a28 (Int32.toNatClampNeg v3)) - (hI h 20 a28 (Int32.toNatClampNeg v3)) / (10 : Int32) * (10 : Int32))) h) (fun z32 =>
  gd (hK z32 v0 = 12) (gs (hR z32 12 v0 27) (fun a34 =>
  gd (hK z32 a34 = 20 ∧ inb v3 (hN z32 a34)) (bd (fX12_writesWord v0 (hI z32 20 a34 (Int32.toNatClampNeg v3)) z32) (fun z38 =>
  some (z38)))))))))
set_option maxRecDepth 100000 in
theorem mX12_writesSimple_b155 {v0 : Nat} {v3 : Int32} {h : PH} {r : PH} (hf : fX12_writesSimple_b155 v0 v3 h = some r) : eqz h (hX r) (hV r) := by
  unfold fX12_writesSimple_b155 at hf
  have hle := eqz_rf h
  obtain ⟨hk27, hf⟩ := gd_some hf
  obtain ⟨a28, e29, hf⟩ := gs_some hf
  obtain ⟨⟨hk31, hb30⟩, hf⟩ := gd_some hf
  obtain ⟨z32, hz32, hf⟩ := bd_some hf
  have hle := eqz_rt (mX12_writes hz32) hle
  obtain ⟨hk33, hf⟩ := gd_some hf
  obtain ⟨a34, e35, hf⟩ := gs_some hf
  obtain ⟨⟨hk37, hb36⟩, hf⟩ := gd_some hf
  obtain ⟨z38, hz38, hf⟩ := bd_some hf
  have hle := eqz_rt (mX12_writesWord hz38) hle
  have ee := Option.some.inj hf; subst ee; exact hle
set_option maxRecDepth 100000 in
theorem wX12_writesSimple_b155 {E : PE} {p : Program} {l : Launch} {e : Env} {s : State} {m : MethodId} {args : Array Value} {below : List Frame} {meth : Method} {c : Code} (X : Cx E p l e (rmv 3 0 0) s m args below meth c RX12 cX12_writesSimple 5 (none)) (hG : Gs E l) (hnm : meth.name = yX12_writesSimple.name) {v0 : Nat} {v3 : Int32} {h : PH} {r : PH} (hf : fX12_writesSimple_b155 v0 v3 h = some r)  : PW E p l e (rmv 3 0 0) s m args below meth c 5 0 0 (MQ below (QG E (fun v u => v = none ∧ u = r)) args s 0 0 (pA E)) h 155 [(0, some (.ref v0)), (3, some (.int v3))] [] := by
  unfold fX12_writesSimple_b155 at hf
  refine p_aload_n X (dcg dc_X12_writesSimple 90 rfl) rfl rfl ?_
  refine p_bipush (v := 48) X (dcg dc_X12_writesSimple 91 rfl) (by decide) ?_
  refine p_aload_n X (dcg dc_X12_writesSimple 92 rfl) rfl rfl ?_
  obtain ⟨hk27, hf⟩ := gd_some hf
  refine p_getR X fl_X12_69 rfl (by decide) (dcg dc_X12_writesSimple 93 rfl) hk27 ?_
  refine p_iload_n X (dcg dc_X12_writesSimple 94 rfl) rfl rfl ?_
  obtain ⟨a28, e29, hf⟩ := gs_some hf
  first | subst e29 | (try rw [e29])
  obtain ⟨⟨hk31, hb30⟩, hf⟩ := gd_some hf
  refine p_iald X (dcg dc_X12_writesSimple 95 rfl) hk31 (vp_of_inb hb30) ?_
  refine p_bipush (v := 10) X (dcg dc_X12_writesSimple 96 rfl) (by decide) ?_
  refine p_irem X (dcg dc_X12_writesSimple 97 rfl) (by decide) ?_
  refine p_iadd X (dcg dc_X12_writesSimple 98 rfl) ?_
  obtain ⟨z32, hz32, hf⟩ := bd_some hf
  refine p_callV (As := [_]) X ml_X12_385 (dcg dc_X12_writesSimple 99 rfl) rfl rfl hk27 (wX12_writes hG hz32) (by decide) (room4 (Nat.le_of_ble_eq_true rfl)) (Nat.le_refl _) (Nat.le_refl _) ?_
  rintro _ u9 ⟨rfl, e9⟩; have e9 := e9.symm; subst e9
  refine p_aload_n X (dcg dc_X12_writesSimple 100 rfl) rfl rfl ?_
  refine p_aload_n X (dcg dc_X12_writesSimple 101 rfl) rfl rfl ?_
  obtain ⟨hk33, hf⟩ := gd_some hf
  refine p_getR X fl_X12_66 rfl (by decide) (dcg dc_X12_writesSimple 102 rfl) hk33 ?_
  refine p_iload_n X (dcg dc_X12_writesSimple 103 rfl) rfl rfl ?_
  obtain ⟨a34, e35, hf⟩ := gs_some hf
  first | subst e35 | (try rw [e35])
  obtain ⟨⟨hk37, hb36⟩, hf⟩ := gd_some hf
  refine p_iald X (dcg dc_X12_writesSimple 104 rfl) hk37 (vp_of_inb hb36) ?_
  obtain ⟨z38, hz38, hf⟩ := bd_some hf
  refine p_callV (As := [_]) X ml_X12_391 (dcg dc_X12_writesSimple 105 rfl) rfl rfl hk33 (wX12_writesWord hG hz38) (by decide) (room4 (Nat.le_of_ble_eq_true rfl)) (Nat.le_refl _) (Nat.le_refl _) ?_
  rintro _ u9 ⟨rfl, e9⟩; have e9 := e9.symm; subst e9
  have er := Option.some.inj hf
  subst er
  exact p_vret X rfl (dcg dc_X12_writesSimple 106 rfl) ⟨rfl, rfl⟩ (Nat.le_refl _) (Nat.le_refl _)
noncomputable def fX12_writesSimple_b111 (v0 : Nat) (v3 : Int32) (h : PH) : Option PH :=
  gd (hK h v0 = 12) (gs (hR h 12 v0 25) (fun a17 =>
  gd (hK h a17 = 20 ∧ inb v3 (hN h a17)) (if ((hI h 20 a17 (Int32.toNatClampNeg v3)) = (2 : Int32)) then (bd (fX12_writes v0 (126 : Int32) h) (fun z21 =>
  gd (hK z21 v0 = 12) (gs (hR z21 12 v0 28) (fun a23 =>
  gd (hK z21 a23 = 20 ∧ inb v3 (hN z21 a23)) (if ((hI z21 20 a23 (Int32.toNatClampNeg v3)) ≤ (9 : Int32)) then (fX12_writesSimple_b155 v0 v3 z21) else
  gs (hR z21 12 v0 28) (fun a39 =>
  gd (hK z21 a39 = 20 ∧ inb v3 (hN z21 a39)) (bd (fX12_writes v0 ((48 : Int32) + ((hI z21 20 a39 (Int32.toNatClampNeg v3)) / (10 : Int32))) z21) (fun z43 =>
  fX12_writesSimple_b155 v0 v3 z43)))))))) else
  some (h))))
set_option maxRecDepth 100000 in
theorem mX12_writesSimple_b111 {v0 : Nat} {v3 : Int32} {h : PH} {r : PH} (hf : fX12_writesSimple_b111 v0 v3 h = some r) : eqz h (hX r) (hV r) := by
  unfold fX12_writesSimple_b111 at hf
  have hle := eqz_rf h
  obtain ⟨hk16, hf⟩ := gd_some hf
  obtain ⟨a17, e18, hf⟩ := gs_some hf
  obtain ⟨⟨hk20, hb19⟩, hf⟩ := gd_some hf
  rcases ite_or hf with ⟨q, hf⟩ | ⟨q, hf⟩
  · have hf := if_t q hf
    obtain ⟨z21, hz21, hf⟩ := bd_some hf
    have hle := eqz_rt (mX12_writes hz21) hle
    obtain ⟨hk22, hf⟩ := gd_some hf
    obtain ⟨a23, e24, hf⟩ := gs_some hf
    obtain ⟨⟨hk26, hb25⟩, hf⟩ := gd_some hf
    rcases ite_or hf with ⟨q, hf⟩ | ⟨q, hf⟩
    · have hf := if_t q hf
      exact eqz_rt (mX12_writesSimple_b155 hf) hle
    · have hf := if_f q hf
      obtain ⟨a39, e40, hf⟩ := gs_some hf
      obtain ⟨⟨hk42, hb41⟩, hf⟩ := gd_some hf
      obtain ⟨z43, hz43, hf⟩ := bd_some hf
      have hle := eqz_rt (mX12_writes hz43) hle
      exact eqz_rt (mX12_writesSimple_b155 hf) hle
  · have hf := if_f q hf
    have ee := Option.some.inj hf; subst ee; exact hle
set_option maxRecDepth 100000 in
theorem wX12_writesSimple_b111 {E : PE} {p : Program} {l : Launch} {e : Env} {s : State} {m : MethodId} {args : Array Value} {below : List Frame} {meth : Method} {c : Code} (X : Cx E p l e (rmv 3 0 0) s m args below meth c RX12 cX12_writesSimple 5 (none)) (hG : Gs E l) (hnm : meth.name = yX12_writesSimple.name) {v0 : Nat} {v3 : Int32} {h : PH} {r : PH} (hf : fX12_writesSimple_b111 v0 v3 h = some r)  : PW E p l e (rmv 3 0 0) s m args below meth c 5 0 0 (MQ below (QG E (fun v u => v = none ∧ u = r)) args s 0 0 (pA E)) h 111 [(0, some (.ref v0)), (3, some (.int v3))] [] := by
  unfold fX12_writesSimple_b111 at hf
  refine p_aload_n X (dcg dc_X12_writesSimple 64 rfl) rfl rfl ?_
  obtain ⟨hk16, hf⟩ := gd_some hf
  refine p_getR X fl_X12_60 rfl (by decide) (dcg dc_X12_writesSimple 65 rfl) hk16 ?_
  refine p_iload_n X (dcg dc_X12_writesSimple 66 rfl) rfl rfl ?_
  obtain ⟨a17, e18, hf⟩ := gs_some hf
  first | subst e18 | (try rw [e18])
  obtain ⟨⟨hk20, hb19⟩, hf⟩ := gd_some hf
  refine p_iald X (dcg dc_X12_writesSimple 67 rfl) hk20 (vp_of_inb hb19) ?_
  refine p_iconst (v := 2) X (dcg dc_X12_writesSimple 68 rfl) (by decide) ?_
  refine p_icmp_eq (tgt := 122) X (dcg dc_X12_writesSimple 69 rfl) (by decide) (fun q => ?_) (fun q => ?_)
  · have hf := if_t q hf
    refine p_aload_n X (dcg dc_X12_writesSimple 71 rfl) rfl rfl ?_
    refine p_bipush (v := 126) X (dcg dc_X12_writesSimple 72 rfl) (by decide) ?_
    obtain ⟨z21, hz21, hf⟩ := bd_some hf
    refine p_callV (As := [_]) X ml_X12_385 (dcg dc_X12_writesSimple 73 rfl) rfl rfl hk16 (wX12_writes hG hz21) (by decide) (room4 (Nat.le_of_ble_eq_true rfl)) (Nat.le_refl _) (Nat.le_refl _) ?_
    rintro _ u9 ⟨rfl, e9⟩; have e9 := e9.symm; subst e9
    refine p_aload_n X (dcg dc_X12_writesSimple 74 rfl) rfl rfl ?_
    obtain ⟨hk22, hf⟩ := gd_some hf
    refine p_getR X fl_X12_69 rfl (by decide) (dcg dc_X12_writesSimple 75 rfl) hk22 ?_
    refine p_iload_n X (dcg dc_X12_writesSimple 76 rfl) rfl rfl ?_
    obtain ⟨a23, e24, hf⟩ := gs_some hf
    first | subst e24 | (try rw [e24])
    obtain ⟨⟨hk26, hb25⟩, hf⟩ := gd_some hf
    refine p_iald X (dcg dc_X12_writesSimple 77 rfl) hk26 (vp_of_inb hb25) ?_
    refine p_bipush (v := 9) X (dcg dc_X12_writesSimple 78 rfl) (by decide) ?_
    refine p_icmp_le (tgt := 155) X (dcg dc_X12_writesSimple 79 rfl) (by decide) (fun q => ?_) (fun q => ?_)
    · have hf := if_t q hf
      refine p_pick [0, 3] ?_
      exact wX12_writesSimple_b155 X hG hnm hf 
    · have hf := if_f q hf
      refine p_aload_n X (dcg dc_X12_writesSimple 80 rfl) rfl rfl ?_
      refine p_bipush (v := 48) X (dcg dc_X12_writesSimple 81 rfl) (by decide) ?_
      refine p_aload_n X (dcg dc_X12_writesSimple 82 rfl) rfl rfl ?_
      refine p_getR X fl_X12_69 rfl (by decide) (dcg dc_X12_writesSimple 83 rfl) hk22 ?_
      refine p_iload_n X (dcg dc_X12_writesSimple 84 rfl) rfl rfl ?_
      obtain ⟨a39, e40, hf⟩ := gs_some hf
      first | subst e40 | (try rw [e40])
      obtain ⟨⟨hk42, hb41⟩, hf⟩ := gd_some hf
      refine p_iald X (dcg dc_X12_writesSimple 85 rfl) hk42 (vp_of_inb hb41) ?_
      refine p_bipush (v := 10) X (dcg dc_X12_writesSimple 86 rfl) (by decide) ?_
      refine p_idiv X (dcg dc_X12_writesSimple 87 rfl) (by decide) ?_
      refine p_iadd X (dcg dc_X12_writesSimple 88 rfl) ?_
      obtain ⟨z43, hz43, hf⟩ := bd_some hf
      refine p_callV (As := [_]) X ml_X12_385 (dcg dc_X12_writesSimple 89 rfl) rfl rfl hk22 (wX12_writes hG hz43) (by decide) (room4 (Nat.le_of_ble_eq_true rfl)) (Nat.le_refl _) (Nat.le_refl _) ?_
      rintro _ u9 ⟨rfl, e9⟩; have e9 := e9.symm; subst e9
      refine p_pick [0, 3] ?_
      exact wX12_writesSimple_b155 X hG hnm hf 
  · have hf := if_f q hf
    have er := Option.some.inj hf
    subst er
    exact p_vret X rfl (dcg dc_X12_writesSimple 70 rfl) ⟨rfl, rfl⟩ (Nat.le_refl _) (Nat.le_refl _)
noncomputable def fX12_writesSimple_b49 (v0 : Nat) (v1 : Int32) (v3 : Int32) (v4 : Int32) (h : PH) : Option ((Int32 × PH) ⊕ PH) :=
  gd (hK h v0 = 12) (gs (hR h 12 v0 26) (fun a55 =>
  gd (hK h a55 = 20 ∧ inb v3 (hN h a55)) (gs (hR h 12 v0 31) (fun a59 =>
  gd (hK h a59 = 20 ∧ inb ((((20 : Int32) * v1) + (hI h 20 a55 (Int32.toNatClampNeg v3))) + v4) (hN h a59)) (bd (fX12_writesWord v0 (hI h 20 a59 (Int32.toNatClampNeg ((((20 : Int32) * v1) + (hI h 20 a55 (Int32.toNatClampNeg v3))) + v4))) h) (fun z63 =>
  some (.inl ((v4 + 1), z63))))))))
set_option maxRecDepth 100000 in
theorem mX12_writesSimple_b49 {v0 : Nat} {v1 : Int32} {v3 : Int32} {v4 : Int32} {h : PH} {x : ((Int32 × PH) ⊕ PH)} (hf : fX12_writesSimple_b49 v0 v1 v3 v4 h = some x) : (∀ w9 : (Int32 × PH), x = .inl w9 → eqz h (hX (w9.2)) (hV (w9.2))) ∧ (∀ w9 : PH, x = .inr w9 → eqz h (hX w9) (hV w9)) := by
  unfold fX12_writesSimple_b49 at hf
  have hle := eqz_rf h
  obtain ⟨hk54, hf⟩ := gd_some hf
  obtain ⟨a55, e56, hf⟩ := gs_some hf
  obtain ⟨⟨hk58, hb57⟩, hf⟩ := gd_some hf
  obtain ⟨a59, e60, hf⟩ := gs_some hf
  obtain ⟨⟨hk62, hb61⟩, hf⟩ := gd_some hf
  obtain ⟨z63, hz63, hf⟩ := bd_some hf
  have hle := eqz_rt (mX12_writesWord hz63) hle
  have ee := Option.some.inj hf; subst ee
  exact ⟨(fun z e => by have ee := Sum.inl.inj (e); subst ee; exact hle), (fun z e => nomatch e)⟩
set_option maxRecDepth 100000 in
theorem wX12_writesSimple_b49 {E : PE} {p : Program} {l : Launch} {e : Env} {s : State} {m : MethodId} {args : Array Value} {below : List Frame} {meth : Method} {c : Code} (X : Cx E p l e (rmv 3 0 0) s m args below meth c RX12 cX12_writesSimple 5 (none)) (hG : Gs E l) (hnm : meth.name = yX12_writesSimple.name) {v0 : Nat} {v1 : Int32} {v3 : Int32} {v4 : Int32} {h : PH} {r : PH} {x : ((Int32 × PH) ⊕ PH)} (hf : fX12_writesSimple_b49 v0 v1 v3 v4 h = some x) (k0 : ∀ z : (Int32 × PH), x = .inl z → PW E p l e (rmv 3 0 0) s m args below meth c 5 0 0 (MQ below (QG E (fun v u => v = none ∧ u = r)) args s 0 0 (pA E)) (z.2) 27 [(0, some (.ref v0)), (1, some (.int v1)), (3, some (.int v3)), (4, some (.int (z.1)))] []) (kf : ∀ z : PH, x = .inr z → z = r) : PW E p l e (rmv 3 0 0) s m args below meth c 5 0 0 (MQ below (QG E (fun v u => v = none ∧ u = r)) args s 0 0 (pA E)) h 49 [(0, some (.ref v0)), (1, some (.int v1)), (3, some (.int v3)), (4, some (.int v4))] [] := by
  unfold fX12_writesSimple_b49 at hf
  refine p_aload_n X (dcg dc_X12_writesSimple 28 rfl) rfl rfl ?_
  refine p_aload_n X (dcg dc_X12_writesSimple 29 rfl) rfl rfl ?_
  obtain ⟨hk54, hf⟩ := gd_some hf
  refine p_getR X fl_X12_78 rfl (by decide) (dcg dc_X12_writesSimple 30 rfl) hk54 ?_
  refine p_bipush (v := 20) X (dcg dc_X12_writesSimple 31 rfl) (by decide) ?_
  refine p_iload_n X (dcg dc_X12_writesSimple 32 rfl) rfl rfl ?_
  refine p_imul X (dcg dc_X12_writesSimple 33 rfl) ?_
  refine p_aload_n X (dcg dc_X12_writesSimple 34 rfl) rfl rfl ?_
  refine p_getR X fl_X12_63 rfl (by decide) (dcg dc_X12_writesSimple 35 rfl) hk54 ?_
  refine p_iload_n X (dcg dc_X12_writesSimple 36 rfl) rfl rfl ?_
  obtain ⟨a55, e56, hf⟩ := gs_some hf
  first | subst e56 | (try rw [e56])
  obtain ⟨⟨hk58, hb57⟩, hf⟩ := gd_some hf
  refine p_iald X (dcg dc_X12_writesSimple 37 rfl) hk58 (vp_of_inb hb57) ?_
  refine p_iadd X (dcg dc_X12_writesSimple 38 rfl) ?_
  refine p_iload X (dcg dc_X12_writesSimple 39 rfl) rfl ?_
  refine p_iadd X (dcg dc_X12_writesSimple 40 rfl) ?_
  obtain ⟨a59, e60, hf⟩ := gs_some hf
  first | subst e60 | (try rw [e60])
  obtain ⟨⟨hk62, hb61⟩, hf⟩ := gd_some hf
  refine p_iald X (dcg dc_X12_writesSimple 41 rfl) hk62 (vp_of_inb hb61) ?_
  obtain ⟨z63, hz63, hf⟩ := bd_some hf
  refine p_callV (As := [_]) X ml_X12_391 (dcg dc_X12_writesSimple 42 rfl) rfl rfl hk54 (wX12_writesWord hG hz63) (by decide) (room4 (Nat.le_of_ble_eq_true rfl)) (Nat.le_refl _) (Nat.le_refl _) ?_
  rintro _ u9 ⟨rfl, e9⟩; have e9 := e9.symm; subst e9
  refine p_iinc (v := 1) X (dcg dc_X12_writesSimple 43 rfl) rfl (by decide) (by decide) rfl ?_
  refine p_goto (tgt := 27) X (dcg dc_X12_writesSimple 44 rfl) (by decide) ?_
  refine p_pick [0, 1, 3, 4] ?_
  exact k0 _ (Option.some.inj hf).symm
noncomputable def fX12_writesSimple_c27 (v0 : Nat) (v1 : Int32) (v3 : Int32) (v4 : Int32) (h : PH) : Option ((Int32 × PH) ⊕ PH) :=
  gd (hK h v0 = 12) (gs (hR h 12 v0 27) (fun a47 =>
  gd (hK h a47 = 20 ∧ inb v3 (hN h a47)) (if ((hI h 20 a47 (Int32.toNatClampNeg v3)) ≤ v4) then (mr (bd (fX12_writes v0 (93 : Int32) h) (fun z53 =>
  some (z53)))) else
  if (v4 ≤ 0) then (fX12_writesSimple_b49 v0 v1 v3 v4 h) else
  bd (fX12_writes v0 (32 : Int32) h) (fun z64 =>
  fX12_writesSimple_b49 v0 v1 v3 v4 z64))))
set_option maxRecDepth 100000 in
theorem mX12_writesSimple_c27 {v0 : Nat} {v1 : Int32} {v3 : Int32} {v4 : Int32} {h : PH} {x : ((Int32 × PH) ⊕ PH)} (hf : fX12_writesSimple_c27 v0 v1 v3 v4 h = some x) : (∀ w9 : (Int32 × PH), x = .inl w9 → eqz h (hX (w9.2)) (hV (w9.2))) ∧ (∀ w9 : PH, x = .inr w9 → eqz h (hX w9) (hV w9)) := by
  unfold fX12_writesSimple_c27 at hf
  have hle := eqz_rf h
  obtain ⟨hk46, hf⟩ := gd_some hf
  obtain ⟨a47, e48, hf⟩ := gs_some hf
  obtain ⟨⟨hk50, hb49⟩, hf⟩ := gd_some hf
  rcases ite_or hf with ⟨q, hf⟩ | ⟨q, hf⟩
  · have hf := if_t q hf
    obtain ⟨y51, hfm, rfl⟩ := mr_some hf; have hf := hfm; clear hfm
    obtain ⟨z53, hz53, hf⟩ := bd_some hf
    have hle := eqz_rt (mX12_writes hz53) hle
    have ee := Option.some.inj hf; subst ee
    exact ⟨(fun z e => nomatch e), (fun z e => by have ee := Sum.inr.inj (e); subst ee; exact hle)⟩
  · have hf := if_f q hf
    rcases ite_or hf with ⟨q, hf⟩ | ⟨q, hf⟩
    · have hf := if_t q hf
      obtain ⟨c0, cf⟩ := mX12_writesSimple_b49 hf
      exact ⟨fun z e => eqz_rt (c0 z (e)) hle, fun z e => eqz_rt (cf z (e)) hle⟩
    · have hf := if_f q hf
      obtain ⟨z64, hz64, hf⟩ := bd_some hf
      have hle := eqz_rt (mX12_writes hz64) hle
      obtain ⟨c0, cf⟩ := mX12_writesSimple_b49 hf
      exact ⟨fun z e => eqz_rt (c0 z (e)) hle, fun z e => eqz_rt (cf z (e)) hle⟩
set_option maxRecDepth 100000 in
theorem wX12_writesSimple_c27 {E : PE} {p : Program} {l : Launch} {e : Env} {s : State} {m : MethodId} {args : Array Value} {below : List Frame} {meth : Method} {c : Code} (X : Cx E p l e (rmv 3 0 0) s m args below meth c RX12 cX12_writesSimple 5 (none)) (hG : Gs E l) (hnm : meth.name = yX12_writesSimple.name) {v0 : Nat} {v1 : Int32} {v3 : Int32} {v4 : Int32} {h : PH} {r : PH} {x : ((Int32 × PH) ⊕ PH)} (hf : fX12_writesSimple_c27 v0 v1 v3 v4 h = some x) (k0 : ∀ z : (Int32 × PH), x = .inl z → PW E p l e (rmv 3 0 0) s m args below meth c 5 0 0 (MQ below (QG E (fun v u => v = none ∧ u = r)) args s 0 0 (pA E)) (z.2) 27 [(0, some (.ref v0)), (1, some (.int v1)), (3, some (.int v3)), (4, some (.int (z.1)))] []) (kf : ∀ z : PH, x = .inr z → z = r) : PW E p l e (rmv 3 0 0) s m args below meth c 5 0 0 (MQ below (QG E (fun v u => v = none ∧ u = r)) args s 0 0 (pA E)) h 27 [(0, some (.ref v0)), (1, some (.int v1)), (3, some (.int v3)), (4, some (.int v4))] [] := by
  unfold fX12_writesSimple_c27 at hf
  refine p_iload X (dcg dc_X12_writesSimple 17 rfl) rfl ?_
  refine p_aload_n X (dcg dc_X12_writesSimple 18 rfl) rfl rfl ?_
  obtain ⟨hk46, hf⟩ := gd_some hf
  refine p_getR X fl_X12_66 rfl (by decide) (dcg dc_X12_writesSimple 19 rfl) hk46 ?_
  refine p_iload_n X (dcg dc_X12_writesSimple 20 rfl) rfl rfl ?_
  obtain ⟨a47, e48, hf⟩ := gs_some hf
  first | subst e48 | (try rw [e48])
  obtain ⟨⟨hk50, hb49⟩, hf⟩ := gd_some hf
  refine p_iald X (dcg dc_X12_writesSimple 21 rfl) hk50 (vp_of_inb hb49) ?_
  refine p_icmp_ge (tgt := 78) X (dcg dc_X12_writesSimple 22 rfl) (by decide) (fun q => ?_) (fun q => ?_)
  · have hf := if_t q hf
    obtain ⟨y51, hf, hy52⟩ := mr_some hf
    have hy52f := kf y51 hy52
    subst hy52f
    refine p_aload_n X (dcg dc_X12_writesSimple 45 rfl) rfl rfl ?_
    refine p_bipush (v := 93) X (dcg dc_X12_writesSimple 46 rfl) (by decide) ?_
    obtain ⟨z53, hz53, hf⟩ := bd_some hf
    refine p_callV (As := [_]) X ml_X12_385 (dcg dc_X12_writesSimple 47 rfl) rfl rfl hk46 (wX12_writes hG hz53) (by decide) (room4 (Nat.le_of_ble_eq_true rfl)) (Nat.le_refl _) (Nat.le_refl _) ?_
    rintro _ u9 ⟨rfl, e9⟩; have e9 := e9.symm; subst e9
    have er := Option.some.inj hf
    subst er
    exact p_vret X rfl (dcg dc_X12_writesSimple 48 rfl) ⟨rfl, rfl⟩ (Nat.le_refl _) (Nat.le_refl _)
  · have hf := if_f q hf
    refine p_iload X (dcg dc_X12_writesSimple 23 rfl) rfl ?_
    refine p_if_le (tgt := 49) X (dcg dc_X12_writesSimple 24 rfl) (by decide) (fun q => ?_) (fun q => ?_)
    · have hf := if_t q hf
      refine p_pick [0, 1, 3, 4] ?_
      exact wX12_writesSimple_b49 X hG hnm hf k0 kf
    · have hf := if_f q hf
      refine p_aload_n X (dcg dc_X12_writesSimple 25 rfl) rfl rfl ?_
      refine p_bipush (v := 32) X (dcg dc_X12_writesSimple 26 rfl) (by decide) ?_
      obtain ⟨z64, hz64, hf⟩ := bd_some hf
      refine p_callV (As := [_]) X ml_X12_385 (dcg dc_X12_writesSimple 27 rfl) rfl rfl hk46 (wX12_writes hG hz64) (by decide) (room4 (Nat.le_of_ble_eq_true rfl)) (Nat.le_refl _) (Nat.le_refl _) ?_
      rintro _ u9 ⟨rfl, e9⟩; have e9 := e9.symm; subst e9
      refine p_pick [0, 1, 3, 4] ?_
      exact wX12_writesSimple_b49 X hG hnm hf k0 kf
noncomputable def fX12_writesSimple_l27 (v0 : Nat) (v1 : Int32) (v3 : Int32) (v4 : Int32) (h : PH) : Option PH := wh (fun z : (Int32 × PH) => fX12_writesSimple_c27 v0 v1 v3 (z.1) (z.2)) (v4, h)
set_option maxRecDepth 100000 in
theorem mX12_writesSimple_l27 {v0 : Nat} {v1 : Int32} {v3 : Int32} {v4 : Int32} {h : PH} {r : PH} (hf : fX12_writesSimple_l27 v0 v1 v3 v4 h = some r) : eqz h (hX r) (hV r) := by
  unfold fX12_writesSimple_l27 at hf
  refine wh_ind (P := fun z => eqz (z.2) (hX r) (hV r)) (fun z x0 hs i1 i2 => ?_) _ hf
  obtain ⟨c0, cf⟩ := mX12_writesSimple_c27 (v0 := v0) (v1 := v1) (v3 := v3) (v4 := z.1) (h := z.2) hs
  rcases hxx : x0 with zz | zz
  · exact eqz_tr (c0 zz hxx) (i1 zz hxx)
  · have ee := i2 zz hxx; subst ee; exact cf zz hxx
set_option maxRecDepth 100000 in
theorem wX12_writesSimple_l27 {E : PE} {p : Program} {l : Launch} {e : Env} {s : State} {m : MethodId} {args : Array Value} {below : List Frame} {meth : Method} {c : Code} (X : Cx E p l e (rmv 3 0 0) s m args below meth c RX12 cX12_writesSimple 5 (none)) (hG : Gs E l) (hnm : meth.name = yX12_writesSimple.name) {v0 : Nat} {v1 : Int32} {v3 : Int32} {v4 : Int32} {h : PH} {r : PH} (hf : fX12_writesSimple_l27 v0 v1 v3 v4 h = some r)  : PW E p l e (rmv 3 0 0) s m args below meth c 5 0 0 (MQ below (QG E (fun v u => v = none ∧ u = r)) args s 0 0 (pA E)) h 27 [(0, some (.ref v0)), (1, some (.int v1)), (3, some (.int v3)), (4, some (.int v4))] [] := by
  unfold fX12_writesSimple_l27 at hf
  refine wh_ind (P := fun z => PW E p l e (rmv 3 0 0) s m args below meth c 5 0 0 (MQ below (QG E (fun v u => v = none ∧ u = r)) args s 0 0 (pA E)) (z.2) 27 [(0, some (.ref v0)), (1, some (.int v1)), (3, some (.int v3)), (4, some (.int (z.1)))] []) (fun z x0 hs i1 i2 => ?_) _ hf
  exact wX12_writesSimple_c27 (r := r) (v0 := v0) (v1 := v1) (v3 := v3) (v4 := z.1) (h := z.2) X hG hnm hs i1  i2
noncomputable def fX12_writesSimple (v0 : Nat) (v1 : Int32) (v2 : Int32) (h : PH) : Option PH :=
  gd (hK h v0 = 12) (gs (hR h 12 v0 25) (fun a2 =>
  gd (hK h a2 = 20 ∧ inb (((400 : Int32) * v1) + v2) (hN h a2)) (if (¬ (hI h 20 a2 (Int32.toNatClampNeg (((400 : Int32) * v1) + v2))) = (3 : Int32)) then (gs (hR h 12 v0 26) (fun a6 =>
  gd (hK h a6 = 20 ∧ inb (((400 : Int32) * v1) + v2) (hN h a6)) (bd (fX12_writesWord v0 (hI h 20 a6 (Int32.toNatClampNeg (((400 : Int32) * v1) + v2))) h) (fun z10 =>
  gd (hK z10 v0 = 12) (gs (hR z10 12 v0 25) (fun a12 =>
  gd (hK z10 a12 = 20 ∧ inb (((400 : Int32) * v1) + v2) (hN z10 a12)) (if (¬ (hI z10 20 a12 (Int32.toNatClampNeg (((400 : Int32) * v1) + v2))) = (1 : Int32)) then (fX12_writesSimple_b111 v0 (((400 : Int32) * v1) + v2) z10) else
  bd (fX12_writes v0 (42 : Int32) z10) (fun z44 =>
  fX12_writesSimple_b111 v0 (((400 : Int32) * v1) + v2) z44)))))))) else
  bd (fX12_writes v0 (91 : Int32) h) (fun z45 =>
  fX12_writesSimple_l27 v0 v1 (((400 : Int32) * v1) + v2) (0 : Int32) z45))))
set_option maxRecDepth 100000 in
theorem mX12_writesSimple {v0 : Nat} {v1 : Int32} {v2 : Int32} {h : PH} {r : PH} (hf : fX12_writesSimple v0 v1 v2 h = some r) : eqz h (hX r) (hV r) := by
  unfold fX12_writesSimple at hf
  have hle := eqz_rf h
  obtain ⟨hk1, hf⟩ := gd_some hf
  obtain ⟨a2, e3, hf⟩ := gs_some hf
  obtain ⟨⟨hk5, hb4⟩, hf⟩ := gd_some hf
  rcases ite_or hf with ⟨q, hf⟩ | ⟨q, hf⟩
  · have hf := if_t q hf
    obtain ⟨a6, e7, hf⟩ := gs_some hf
    obtain ⟨⟨hk9, hb8⟩, hf⟩ := gd_some hf
    obtain ⟨z10, hz10, hf⟩ := bd_some hf
    have hle := eqz_rt (mX12_writesWord hz10) hle
    obtain ⟨hk11, hf⟩ := gd_some hf
    obtain ⟨a12, e13, hf⟩ := gs_some hf
    obtain ⟨⟨hk15, hb14⟩, hf⟩ := gd_some hf
    rcases ite_or hf with ⟨q, hf⟩ | ⟨q, hf⟩
    · have hf := if_t q hf
      exact eqz_rt (mX12_writesSimple_b111 hf) hle
    · have hf := if_f q hf
      obtain ⟨z44, hz44, hf⟩ := bd_some hf
      have hle := eqz_rt (mX12_writes hz44) hle
      exact eqz_rt (mX12_writesSimple_b111 hf) hle
  · have hf := if_f q hf
    obtain ⟨z45, hz45, hf⟩ := bd_some hf
    have hle := eqz_rt (mX12_writes hz45) hle
    exact eqz_rt (mX12_writesSimple_l27 hf) hle
set_option maxRecDepth 100000 in
theorem wX12_writesSimple {E : PE} {l : Launch} (hG : Gs E l) {v0 : Nat} {v1 : Int32} {v2 : Int32} {h : PH} {r : PH} (hf : fX12_writesSimple v0 v1 v2 h = some r) : Ct E l 3 0 0 yX12_writesSimple cX12_writesSimple 5 (none) [.ref v0, .int v1, .int v2] h (fun v u => v = none ∧ u = r) := by
  refine ct_of hG (by decide) (Nat.le_of_ble_eq_true rfl) ?_
  intro p e s m args below meth c X hnm
  show PW E p l e _ s m args below meth c _ 0 0 _ h 0 [(0, some (.ref v0)), (1, some (.int v1)), (2, some (.int v2))] []
  unfold fX12_writesSimple at hf
  refine p_sipush (v := 400) X (dcg dc_X12_writesSimple 0 rfl) (by decide) ?_
  refine p_iload_n X (dcg dc_X12_writesSimple 1 rfl) rfl rfl ?_
  refine p_imul X (dcg dc_X12_writesSimple 2 rfl) ?_
  refine p_iload_n X (dcg dc_X12_writesSimple 3 rfl) rfl rfl ?_
  refine p_iadd X (dcg dc_X12_writesSimple 4 rfl) ?_
  refine p_istore_n X (dcg dc_X12_writesSimple 5 rfl) rfl (by decide) rfl ?_
  refine p_aload_n X (dcg dc_X12_writesSimple 6 rfl) rfl rfl ?_
  obtain ⟨hk1, hf⟩ := gd_some hf
  refine p_getR X fl_X12_60 rfl (by decide) (dcg dc_X12_writesSimple 7 rfl) hk1 ?_
  refine p_iload_n X (dcg dc_X12_writesSimple 8 rfl) rfl rfl ?_
  obtain ⟨a2, e3, hf⟩ := gs_some hf
  first | subst e3 | (try rw [e3])
  obtain ⟨⟨hk5, hb4⟩, hf⟩ := gd_some hf
  refine p_iald X (dcg dc_X12_writesSimple 9 rfl) hk5 (vp_of_inb hb4) ?_
  refine p_iconst (v := 3) X (dcg dc_X12_writesSimple 10 rfl) (by decide) ?_
  refine p_icmp_ne (tgt := 85) X (dcg dc_X12_writesSimple 11 rfl) (by decide) (fun q => ?_) (fun q => ?_)
  · have hf := if_t q hf
    refine p_aload_n X (dcg dc_X12_writesSimple 49 rfl) rfl rfl ?_
    refine p_aload_n X (dcg dc_X12_writesSimple 50 rfl) rfl rfl ?_
    refine p_getR X fl_X12_63 rfl (by decide) (dcg dc_X12_writesSimple 51 rfl) hk1 ?_
    refine p_iload_n X (dcg dc_X12_writesSimple 52 rfl) rfl rfl ?_
    obtain ⟨a6, e7, hf⟩ := gs_some hf
    first | subst e7 | (try rw [e7])
    obtain ⟨⟨hk9, hb8⟩, hf⟩ := gd_some hf
    refine p_iald X (dcg dc_X12_writesSimple 53 rfl) hk9 (vp_of_inb hb8) ?_
    obtain ⟨z10, hz10, hf⟩ := bd_some hf
    refine p_callV (As := [_]) X ml_X12_391 (dcg dc_X12_writesSimple 54 rfl) rfl rfl hk1 (wX12_writesWord hG hz10) (by decide) (room4 (Nat.le_of_ble_eq_true rfl)) (Nat.le_refl _) (Nat.le_refl _) ?_
    rintro _ u9 ⟨rfl, e9⟩; have e9 := e9.symm; subst e9
    refine p_aload_n X (dcg dc_X12_writesSimple 55 rfl) rfl rfl ?_
    obtain ⟨hk11, hf⟩ := gd_some hf
    refine p_getR X fl_X12_60 rfl (by decide) (dcg dc_X12_writesSimple 56 rfl) hk11 ?_
    refine p_iload_n X (dcg dc_X12_writesSimple 57 rfl) rfl rfl ?_
    obtain ⟨a12, e13, hf⟩ := gs_some hf
    first | subst e13 | (try rw [e13])
    obtain ⟨⟨hk15, hb14⟩, hf⟩ := gd_some hf
    refine p_iald X (dcg dc_X12_writesSimple 58 rfl) hk15 (vp_of_inb hb14) ?_
    refine p_iconst (v := 1) X (dcg dc_X12_writesSimple 59 rfl) (by decide) ?_
    refine p_icmp_ne (tgt := 111) X (dcg dc_X12_writesSimple 60 rfl) (by decide) (fun q => ?_) (fun q => ?_)
    · have hf := if_t q hf
      refine p_pick [0, 3] ?_
      exact wX12_writesSimple_b111 X hG hnm hf 
    · have hf := if_f q hf
      refine p_aload_n X (dcg dc_X12_writesSimple 61 rfl) rfl rfl ?_
      refine p_bipush (v := 42) X (dcg dc_X12_writesSimple 62 rfl) (by decide) ?_
      obtain ⟨z44, hz44, hf⟩ := bd_some hf
      refine p_callV (As := [_]) X ml_X12_385 (dcg dc_X12_writesSimple 63 rfl) rfl rfl hk11 (wX12_writes hG hz44) (by decide) (room4 (Nat.le_of_ble_eq_true rfl)) (Nat.le_refl _) (Nat.le_refl _) ?_
      rintro _ u9 ⟨rfl, e9⟩; have e9 := e9.symm; subst e9
      refine p_pick [0, 3] ?_
      exact wX12_writesSimple_b111 X hG hnm hf 
  · have hf := if_f q hf
    refine p_aload_n X (dcg dc_X12_writesSimple 12 rfl) rfl rfl ?_
    refine p_bipush (v := 91) X (dcg dc_X12_writesSimple 13 rfl) (by decide) ?_
    obtain ⟨z45, hz45, hf⟩ := bd_some hf
    refine p_callV (As := [_]) X ml_X12_385 (dcg dc_X12_writesSimple 14 rfl) rfl rfl hk1 (wX12_writes hG hz45) (by decide) (room4 (Nat.le_of_ble_eq_true rfl)) (Nat.le_refl _) (Nat.le_refl _) ?_
    rintro _ u9 ⟨rfl, e9⟩; have e9 := e9.symm; subst e9
    refine p_iconst (v := 0) X (dcg dc_X12_writesSimple 15 rfl) (by decide) ?_
    refine p_istore X (dcg dc_X12_writesSimple 16 rfl) (by decide) rfl ?_
    refine p_pick [0, 1, 3, 4] ?_
    exact wX12_writesSimple_l27 X hG hnm hf 
theorem dc_X12_writesJoined : decs cX12_writesJoined [(0, .aload_n 0, 1), (1, .getfield 60, 3), (4, .sipush 400, 3), (7, .iload_n 1, 1), (8, .imul, 1), (9, .iload_n 2, 1), (10, .iadd, 1), (11, .iaload, 1), (12, .istore_n 3, 1), (13, .iload_n 3, 1), (14, .iconst 4, 1), (15, .if_icmp .ne 9, 3), (18, .aload_n 0, 1), (19, .bipush 33, 2), (21, .invokevirtual 385, 3), (24, .aload_n 0, 1), (25, .getfield 388, 3), (28, .istore 4, 2), (30, .aload_n 0, 1), (31, .getfield 72, 3), (34, .sipush 400, 3), (37, .iload_n 1, 1), (38, .imul, 1), (39, .iload_n 2, 1), (40, .iadd, 1), (41, .iaload, 1), (42, .istore 5, 2), (44, .iload 5, 2), (46, .iconst (-1), 1), (47, .if_icmp .eq 115, 3), (50, .aload_n 0, 1), (51, .getfield 60, 3), (54, .sipush 400, 3), (57, .iload_n 1, 1), (58, .imul, 1), (59, .iload 5, 2), (61, .iadd, 1), (62, .iaload, 1), (63, .istore 6, 2), (65, .iload 6, 2), (67, .bipush 6, 2), (69, .if_icmp .eq 15, 3), (72, .iload 6, 2), (74, .iconst 5, 1), (75, .if_icmp .ne 13, 3), (78, .iload_n 3, 1), (79, .bipush 6, 2), (81, .if_icmp .eq 7, 3), (84, .iconst 1, 1), (85, .goto 4, 3), (88, .iconst 0, 1), (89, .istore 7, 2), (91, .aload_n 0, 1), (92, .getfield 388, 3), (95, .iload 4, 2), (97, .if_icmp .le 19, 3), (100, .aload_n 0, 1), (101, .iload_n 3, 1), (102, .iconst 5, 1), (103, .if_icmp .ne 8, 3), (106, .bipush (-38), 2), (108, .goto 5, 3), (111, .bipush (-124), 2), (113, .invokevirtual 394, 3), (116, .iload 7, 2), (118, .ifCond .eq 9, 3), (121, .aload_n 0, 1), (122, .bipush (-40), 2), (124, .invokevirtual 394, 3), (127, .aload_n 0, 1), (128, .iload 5, 2), (130, .invokevirtual 394, 3), (133, .iload 7, 2), (135, .ifCond .eq 9, 3), (138, .aload_n 0, 1), (139, .bipush (-41), 2), (141, .invokevirtual 394, 3), (144, .aload_n 0, 1), (145, .getfield 75, 3), (148, .sipush 400, 3), (151, .iload_n 1, 1), (152, .imul, 1), (153, .iload 5, 2), (155, .iadd, 1), (156, .iaload, 1), (157, .istore 5, 2), (159, .goto (-115), 3), (162, .iload 4, 2), (164, .istore 5, 2), (166, .aload_n 0, 1), (167, .getfield 388, 3), (170, .iconst 1, 1), (171, .isub, 1), (172, .istore 6, 2), (174, .iload 5, 2), (176, .iload 6, 2), (178, .if_icmp .ge 44, 3), (181, .aload_n 0, 1), (182, .getfield 135, 3), (185, .iload 5, 2), (187, .iaload, 1), (188, .istore 7, 2), (190, .aload_n 0, 1), (191, .getfield 135, 3), (194, .iload 5, 2), (196, .aload_n 0, 1), (197, .getfield 135, 3), (200, .iload 6, 2), (202, .iaload, 1), (203, .iastore, 1), (204, .aload_n 0, 1), (205, .getfield 135, 3), (208, .iload 6, 2), (210, .iload 7, 2), (212, .iastore, 1), (213, .iinc 6 (-1), 3), (216, .iinc 5 1, 3), (219, .goto (-45), 3), (222, .return_, 1)] = true := by decide +kernel
noncomputable def fX12_writesJoined_c174 (v0 : Nat) (v5 : Int32) (v6 : Int32) (h : PH) : Option ((Int32 × Int32 × PH) ⊕ PH) :=
  if (v6 ≤ v5) then (mr (some (h))) else
  gd (hK h v0 = 12) (gs (hR h 12 v0 55) (fun a17 =>
  gd (hK h a17 = 20 ∧ inb v5 (hN h a17)) (gs (hR h 12 v0 55) (fun a21 =>
  gd (hK h a21 = 20 ∧ inb v6 (hN h a21)) (gd (inb v5 (hN h a21)) (lt (sI h 20 a21 (Int32.toNatClampNeg v5) (hI h 20 a21 (Int32.toNatClampNeg v6))) (fun h26 =>
  gs (hR h26 12 v0 55) (fun a27 =>
  gd (hK h26 a27 = 20 ∧ inb v6 (hN h26 a27)) (lt (sI h26 20 a27 (Int32.toNatClampNeg v6) (hI h 20 a17 (Int32.toNatClampNeg v5))) (fun h31 =>
  some (.inl ((v5 + 1), (v6 + (-1)), h31))))))))))))
set_option maxRecDepth 100000 in
theorem mX12_writesJoined_c174 {v0 : Nat} {v5 : Int32} {v6 : Int32} {h : PH} {x : ((Int32 × Int32 × PH) ⊕ PH)} (hf : fX12_writesJoined_c174 v0 v5 v6 h = some x) : (∀ w9 : (Int32 × Int32 × PH), x = .inl w9 → eqz h (hX (w9.2.2)) (hV (w9.2.2))) ∧ (∀ w9 : PH, x = .inr w9 → eqz h (hX w9) (hV w9)) := by
  unfold fX12_writesJoined_c174 at hf
  have hle := eqz_rf h
  rcases ite_or hf with ⟨q, hf⟩ | ⟨q, hf⟩
  · have hf := if_t q hf
    obtain ⟨y14, hfm, rfl⟩ := mr_some hf; have hf := hfm; clear hfm
    have ee := Option.some.inj hf; subst ee
    exact ⟨(fun z e => nomatch e), (fun z e => by have ee := Sum.inr.inj (e); subst ee; exact hle)⟩
  · have hf := if_f q hf
    obtain ⟨hk16, hf⟩ := gd_some hf
    obtain ⟨a17, e18, hf⟩ := gs_some hf
    obtain ⟨⟨hk20, hb19⟩, hf⟩ := gd_some hf
    obtain ⟨a21, e22, hf⟩ := gs_some hf
    obtain ⟨⟨hk24, hb23⟩, hf⟩ := gd_some hf
    obtain ⟨hb25, hf⟩ := gd_some hf
    obtain ⟨h26, rfl, hf⟩ := lt_some hf
    obtain ⟨a27, e28, hf⟩ := gs_some hf
    obtain ⟨⟨hk30, hb29⟩, hf⟩ := gd_some hf
    obtain ⟨h31, rfl, hf⟩ := lt_some hf
    have ee := Option.some.inj hf; subst ee
    exact ⟨(fun z e => by have ee := Sum.inl.inj (e); subst ee; exact hle), (fun z e => nomatch e)⟩
set_option maxRecDepth 100000 in
theorem wX12_writesJoined_c174 {E : PE} {p : Program} {l : Launch} {e : Env} {s : State} {m : MethodId} {args : Array Value} {below : List Frame} {meth : Method} {c : Code} (X : Cx E p l e (rmv 1 0 0) s m args below meth c RX12 cX12_writesJoined 8 (none)) (hG : Gs E l) (hnm : meth.name = yX12_writesJoined.name) {v0 : Nat} {v5 : Int32} {v6 : Int32} {h : PH} {r : PH} {x : ((Int32 × Int32 × PH) ⊕ PH)} (hf : fX12_writesJoined_c174 v0 v5 v6 h = some x) (k0 : ∀ z : (Int32 × Int32 × PH), x = .inl z → PW E p l e (rmv 1 0 0) s m args below meth c 8 0 0 (MQ below (QG E (fun v u => v = none ∧ u = r)) args s 0 0 (pA E)) (z.2.2) 174 [(0, some (.ref v0)), (5, some (.int (z.1))), (6, some (.int (z.2.1)))] []) (kf : ∀ z : PH, x = .inr z → z = r) : PW E p l e (rmv 1 0 0) s m args below meth c 8 0 0 (MQ below (QG E (fun v u => v = none ∧ u = r)) args s 0 0 (pA E)) h 174 [(0, some (.ref v0)), (5, some (.int v5)), (6, some (.int v6))] [] := by
  unfold fX12_writesJoined_c174 at hf
  refine p_iload X (dcg dc_X12_writesJoined 94 rfl) rfl ?_
  refine p_iload X (dcg dc_X12_writesJoined 95 rfl) rfl ?_
  refine p_icmp_ge (tgt := 222) X (dcg dc_X12_writesJoined 96 rfl) (by decide) (fun q => ?_) (fun q => ?_)
  · have hf := if_t q hf
    obtain ⟨y14, hf, hy15⟩ := mr_some hf
    have hy15f := kf y14 hy15
    subst hy15f
    have er := Option.some.inj hf
    subst er
    exact p_vret X rfl (dcg dc_X12_writesJoined 118 rfl) ⟨rfl, rfl⟩ (Nat.le_refl _) (Nat.le_refl _)
  · have hf := if_f q hf
    refine p_aload_n X (dcg dc_X12_writesJoined 97 rfl) rfl rfl ?_
    obtain ⟨hk16, hf⟩ := gd_some hf
    refine p_getR X fl_X12_135 rfl (by decide) (dcg dc_X12_writesJoined 98 rfl) hk16 ?_
    refine p_iload X (dcg dc_X12_writesJoined 99 rfl) rfl ?_
    obtain ⟨a17, e18, hf⟩ := gs_some hf
    first | subst e18 | (try rw [e18])
    obtain ⟨⟨hk20, hb19⟩, hf⟩ := gd_some hf
    refine p_iald X (dcg dc_X12_writesJoined 100 rfl) hk20 (vp_of_inb hb19) ?_
    refine p_istore X (dcg dc_X12_writesJoined 101 rfl) (by decide) rfl ?_
    refine p_aload_n X (dcg dc_X12_writesJoined 102 rfl) rfl rfl ?_
    refine p_getR X fl_X12_135 rfl (by decide) (dcg dc_X12_writesJoined 103 rfl) hk16 ?_
    refine p_iload X (dcg dc_X12_writesJoined 104 rfl) rfl ?_
    refine p_aload_n X (dcg dc_X12_writesJoined 105 rfl) rfl rfl ?_
    refine p_getR X fl_X12_135 rfl (by decide) (dcg dc_X12_writesJoined 106 rfl) hk16 ?_
    refine p_iload X (dcg dc_X12_writesJoined 107 rfl) rfl ?_
    obtain ⟨a21, e22, hf⟩ := gs_some hf
    first | subst e22 | (try rw [e22])
    obtain ⟨⟨hk24, hb23⟩, hf⟩ := gd_some hf
    refine p_iald X (dcg dc_X12_writesJoined 108 rfl) hk24 (vp_of_inb hb23) ?_
    obtain ⟨hb25, hf⟩ := gd_some hf
    refine p_iast X (dcg dc_X12_writesJoined 109 rfl) hk24 (vp_of_inb hb25) ?_
    obtain ⟨h26, rfl, hf⟩ := lt_some hf
    refine p_aload_n X (dcg dc_X12_writesJoined 110 rfl) rfl rfl ?_
    refine p_getR X fl_X12_135 rfl (by decide) (dcg dc_X12_writesJoined 111 rfl) hk16 ?_
    refine p_iload X (dcg dc_X12_writesJoined 112 rfl) rfl ?_
    refine p_iload X (dcg dc_X12_writesJoined 113 rfl) rfl ?_
    obtain ⟨a27, e28, hf⟩ := gs_some hf
    first | subst e28 | (try rw [e28])
    obtain ⟨⟨hk30, hb29⟩, hf⟩ := gd_some hf
    refine p_iast X (dcg dc_X12_writesJoined 114 rfl) hk30 (vp_of_inb hb29) ?_
    obtain ⟨h31, rfl, hf⟩ := lt_some hf
    refine p_iinc (v := -1) X (dcg dc_X12_writesJoined 115 rfl) rfl (by decide) (by decide) rfl ?_
    refine p_iinc (v := 1) X (dcg dc_X12_writesJoined 116 rfl) rfl (by decide) (by decide) rfl ?_
    refine p_goto (tgt := 174) X (dcg dc_X12_writesJoined 117 rfl) (by decide) ?_
    refine p_pick [0, 5, 6] ?_
    exact k0 _ (Option.some.inj hf).symm
noncomputable def fX12_writesJoined_l174 (v0 : Nat) (v5 : Int32) (v6 : Int32) (h : PH) : Option PH := wh (fun z : (Int32 × Int32 × PH) => fX12_writesJoined_c174 v0 (z.1) (z.2.1) (z.2.2)) (v5, v6, h)
set_option maxRecDepth 100000 in
theorem mX12_writesJoined_l174 {v0 : Nat} {v5 : Int32} {v6 : Int32} {h : PH} {r : PH} (hf : fX12_writesJoined_l174 v0 v5 v6 h = some r) : eqz h (hX r) (hV r) := by
  unfold fX12_writesJoined_l174 at hf
  refine wh_ind (P := fun z => eqz (z.2.2) (hX r) (hV r)) (fun z x0 hs i1 i2 => ?_) _ hf
  obtain ⟨c0, cf⟩ := mX12_writesJoined_c174 (v0 := v0) (v5 := z.1) (v6 := z.2.1) (h := z.2.2) hs
  rcases hxx : x0 with zz | zz
  · exact eqz_tr (c0 zz hxx) (i1 zz hxx)
  · have ee := i2 zz hxx; subst ee; exact cf zz hxx
set_option maxRecDepth 100000 in
theorem wX12_writesJoined_l174 {E : PE} {p : Program} {l : Launch} {e : Env} {s : State} {m : MethodId} {args : Array Value} {below : List Frame} {meth : Method} {c : Code} (X : Cx E p l e (rmv 1 0 0) s m args below meth c RX12 cX12_writesJoined 8 (none)) (hG : Gs E l) (hnm : meth.name = yX12_writesJoined.name) {v0 : Nat} {v5 : Int32} {v6 : Int32} {h : PH} {r : PH} (hf : fX12_writesJoined_l174 v0 v5 v6 h = some r)  : PW E p l e (rmv 1 0 0) s m args below meth c 8 0 0 (MQ below (QG E (fun v u => v = none ∧ u = r)) args s 0 0 (pA E)) h 174 [(0, some (.ref v0)), (5, some (.int v5)), (6, some (.int v6))] [] := by
  unfold fX12_writesJoined_l174 at hf
  refine wh_ind (P := fun z => PW E p l e (rmv 1 0 0) s m args below meth c 8 0 0 (MQ below (QG E (fun v u => v = none ∧ u = r)) args s 0 0 (pA E)) (z.2.2) 174 [(0, some (.ref v0)), (5, some (.int (z.1))), (6, some (.int (z.2.1)))] []) (fun z x0 hs i1 i2 => ?_) _ hf
  exact wX12_writesJoined_c174 (r := r) (v0 := v0) (v5 := z.1) (v6 := z.2.1) (h := z.2.2) X hG hnm hs i1  i2
noncomputable def fX12_writesJoined_b144 (v0 : Nat) (v1 : Int32) (v3 : Int32) (v4 : Int32) (v5 : Int32) (h : PH) : Option ((Int32 × PH) ⊕ PH) :=
  gd (hK h v0 = 12) (gs (hR h 12 v0 30) (fun a41 =>
  gd (hK h a41 = 20 ∧ inb (((400 : Int32) * v1) + v5) (hN h a41)) (some (.inl ((hI h 20 a41 (Int32.toNatClampNeg (((400 : Int32) * v1) + v5))), h)))))
set_option maxRecDepth 100000 in
theorem mX12_writesJoined_b144 {v0 : Nat} {v1 : Int32} {v3 : Int32} {v4 : Int32} {v5 : Int32} {h : PH} {x : ((Int32 × PH) ⊕ PH)} (hf : fX12_writesJoined_b144 v0 v1 v3 v4 v5 h = some x) : (∀ w9 : (Int32 × PH), x = .inl w9 → eqz h (hX (w9.2)) (hV (w9.2))) ∧ (∀ w9 : PH, x = .inr w9 → eqz h (hX w9) (hV w9)) := by
  unfold fX12_writesJoined_b144 at hf
  have hle := eqz_rf h
  obtain ⟨hk40, hf⟩ := gd_some hf
  obtain ⟨a41, e42, hf⟩ := gs_some hf
  obtain ⟨⟨hk44, hb43⟩, hf⟩ := gd_some hf
  have ee := Option.some.inj hf; subst ee
  exact ⟨(fun z e => by have ee := Sum.inl.inj (e); subst ee; exact hle), (fun z e => nomatch e)⟩
set_option maxRecDepth 100000 in
theorem wX12_writesJoined_b144 {E : PE} {p : Program} {l : Launch} {e : Env} {s : State} {m : MethodId} {args : Array Value} {below : List Frame} {meth : Method} {c : Code} (X : Cx E p l e (rmv 1 0 0) s m args below meth c RX12 cX12_writesJoined 8 (none)) (hG : Gs E l) (hnm : meth.name = yX12_writesJoined.name) {v0 : Nat} {v1 : Int32} {v3 : Int32} {v4 : Int32} {v5 : Int32} {h : PH} {r : PH} {x : ((Int32 × PH) ⊕ PH)} (hf : fX12_writesJoined_b144 v0 v1 v3 v4 v5 h = some x) (k0 : ∀ z : (Int32 × PH), x = .inl z → PW E p l e (rmv 1 0 0) s m args below meth c 8 0 0 (MQ below (QG E (fun v u => v = none ∧ u = r)) args s 0 0 (pA E)) (z.2) 44 [(0, some (.ref v0)), (1, some (.int v1)), (3, some (.int v3)), (4, some (.int v4)), (5, some (.int (z.1)))] []) (kf : ∀ z : PH, x = .inr z → z = r) : PW E p l e (rmv 1 0 0) s m args below meth c 8 0 0 (MQ below (QG E (fun v u => v = none ∧ u = r)) args s 0 0 (pA E)) h 144 [(0, some (.ref v0)), (1, some (.int v1)), (3, some (.int v3)), (4, some (.int v4)), (5, some (.int v5))] [] := by
  unfold fX12_writesJoined_b144 at hf
  refine p_aload_n X (dcg dc_X12_writesJoined 77 rfl) rfl rfl ?_
  obtain ⟨hk40, hf⟩ := gd_some hf
  refine p_getR X fl_X12_75 rfl (by decide) (dcg dc_X12_writesJoined 78 rfl) hk40 ?_
  refine p_sipush (v := 400) X (dcg dc_X12_writesJoined 79 rfl) (by decide) ?_
  refine p_iload_n X (dcg dc_X12_writesJoined 80 rfl) rfl rfl ?_
  refine p_imul X (dcg dc_X12_writesJoined 81 rfl) ?_
  refine p_iload X (dcg dc_X12_writesJoined 82 rfl) rfl ?_
  refine p_iadd X (dcg dc_X12_writesJoined 83 rfl) ?_
  obtain ⟨a41, e42, hf⟩ := gs_some hf
  first | subst e42 | (try rw [e42])
  obtain ⟨⟨hk44, hb43⟩, hf⟩ := gd_some hf
  refine p_iald X (dcg dc_X12_writesJoined 84 rfl) hk44 (vp_of_inb hb43) ?_
  refine p_istore X (dcg dc_X12_writesJoined 85 rfl) (by decide) rfl ?_
  refine p_goto (tgt := 44) X (dcg dc_X12_writesJoined 86 rfl) (by decide) ?_
  refine p_pick [0, 1, 3, 4, 5] ?_
  exact k0 _ (Option.some.inj hf).symm
noncomputable def fX12_writesJoined_b127 (v0 : Nat) (v1 : Int32) (v3 : Int32) (v4 : Int32) (v5 : Int32) (v7 : Int32) (h : PH) : Option ((Int32 × PH) ⊕ PH) :=
  gd (hK h v0 = 12) (bd (fX12_lays v0 v5 h) (fun z39 =>
  if (v7 = 0) then (fX12_writesJoined_b144 v0 v1 v3 v4 v5 z39) else
  gd (hK z39 v0 = 12) (bd (fX12_lays v0 (-41 : Int32) z39) (fun z46 =>
  fX12_writesJoined_b144 v0 v1 v3 v4 v5 z46))))
set_option maxRecDepth 100000 in
theorem mX12_writesJoined_b127 {v0 : Nat} {v1 : Int32} {v3 : Int32} {v4 : Int32} {v5 : Int32} {v7 : Int32} {h : PH} {x : ((Int32 × PH) ⊕ PH)} (hf : fX12_writesJoined_b127 v0 v1 v3 v4 v5 v7 h = some x) : (∀ w9 : (Int32 × PH), x = .inl w9 → eqz h (hX (w9.2)) (hV (w9.2))) ∧ (∀ w9 : PH, x = .inr w9 → eqz h (hX w9) (hV w9)) := by
  unfold fX12_writesJoined_b127 at hf
  have hle := eqz_rf h
  obtain ⟨hk38, hf⟩ := gd_some hf
  obtain ⟨z39, hz39, hf⟩ := bd_some hf
  have hle := eqz_rt (mX12_lays hz39) hle
  rcases ite_or hf with ⟨q, hf⟩ | ⟨q, hf⟩
  · have hf := if_t q hf
    obtain ⟨c0, cf⟩ := mX12_writesJoined_b144 hf
    exact ⟨fun z e => eqz_rt (c0 z (e)) hle, fun z e => eqz_rt (cf z (e)) hle⟩
  · have hf := if_f q hf
    obtain ⟨hk45, hf⟩ := gd_some hf
    obtain ⟨z46, hz46, hf⟩ := bd_some hf
    have hle := eqz_rt (mX12_lays hz46) hle
    obtain ⟨c0, cf⟩ := mX12_writesJoined_b144 hf
    exact ⟨fun z e => eqz_rt (c0 z (e)) hle, fun z e => eqz_rt (cf z (e)) hle⟩
set_option maxRecDepth 100000 in
theorem wX12_writesJoined_b127 {E : PE} {p : Program} {l : Launch} {e : Env} {s : State} {m : MethodId} {args : Array Value} {below : List Frame} {meth : Method} {c : Code} (X : Cx E p l e (rmv 1 0 0) s m args below meth c RX12 cX12_writesJoined 8 (none)) (hG : Gs E l) (hnm : meth.name = yX12_writesJoined.name) {v0 : Nat} {v1 : Int32} {v3 : Int32} {v4 : Int32} {v5 : Int32} {v7 : Int32} {h : PH} {r : PH} {x : ((Int32 × PH) ⊕ PH)} (hf : fX12_writesJoined_b127 v0 v1 v3 v4 v5 v7 h = some x) (k0 : ∀ z : (Int32 × PH), x = .inl z → PW E p l e (rmv 1 0 0) s m args below meth c 8 0 0 (MQ below (QG E (fun v u => v = none ∧ u = r)) args s 0 0 (pA E)) (z.2) 44 [(0, some (.ref v0)), (1, some (.int v1)), (3, some (.int v3)), (4, some (.int v4)), (5, some (.int (z.1)))] []) (kf : ∀ z : PH, x = .inr z → z = r) : PW E p l e (rmv 1 0 0) s m args below meth c 8 0 0 (MQ below (QG E (fun v u => v = none ∧ u = r)) args s 0 0 (pA E)) h 127 [(0, some (.ref v0)), (1, some (.int v1)), (3, some (.int v3)), (4, some (.int v4)), (5, some (.int v5)), (7, some (.int v7))] [] := by
  unfold fX12_writesJoined_b127 at hf
  refine p_aload_n X (dcg dc_X12_writesJoined 69 rfl) rfl rfl ?_
  refine p_iload X (dcg dc_X12_writesJoined 70 rfl) rfl ?_
  obtain ⟨hk38, hf⟩ := gd_some hf
  obtain ⟨z39, hz39, hf⟩ := bd_some hf
  refine p_callV (As := [_]) X ml_X12_394 (dcg dc_X12_writesJoined 71 rfl) rfl rfl hk38 (wX12_lays hG hz39) (by decide) (room4 (Nat.le_of_ble_eq_true rfl)) (Nat.le_refl _) (Nat.le_refl _) ?_
  rintro _ u9 ⟨rfl, e9⟩; have e9 := e9.symm; subst e9
  refine p_iload X (dcg dc_X12_writesJoined 72 rfl) rfl ?_
  refine p_if_eq (tgt := 144) X (dcg dc_X12_writesJoined 73 rfl) (by decide) (fun q => ?_) (fun q => ?_)
  · have hf := if_t q hf
    refine p_pick [0, 1, 3, 4, 5] ?_
    exact wX12_writesJoined_b144 X hG hnm hf k0 kf
  · have hf := if_f q hf
    refine p_aload_n X (dcg dc_X12_writesJoined 74 rfl) rfl rfl ?_
    refine p_bipush (v := -41) X (dcg dc_X12_writesJoined 75 rfl) (by decide) ?_
    obtain ⟨hk45, hf⟩ := gd_some hf
    obtain ⟨z46, hz46, hf⟩ := bd_some hf
    refine p_callV (As := [_]) X ml_X12_394 (dcg dc_X12_writesJoined 76 rfl) rfl rfl hk45 (wX12_lays hG hz46) (by decide) (room4 (Nat.le_of_ble_eq_true rfl)) (Nat.le_refl _) (Nat.le_refl _) ?_
    rintro _ u9 ⟨rfl, e9⟩; have e9 := e9.symm; subst e9
    refine p_pick [0, 1, 3, 4, 5] ?_
    exact wX12_writesJoined_b144 X hG hnm hf k0 kf
noncomputable def fX12_writesJoined_b116 (v0 : Nat) (v1 : Int32) (v3 : Int32) (v4 : Int32) (v5 : Int32) (v7 : Int32) (h : PH) : Option ((Int32 × PH) ⊕ PH) :=
  if (v7 = 0) then (fX12_writesJoined_b127 v0 v1 v3 v4 v5 v7 h) else
  gd (hK h v0 = 12) (bd (fX12_lays v0 (-40 : Int32) h) (fun z48 =>
  fX12_writesJoined_b127 v0 v1 v3 v4 v5 v7 z48))
set_option maxRecDepth 100000 in
theorem mX12_writesJoined_b116 {v0 : Nat} {v1 : Int32} {v3 : Int32} {v4 : Int32} {v5 : Int32} {v7 : Int32} {h : PH} {x : ((Int32 × PH) ⊕ PH)} (hf : fX12_writesJoined_b116 v0 v1 v3 v4 v5 v7 h = some x) : (∀ w9 : (Int32 × PH), x = .inl w9 → eqz h (hX (w9.2)) (hV (w9.2))) ∧ (∀ w9 : PH, x = .inr w9 → eqz h (hX w9) (hV w9)) := by
  unfold fX12_writesJoined_b116 at hf
  have hle := eqz_rf h
  rcases ite_or hf with ⟨q, hf⟩ | ⟨q, hf⟩
  · have hf := if_t q hf
    obtain ⟨c0, cf⟩ := mX12_writesJoined_b127 hf
    exact ⟨fun z e => eqz_rt (c0 z (e)) hle, fun z e => eqz_rt (cf z (e)) hle⟩
  · have hf := if_f q hf
    obtain ⟨hk47, hf⟩ := gd_some hf
    obtain ⟨z48, hz48, hf⟩ := bd_some hf
    have hle := eqz_rt (mX12_lays hz48) hle
    obtain ⟨c0, cf⟩ := mX12_writesJoined_b127 hf
    exact ⟨fun z e => eqz_rt (c0 z (e)) hle, fun z e => eqz_rt (cf z (e)) hle⟩
set_option maxRecDepth 100000 in
theorem wX12_writesJoined_b116 {E : PE} {p : Program} {l : Launch} {e : Env} {s : State} {m : MethodId} {args : Array Value} {below : List Frame} {meth : Method} {c : Code} (X : Cx E p l e (rmv 1 0 0) s m args below meth c RX12 cX12_writesJoined 8 (none)) (hG : Gs E l) (hnm : meth.name = yX12_writesJoined.name) {v0 : Nat} {v1 : Int32} {v3 : Int32} {v4 : Int32} {v5 : Int32} {v7 : Int32} {h : PH} {r : PH} {x : ((Int32 × PH) ⊕ PH)} (hf : fX12_writesJoined_b116 v0 v1 v3 v4 v5 v7 h = some x) (k0 : ∀ z : (Int32 × PH), x = .inl z → PW E p l e (rmv 1 0 0) s m args below meth c 8 0 0 (MQ below (QG E (fun v u => v = none ∧ u = r)) args s 0 0 (pA E)) (z.2) 44 [(0, some (.ref v0)), (1, some (.int v1)), (3, some (.int v3)), (4, some (.int v4)), (5, some (.int (z.1)))] []) (kf : ∀ z : PH, x = .inr z → z = r) : PW E p l e (rmv 1 0 0) s m args below meth c 8 0 0 (MQ below (QG E (fun v u => v = none ∧ u = r)) args s 0 0 (pA E)) h 116 [(0, some (.ref v0)), (1, some (.int v1)), (3, some (.int v3)), (4, some (.int v4)), (5, some (.int v5)), (7, some (.int v7))] [] := by
  unfold fX12_writesJoined_b116 at hf
  refine p_iload X (dcg dc_X12_writesJoined 64 rfl) rfl ?_
  refine p_if_eq (tgt := 127) X (dcg dc_X12_writesJoined 65 rfl) (by decide) (fun q => ?_) (fun q => ?_)
  · have hf := if_t q hf
    refine p_pick [0, 1, 3, 4, 5, 7] ?_
    exact wX12_writesJoined_b127 X hG hnm hf k0 kf
  · have hf := if_f q hf
    refine p_aload_n X (dcg dc_X12_writesJoined 66 rfl) rfl rfl ?_
    refine p_bipush (v := -40) X (dcg dc_X12_writesJoined 67 rfl) (by decide) ?_
    obtain ⟨hk47, hf⟩ := gd_some hf
    obtain ⟨z48, hz48, hf⟩ := bd_some hf
    refine p_callV (As := [_]) X ml_X12_394 (dcg dc_X12_writesJoined 68 rfl) rfl rfl hk47 (wX12_lays hG hz48) (by decide) (room4 (Nat.le_of_ble_eq_true rfl)) (Nat.le_refl _) (Nat.le_refl _) ?_
    rintro _ u9 ⟨rfl, e9⟩; have e9 := e9.symm; subst e9
    refine p_pick [0, 1, 3, 4, 5, 7] ?_
    exact wX12_writesJoined_b127 X hG hnm hf k0 kf
noncomputable def fX12_writesJoined_b113 (v0 : Nat) (v1 : Int32) (v3 : Int32) (v4 : Int32) (v5 : Int32) (v7 : Int32) (t0 : Option Nat) (t1 : Int32) (h : PH) : Option ((Int32 × PH) ⊕ PH) :=
  gs t0 (fun a49 =>
  gd (hK h a49 = 12) (bd (fX12_lays a49 t1 h) (fun z52 =>
  fX12_writesJoined_b116 v0 v1 v3 v4 v5 v7 z52)))
set_option maxRecDepth 100000 in
theorem mX12_writesJoined_b113 {v0 : Nat} {v1 : Int32} {v3 : Int32} {v4 : Int32} {v5 : Int32} {v7 : Int32} {t0 : Option Nat} {t1 : Int32} {h : PH} {x : ((Int32 × PH) ⊕ PH)} (hf : fX12_writesJoined_b113 v0 v1 v3 v4 v5 v7 t0 t1 h = some x) : (∀ w9 : (Int32 × PH), x = .inl w9 → eqz h (hX (w9.2)) (hV (w9.2))) ∧ (∀ w9 : PH, x = .inr w9 → eqz h (hX w9) (hV w9)) := by
  unfold fX12_writesJoined_b113 at hf
  have hle := eqz_rf h
  obtain ⟨a49, e50, hf⟩ := gs_some hf
  obtain ⟨hk51, hf⟩ := gd_some hf
  obtain ⟨z52, hz52, hf⟩ := bd_some hf
  have hle := eqz_rt (mX12_lays hz52) hle
  obtain ⟨c0, cf⟩ := mX12_writesJoined_b116 hf
  exact ⟨fun z e => eqz_rt (c0 z (e)) hle, fun z e => eqz_rt (cf z (e)) hle⟩
set_option maxRecDepth 100000 in
theorem wX12_writesJoined_b113 {E : PE} {p : Program} {l : Launch} {e : Env} {s : State} {m : MethodId} {args : Array Value} {below : List Frame} {meth : Method} {c : Code} (X : Cx E p l e (rmv 1 0 0) s m args below meth c RX12 cX12_writesJoined 8 (none)) (hG : Gs E l) (hnm : meth.name = yX12_writesJoined.name) {v0 : Nat} {v1 : Int32} {v3 : Int32} {v4 : Int32} {v5 : Int32} {v7 : Int32} {t0 : Option Nat} {t1 : Int32} {h : PH} {r : PH} {x : ((Int32 × PH) ⊕ PH)} (hf : fX12_writesJoined_b113 v0 v1 v3 v4 v5 v7 t0 t1 h = some x) (k0 : ∀ z : (Int32 × PH), x = .inl z → PW E p l e (rmv 1 0 0) s m args below meth c 8 0 0 (MQ below (QG E (fun v u => v = none ∧ u = r)) args s 0 0 (pA E)) (z.2) 44 [(0, some (.ref v0)), (1, some (.int v1)), (3, some (.int v3)), (4, some (.int v4)), (5, some (.int (z.1)))] []) (kf : ∀ z : PH, x = .inr z → z = r) : PW E p l e (rmv 1 0 0) s m args below meth c 8 0 0 (MQ below (QG E (fun v u => v = none ∧ u = r)) args s 0 0 (pA E)) h 113 [(0, some (.ref v0)), (1, some (.int v1)), (3, some (.int v3)), (4, some (.int v4)), (5, some (.int v5)), (7, some (.int v7))] [.int t1, va_rf t0] := by
  unfold fX12_writesJoined_b113 at hf
  obtain ⟨a49, e50, hf⟩ := gs_some hf
  first | subst e50 | (try rw [e50])
  obtain ⟨hk51, hf⟩ := gd_some hf
  obtain ⟨z52, hz52, hf⟩ := bd_some hf
  refine p_callV (As := [_]) X ml_X12_394 (dcg dc_X12_writesJoined 63 rfl) rfl rfl hk51 (wX12_lays hG hz52) (by decide) (room4 (Nat.le_of_ble_eq_true rfl)) (Nat.le_refl _) (Nat.le_refl _) ?_
  rintro _ u9 ⟨rfl, e9⟩; have e9 := e9.symm; subst e9
  refine p_pick [0, 1, 3, 4, 5, 7] ?_
  exact wX12_writesJoined_b116 X hG hnm hf k0 kf
noncomputable def fX12_writesJoined_b89 (v0 : Nat) (v1 : Int32) (v3 : Int32) (v4 : Int32) (v5 : Int32) (t0 : Int32) (h : PH) : Option ((Int32 × PH) ⊕ PH) :=
  gd (hK h v0 = 12) (if ((hI h 12 v0 57) ≤ v4) then (fX12_writesJoined_b116 v0 v1 v3 v4 v5 t0 h) else
  if (¬ v3 = (5 : Int32)) then (fX12_writesJoined_b113 v0 v1 v3 v4 v5 t0 (some v0) (-124 : Int32) h) else
  fX12_writesJoined_b113 v0 v1 v3 v4 v5 t0 (some v0) (-38 : Int32) h)
set_option maxRecDepth 100000 in
theorem mX12_writesJoined_b89 {v0 : Nat} {v1 : Int32} {v3 : Int32} {v4 : Int32} {v5 : Int32} {t0 : Int32} {h : PH} {x : ((Int32 × PH) ⊕ PH)} (hf : fX12_writesJoined_b89 v0 v1 v3 v4 v5 t0 h = some x) : (∀ w9 : (Int32 × PH), x = .inl w9 → eqz h (hX (w9.2)) (hV (w9.2))) ∧ (∀ w9 : PH, x = .inr w9 → eqz h (hX w9) (hV w9)) := by
  unfold fX12_writesJoined_b89 at hf
  have hle := eqz_rf h
  obtain ⟨hk37, hf⟩ := gd_some hf
  rcases ite_or hf with ⟨q, hf⟩ | ⟨q, hf⟩
  · have hf := if_t q hf
    obtain ⟨c0, cf⟩ := mX12_writesJoined_b116 hf
    exact ⟨fun z e => eqz_rt (c0 z (e)) hle, fun z e => eqz_rt (cf z (e)) hle⟩
  · have hf := if_f q hf
    rcases ite_or hf with ⟨q, hf⟩ | ⟨q, hf⟩
    · have hf := if_t q hf
      obtain ⟨c0, cf⟩ := mX12_writesJoined_b113 hf
      exact ⟨fun z e => eqz_rt (c0 z (e)) hle, fun z e => eqz_rt (cf z (e)) hle⟩
    · have hf := if_f q hf
      obtain ⟨c0, cf⟩ := mX12_writesJoined_b113 hf
      exact ⟨fun z e => eqz_rt (c0 z (e)) hle, fun z e => eqz_rt (cf z (e)) hle⟩
set_option maxRecDepth 100000 in
theorem wX12_writesJoined_b89 {E : PE} {p : Program} {l : Launch} {e : Env} {s : State} {m : MethodId} {args : Array Value} {below : List Frame} {meth : Method} {c : Code} (X : Cx E p l e (rmv 1 0 0) s m args below meth c RX12 cX12_writesJoined 8 (none)) (hG : Gs E l) (hnm : meth.name = yX12_writesJoined.name) {v0 : Nat} {v1 : Int32} {v3 : Int32} {v4 : Int32} {v5 : Int32} {t0 : Int32} {h : PH} {r : PH} {x : ((Int32 × PH) ⊕ PH)} (hf : fX12_writesJoined_b89 v0 v1 v3 v4 v5 t0 h = some x) (k0 : ∀ z : (Int32 × PH), x = .inl z → PW E p l e (rmv 1 0 0) s m args below meth c 8 0 0 (MQ below (QG E (fun v u => v = none ∧ u = r)) args s 0 0 (pA E)) (z.2) 44 [(0, some (.ref v0)), (1, some (.int v1)), (3, some (.int v3)), (4, some (.int v4)), (5, some (.int (z.1)))] []) (kf : ∀ z : PH, x = .inr z → z = r) : PW E p l e (rmv 1 0 0) s m args below meth c 8 0 0 (MQ below (QG E (fun v u => v = none ∧ u = r)) args s 0 0 (pA E)) h 89 [(0, some (.ref v0)), (1, some (.int v1)), (3, some (.int v3)), (4, some (.int v4)), (5, some (.int v5))] [.int t0] := by
  unfold fX12_writesJoined_b89 at hf
  refine p_istore X (dcg dc_X12_writesJoined 51 rfl) (by decide) rfl ?_
  refine p_aload_n X (dcg dc_X12_writesJoined 52 rfl) rfl rfl ?_
  obtain ⟨hk37, hf⟩ := gd_some hf
  refine p_getI X fl_X12_388 rfl (by decide) (dcg dc_X12_writesJoined 53 rfl) hk37 ?_
  refine p_iload X (dcg dc_X12_writesJoined 54 rfl) rfl ?_
  refine p_icmp_le (tgt := 116) X (dcg dc_X12_writesJoined 55 rfl) (by decide) (fun q => ?_) (fun q => ?_)
  · have hf := if_t q hf
    refine p_pick [0, 1, 3, 4, 5, 7] ?_
    exact wX12_writesJoined_b116 X hG hnm hf k0 kf
  · have hf := if_f q hf
    refine p_aload_n X (dcg dc_X12_writesJoined 56 rfl) rfl rfl ?_
    refine p_iload_n X (dcg dc_X12_writesJoined 57 rfl) rfl rfl ?_
    refine p_iconst (v := 5) X (dcg dc_X12_writesJoined 58 rfl) (by decide) ?_
    refine p_icmp_ne (tgt := 111) X (dcg dc_X12_writesJoined 59 rfl) (by decide) (fun q => ?_) (fun q => ?_)
    · have hf := if_t q hf
      refine p_bipush (v := -124) X (dcg dc_X12_writesJoined 62 rfl) (by decide) ?_
      refine p_pick [0, 1, 3, 4, 5, 7] ?_
      exact wX12_writesJoined_b113 X hG hnm hf k0 kf
    · have hf := if_f q hf
      refine p_bipush (v := -38) X (dcg dc_X12_writesJoined 60 rfl) (by decide) ?_
      refine p_goto (tgt := 113) X (dcg dc_X12_writesJoined 61 rfl) (by decide) ?_
      refine p_pick [0, 1, 3, 4, 5, 7] ?_
      exact wX12_writesJoined_b113 X hG hnm hf k0 kf
noncomputable def fX12_writesJoined_b84 (v0 : Nat) (v1 : Int32) (v3 : Int32) (v4 : Int32) (v5 : Int32) (h : PH) : Option ((Int32 × PH) ⊕ PH) :=
  fX12_writesJoined_b89 v0 v1 v3 v4 v5 (1 : Int32) h
set_option maxRecDepth 100000 in
theorem mX12_writesJoined_b84 {v0 : Nat} {v1 : Int32} {v3 : Int32} {v4 : Int32} {v5 : Int32} {h : PH} {x : ((Int32 × PH) ⊕ PH)} (hf : fX12_writesJoined_b84 v0 v1 v3 v4 v5 h = some x) : (∀ w9 : (Int32 × PH), x = .inl w9 → eqz h (hX (w9.2)) (hV (w9.2))) ∧ (∀ w9 : PH, x = .inr w9 → eqz h (hX w9) (hV w9)) := by
  unfold fX12_writesJoined_b84 at hf
  have hle := eqz_rf h
  obtain ⟨c0, cf⟩ := mX12_writesJoined_b89 hf
  exact ⟨fun z e => eqz_rt (c0 z (e)) hle, fun z e => eqz_rt (cf z (e)) hle⟩
set_option maxRecDepth 100000 in
theorem wX12_writesJoined_b84 {E : PE} {p : Program} {l : Launch} {e : Env} {s : State} {m : MethodId} {args : Array Value} {below : List Frame} {meth : Method} {c : Code} (X : Cx E p l e (rmv 1 0 0) s m args below meth c RX12 cX12_writesJoined 8 (none)) (hG : Gs E l) (hnm : meth.name = yX12_writesJoined.name) {v0 : Nat} {v1 : Int32} {v3 : Int32} {v4 : Int32} {v5 : Int32} {h : PH} {r : PH} {x : ((Int32 × PH) ⊕ PH)} (hf : fX12_writesJoined_b84 v0 v1 v3 v4 v5 h = some x) (k0 : ∀ z : (Int32 × PH), x = .inl z → PW E p l e (rmv 1 0 0) s m args below meth c 8 0 0 (MQ below (QG E (fun v u => v = none ∧ u = r)) args s 0 0 (pA E)) (z.2) 44 [(0, some (.ref v0)), (1, some (.int v1)), (3, some (.int v3)), (4, some (.int v4)), (5, some (.int (z.1)))] []) (kf : ∀ z : PH, x = .inr z → z = r) : PW E p l e (rmv 1 0 0) s m args below meth c 8 0 0 (MQ below (QG E (fun v u => v = none ∧ u = r)) args s 0 0 (pA E)) h 84 [(0, some (.ref v0)), (1, some (.int v1)), (3, some (.int v3)), (4, some (.int v4)), (5, some (.int v5))] [] := by
  unfold fX12_writesJoined_b84 at hf
  refine p_iconst (v := 1) X (dcg dc_X12_writesJoined 48 rfl) (by decide) ?_
  refine p_goto (tgt := 89) X (dcg dc_X12_writesJoined 49 rfl) (by decide) ?_
  refine p_pick [0, 1, 3, 4, 5] ?_
  exact wX12_writesJoined_b89 X hG hnm hf k0 kf
noncomputable def fX12_writesJoined_b88 (v0 : Nat) (v1 : Int32) (v3 : Int32) (v4 : Int32) (v5 : Int32) (h : PH) : Option ((Int32 × PH) ⊕ PH) :=
  fX12_writesJoined_b89 v0 v1 v3 v4 v5 (0 : Int32) h
set_option maxRecDepth 100000 in
theorem mX12_writesJoined_b88 {v0 : Nat} {v1 : Int32} {v3 : Int32} {v4 : Int32} {v5 : Int32} {h : PH} {x : ((Int32 × PH) ⊕ PH)} (hf : fX12_writesJoined_b88 v0 v1 v3 v4 v5 h = some x) : (∀ w9 : (Int32 × PH), x = .inl w9 → eqz h (hX (w9.2)) (hV (w9.2))) ∧ (∀ w9 : PH, x = .inr w9 → eqz h (hX w9) (hV w9)) := by
  unfold fX12_writesJoined_b88 at hf
  have hle := eqz_rf h
  obtain ⟨c0, cf⟩ := mX12_writesJoined_b89 hf
  exact ⟨fun z e => eqz_rt (c0 z (e)) hle, fun z e => eqz_rt (cf z (e)) hle⟩
set_option maxRecDepth 100000 in
theorem wX12_writesJoined_b88 {E : PE} {p : Program} {l : Launch} {e : Env} {s : State} {m : MethodId} {args : Array Value} {below : List Frame} {meth : Method} {c : Code} (X : Cx E p l e (rmv 1 0 0) s m args below meth c RX12 cX12_writesJoined 8 (none)) (hG : Gs E l) (hnm : meth.name = yX12_writesJoined.name) {v0 : Nat} {v1 : Int32} {v3 : Int32} {v4 : Int32} {v5 : Int32} {h : PH} {r : PH} {x : ((Int32 × PH) ⊕ PH)} (hf : fX12_writesJoined_b88 v0 v1 v3 v4 v5 h = some x) (k0 : ∀ z : (Int32 × PH), x = .inl z → PW E p l e (rmv 1 0 0) s m args below meth c 8 0 0 (MQ below (QG E (fun v u => v = none ∧ u = r)) args s 0 0 (pA E)) (z.2) 44 [(0, some (.ref v0)), (1, some (.int v1)), (3, some (.int v3)), (4, some (.int v4)), (5, some (.int (z.1)))] []) (kf : ∀ z : PH, x = .inr z → z = r) : PW E p l e (rmv 1 0 0) s m args below meth c 8 0 0 (MQ below (QG E (fun v u => v = none ∧ u = r)) args s 0 0 (pA E)) h 88 [(0, some (.ref v0)), (1, some (.int v1)), (3, some (.int v3)), (4, some (.int v4)), (5, some (.int v5))] [] := by
  unfold fX12_writesJoined_b88 at hf
  refine p_iconst (v := 0) X (dcg dc_X12_writesJoined 50 rfl) (by decide) ?_
  refine p_pick [0, 1, 3, 4, 5] ?_
  exact wX12_writesJoined_b89 X hG hnm hf k0 kf
noncomputable def fX12_writesJoined_c44 (v0 : Nat) (v1 : Int32) (v3 : Int32) (v4 : Int32) (v5 : Int32) (h : PH) : Option ((Int32 × PH) ⊕ PH) :=
  if (v5 = (-1 : Int32)) then (mr (gd (hK h v0 = 12) (fX12_writesJoined_l174 v0 v4 ((hI h 12 v0 57) - (1 : Int32)) h))) else
  gd (hK h v0 = 12) (gs (hR h 12 v0 25) (fun a33 =>
  gd (hK h a33 = 20 ∧ inb (((400 : Int32) * v1) + v5) (hN h a33)) (if ((hI h 20 a33 (Int32.toNatClampNeg (((400 : Int32) * v1) + v5))) = (6 : Int32)) then (fX12_writesJoined_b84 v0 v1 v3 v4 v5 h) else
  if (¬ (hI h 20 a33 (Int32.toNatClampNeg (((400 : Int32) * v1) + v5))) = (5 : Int32)) then (fX12_writesJoined_b88 v0 v1 v3 v4 v5 h) else
  if (v3 = (6 : Int32)) then (fX12_writesJoined_b88 v0 v1 v3 v4 v5 h) else
  fX12_writesJoined_b84 v0 v1 v3 v4 v5 h)))
set_option maxRecDepth 100000 in
theorem mX12_writesJoined_c44 {v0 : Nat} {v1 : Int32} {v3 : Int32} {v4 : Int32} {v5 : Int32} {h : PH} {x : ((Int32 × PH) ⊕ PH)} (hf : fX12_writesJoined_c44 v0 v1 v3 v4 v5 h = some x) : (∀ w9 : (Int32 × PH), x = .inl w9 → eqz h (hX (w9.2)) (hV (w9.2))) ∧ (∀ w9 : PH, x = .inr w9 → eqz h (hX w9) (hV w9)) := by
  unfold fX12_writesJoined_c44 at hf
  have hle := eqz_rf h
  rcases ite_or hf with ⟨q, hf⟩ | ⟨q, hf⟩
  · have hf := if_t q hf
    obtain ⟨y11, hfm, rfl⟩ := mr_some hf; have hf := hfm; clear hfm
    obtain ⟨hk13, hf⟩ := gd_some hf
    have cf := mX12_writesJoined_l174 hf
    exact ⟨(fun z e => nomatch e), (fun z e => by cases e <;> exact eqz_rt cf hle)⟩
  · have hf := if_f q hf
    obtain ⟨hk32, hf⟩ := gd_some hf
    obtain ⟨a33, e34, hf⟩ := gs_some hf
    obtain ⟨⟨hk36, hb35⟩, hf⟩ := gd_some hf
    rcases ite_or hf with ⟨q, hf⟩ | ⟨q, hf⟩
    · have hf := if_t q hf
      obtain ⟨c0, cf⟩ := mX12_writesJoined_b84 hf
      exact ⟨fun z e => eqz_rt (c0 z (e)) hle, fun z e => eqz_rt (cf z (e)) hle⟩
    · have hf := if_f q hf
      rcases ite_or hf with ⟨q, hf⟩ | ⟨q, hf⟩
      · have hf := if_t q hf
        obtain ⟨c0, cf⟩ := mX12_writesJoined_b88 hf
        exact ⟨fun z e => eqz_rt (c0 z (e)) hle, fun z e => eqz_rt (cf z (e)) hle⟩
      · have hf := if_f q hf
        rcases ite_or hf with ⟨q, hf⟩ | ⟨q, hf⟩
        · have hf := if_t q hf
          obtain ⟨c0, cf⟩ := mX12_writesJoined_b88 hf
          exact ⟨fun z e => eqz_rt (c0 z (e)) hle, fun z e => eqz_rt (cf z (e)) hle⟩
        · have hf := if_f q hf
          obtain ⟨c0, cf⟩ := mX12_writesJoined_b84 hf
          exact ⟨fun z e => eqz_rt (c0 z (e)) hle, fun z e => eqz_rt (cf z (e)) hle⟩
set_option maxRecDepth 100000 in
theorem wX12_writesJoined_c44 {E : PE} {p : Program} {l : Launch} {e : Env} {s : State} {m : MethodId} {args : Array Value} {below : List Frame} {meth : Method} {c : Code} (X : Cx E p l e (rmv 1 0 0) s m args below meth c RX12 cX12_writesJoined 8 (none)) (hG : Gs E l) (hnm : meth.name = yX12_writesJoined.name) {v0 : Nat} {v1 : Int32} {v3 : Int32} {v4 : Int32} {v5 : Int32} {h : PH} {r : PH} {x : ((Int32 × PH) ⊕ PH)} (hf : fX12_writesJoined_c44 v0 v1 v3 v4 v5 h = some x) (k0 : ∀ z : (Int32 × PH), x = .inl z → PW E p l e (rmv 1 0 0) s m args below meth c 8 0 0 (MQ below (QG E (fun v u => v = none ∧ u = r)) args s 0 0 (pA E)) (z.2) 44 [(0, some (.ref v0)), (1, some (.int v1)), (3, some (.int v3)), (4, some (.int v4)), (5, some (.int (z.1)))] []) (kf : ∀ z : PH, x = .inr z → z = r) : PW E p l e (rmv 1 0 0) s m args below meth c 8 0 0 (MQ below (QG E (fun v u => v = none ∧ u = r)) args s 0 0 (pA E)) h 44 [(0, some (.ref v0)), (1, some (.int v1)), (3, some (.int v3)), (4, some (.int v4)), (5, some (.int v5))] [] := by
  unfold fX12_writesJoined_c44 at hf
  refine p_iload X (dcg dc_X12_writesJoined 27 rfl) rfl ?_
  refine p_iconst (v := -1) X (dcg dc_X12_writesJoined 28 rfl) (by decide) ?_
  refine p_icmp_eq (tgt := 162) X (dcg dc_X12_writesJoined 29 rfl) (by decide) (fun q => ?_) (fun q => ?_)
  · have hf := if_t q hf
    obtain ⟨y11, hf, hy12⟩ := mr_some hf
    have hy12f := kf y11 hy12
    subst hy12f
    refine p_iload X (dcg dc_X12_writesJoined 87 rfl) rfl ?_
    refine p_istore X (dcg dc_X12_writesJoined 88 rfl) (by decide) rfl ?_
    refine p_aload_n X (dcg dc_X12_writesJoined 89 rfl) rfl rfl ?_
    obtain ⟨hk13, hf⟩ := gd_some hf
    refine p_getI X fl_X12_388 rfl (by decide) (dcg dc_X12_writesJoined 90 rfl) hk13 ?_
    refine p_iconst (v := 1) X (dcg dc_X12_writesJoined 91 rfl) (by decide) ?_
    refine p_isub X (dcg dc_X12_writesJoined 92 rfl) ?_
    refine p_istore X (dcg dc_X12_writesJoined 93 rfl) (by decide) rfl ?_
    refine p_pick [0, 5, 6] ?_
    exact wX12_writesJoined_l174 X hG hnm hf 
  · have hf := if_f q hf
    refine p_aload_n X (dcg dc_X12_writesJoined 30 rfl) rfl rfl ?_
    obtain ⟨hk32, hf⟩ := gd_some hf
    refine p_getR X fl_X12_60 rfl (by decide) (dcg dc_X12_writesJoined 31 rfl) hk32 ?_
    refine p_sipush (v := 400) X (dcg dc_X12_writesJoined 32 rfl) (by decide) ?_
    refine p_iload_n X (dcg dc_X12_writesJoined 33 rfl) rfl rfl ?_
    refine p_imul X (dcg dc_X12_writesJoined 34 rfl) ?_
    refine p_iload X (dcg dc_X12_writesJoined 35 rfl) rfl ?_
    refine p_iadd X (dcg dc_X12_writesJoined 36 rfl) ?_
    obtain ⟨a33, e34, hf⟩ := gs_some hf
    first | subst e34 | (try rw [e34])
    obtain ⟨⟨hk36, hb35⟩, hf⟩ := gd_some hf
    refine p_iald X (dcg dc_X12_writesJoined 37 rfl) hk36 (vp_of_inb hb35) ?_
    refine p_istore X (dcg dc_X12_writesJoined 38 rfl) (by decide) rfl ?_
    refine p_iload X (dcg dc_X12_writesJoined 39 rfl) rfl ?_
    refine p_bipush (v := 6) X (dcg dc_X12_writesJoined 40 rfl) (by decide) ?_
    refine p_icmp_eq (tgt := 84) X (dcg dc_X12_writesJoined 41 rfl) (by decide) (fun q => ?_) (fun q => ?_)
    · have hf := if_t q hf
      refine p_pick [0, 1, 3, 4, 5] ?_
      exact wX12_writesJoined_b84 X hG hnm hf k0 kf
    · have hf := if_f q hf
      refine p_iload X (dcg dc_X12_writesJoined 42 rfl) rfl ?_
      refine p_iconst (v := 5) X (dcg dc_X12_writesJoined 43 rfl) (by decide) ?_
      refine p_icmp_ne (tgt := 88) X (dcg dc_X12_writesJoined 44 rfl) (by decide) (fun q => ?_) (fun q => ?_)
      · have hf := if_t q hf
        refine p_pick [0, 1, 3, 4, 5] ?_
        exact wX12_writesJoined_b88 X hG hnm hf k0 kf
      · have hf := if_f q hf
        refine p_iload_n X (dcg dc_X12_writesJoined 45 rfl) rfl rfl ?_
        refine p_bipush (v := 6) X (dcg dc_X12_writesJoined 46 rfl) (by decide) ?_
        refine p_icmp_eq (tgt := 88) X (dcg dc_X12_writesJoined 47 rfl) (by decide) (fun q => ?_) (fun q => ?_)
        · have hf := if_t q hf
          refine p_pick [0, 1, 3, 4, 5] ?_
          exact wX12_writesJoined_b88 X hG hnm hf k0 kf
        · have hf := if_f q hf
          refine p_pick [0, 1, 3, 4, 5] ?_
          exact wX12_writesJoined_b84 X hG hnm hf k0 kf
noncomputable def fX12_writesJoined_l44 (v0 : Nat) (v1 : Int32) (v3 : Int32) (v4 : Int32) (v5 : Int32) (h : PH) : Option PH := wh (fun z : (Int32 × PH) => fX12_writesJoined_c44 v0 v1 v3 v4 (z.1) (z.2)) (v5, h)
set_option maxRecDepth 100000 in
theorem mX12_writesJoined_l44 {v0 : Nat} {v1 : Int32} {v3 : Int32} {v4 : Int32} {v5 : Int32} {h : PH} {r : PH} (hf : fX12_writesJoined_l44 v0 v1 v3 v4 v5 h = some r) : eqz h (hX r) (hV r) := by
  unfold fX12_writesJoined_l44 at hf
  refine wh_ind (P := fun z => eqz (z.2) (hX r) (hV r)) (fun z x0 hs i1 i2 => ?_) _ hf
  obtain ⟨c0, cf⟩ := mX12_writesJoined_c44 (v0 := v0) (v1 := v1) (v3 := v3) (v4 := v4) (v5 := z.1) (h := z.2) hs
  rcases hxx : x0 with zz | zz
  · exact eqz_tr (c0 zz hxx) (i1 zz hxx)
  · have ee := i2 zz hxx; subst ee; exact cf zz hxx
set_option maxRecDepth 100000 in
theorem wX12_writesJoined_l44 {E : PE} {p : Program} {l : Launch} {e : Env} {s : State} {m : MethodId} {args : Array Value} {below : List Frame} {meth : Method} {c : Code} (X : Cx E p l e (rmv 1 0 0) s m args below meth c RX12 cX12_writesJoined 8 (none)) (hG : Gs E l) (hnm : meth.name = yX12_writesJoined.name) {v0 : Nat} {v1 : Int32} {v3 : Int32} {v4 : Int32} {v5 : Int32} {h : PH} {r : PH} (hf : fX12_writesJoined_l44 v0 v1 v3 v4 v5 h = some r)  : PW E p l e (rmv 1 0 0) s m args below meth c 8 0 0 (MQ below (QG E (fun v u => v = none ∧ u = r)) args s 0 0 (pA E)) h 44 [(0, some (.ref v0)), (1, some (.int v1)), (3, some (.int v3)), (4, some (.int v4)), (5, some (.int v5))] [] := by
  unfold fX12_writesJoined_l44 at hf
  refine wh_ind (P := fun z => PW E p l e (rmv 1 0 0) s m args below meth c 8 0 0 (MQ below (QG E (fun v u => v = none ∧ u = r)) args s 0 0 (pA E)) (z.2) 44 [(0, some (.ref v0)), (1, some (.int v1)), (3, some (.int v3)), (4, some (.int v4)), (5, some (.int (z.1)))] []) (fun z x0 hs i1 i2 => ?_) _ hf
  exact wX12_writesJoined_c44 (r := r) (v0 := v0) (v1 := v1) (v3 := v3) (v4 := v4) (v5 := z.1) (h := z.2) X hG hnm hs i1  i2
noncomputable def fX12_writesJoined_b24 (v0 : Nat) (v1 : Int32) (v2 : Int32) (v3 : Int32) (h : PH) : Option PH :=
  gd (hK h v0 = 12) (gs (hR h 12 v0 29) (fun a7 =>
  gd (hK h a7 = 20 ∧ inb (((400 : Int32) * v1) + v2) (hN h a7)) (fX12_writesJoined_l44 v0 v1 v3 (hI h 12 v0 57) (hI h 20 a7 (Int32.toNatClampNeg (((400 : Int32) * v1) + v2))) h)))
set_option maxRecDepth 100000 in
theorem mX12_writesJoined_b24 {v0 : Nat} {v1 : Int32} {v2 : Int32} {v3 : Int32} {h : PH} {r : PH} (hf : fX12_writesJoined_b24 v0 v1 v2 v3 h = some r) : eqz h (hX r) (hV r) := by
  unfold fX12_writesJoined_b24 at hf
  have hle := eqz_rf h
  obtain ⟨hk6, hf⟩ := gd_some hf
  obtain ⟨a7, e8, hf⟩ := gs_some hf
  obtain ⟨⟨hk10, hb9⟩, hf⟩ := gd_some hf
  exact eqz_rt (mX12_writesJoined_l44 hf) hle
set_option maxRecDepth 100000 in
theorem wX12_writesJoined_b24 {E : PE} {p : Program} {l : Launch} {e : Env} {s : State} {m : MethodId} {args : Array Value} {below : List Frame} {meth : Method} {c : Code} (X : Cx E p l e (rmv 1 0 0) s m args below meth c RX12 cX12_writesJoined 8 (none)) (hG : Gs E l) (hnm : meth.name = yX12_writesJoined.name) {v0 : Nat} {v1 : Int32} {v2 : Int32} {v3 : Int32} {h : PH} {r : PH} (hf : fX12_writesJoined_b24 v0 v1 v2 v3 h = some r)  : PW E p l e (rmv 1 0 0) s m args below meth c 8 0 0 (MQ below (QG E (fun v u => v = none ∧ u = r)) args s 0 0 (pA E)) h 24 [(0, some (.ref v0)), (1, some (.int v1)), (2, some (.int v2)), (3, some (.int v3))] [] := by
  unfold fX12_writesJoined_b24 at hf
  refine p_aload_n X (dcg dc_X12_writesJoined 15 rfl) rfl rfl ?_
  obtain ⟨hk6, hf⟩ := gd_some hf
  refine p_getI X fl_X12_388 rfl (by decide) (dcg dc_X12_writesJoined 16 rfl) hk6 ?_
  refine p_istore X (dcg dc_X12_writesJoined 17 rfl) (by decide) rfl ?_
  refine p_aload_n X (dcg dc_X12_writesJoined 18 rfl) rfl rfl ?_
  refine p_getR X fl_X12_72 rfl (by decide) (dcg dc_X12_writesJoined 19 rfl) hk6 ?_
  refine p_sipush (v := 400) X (dcg dc_X12_writesJoined 20 rfl) (by decide) ?_
  refine p_iload_n X (dcg dc_X12_writesJoined 21 rfl) rfl rfl ?_
  refine p_imul X (dcg dc_X12_writesJoined 22 rfl) ?_
  refine p_iload_n X (dcg dc_X12_writesJoined 23 rfl) rfl rfl ?_
  refine p_iadd X (dcg dc_X12_writesJoined 24 rfl) ?_
  obtain ⟨a7, e8, hf⟩ := gs_some hf
  first | subst e8 | (try rw [e8])
  obtain ⟨⟨hk10, hb9⟩, hf⟩ := gd_some hf
  refine p_iald X (dcg dc_X12_writesJoined 25 rfl) hk10 (vp_of_inb hb9) ?_
  refine p_istore X (dcg dc_X12_writesJoined 26 rfl) (by decide) rfl ?_
  refine p_pick [0, 1, 3, 4, 5] ?_
  exact wX12_writesJoined_l44 X hG hnm hf 
noncomputable def fX12_writesJoined (v0 : Nat) (v1 : Int32) (v2 : Int32) (h : PH) : Option PH :=
  gd (hK h v0 = 12) (gs (hR h 12 v0 25) (fun a2 =>
  gd (hK h a2 = 20 ∧ inb (((400 : Int32) * v1) + v2) (hN h a2)) (if (¬ (hI h 20 a2 (Int32.toNatClampNeg (((400 : Int32) * v1) + v2))) = (4 : Int32)) then (fX12_writesJoined_b24 v0 v1 v2 (hI h 20 a2 (Int32.toNatClampNeg (((400 : Int32) * v1) + v2))) h) else
  bd (fX12_writes v0 (33 : Int32) h) (fun z53 =>
  fX12_writesJoined_b24 v0 v1 v2 (hI h 20 a2 (Int32.toNatClampNeg (((400 : Int32) * v1) + v2))) z53))))
set_option maxRecDepth 100000 in
theorem mX12_writesJoined {v0 : Nat} {v1 : Int32} {v2 : Int32} {h : PH} {r : PH} (hf : fX12_writesJoined v0 v1 v2 h = some r) : eqz h (hX r) (hV r) := by
  unfold fX12_writesJoined at hf
  have hle := eqz_rf h
  obtain ⟨hk1, hf⟩ := gd_some hf
  obtain ⟨a2, e3, hf⟩ := gs_some hf
  obtain ⟨⟨hk5, hb4⟩, hf⟩ := gd_some hf
  rcases ite_or hf with ⟨q, hf⟩ | ⟨q, hf⟩
  · have hf := if_t q hf
    exact eqz_rt (mX12_writesJoined_b24 hf) hle
  · have hf := if_f q hf
    obtain ⟨z53, hz53, hf⟩ := bd_some hf
    have hle := eqz_rt (mX12_writes hz53) hle
    exact eqz_rt (mX12_writesJoined_b24 hf) hle
set_option maxRecDepth 100000 in
theorem wX12_writesJoined {E : PE} {l : Launch} (hG : Gs E l) {v0 : Nat} {v1 : Int32} {v2 : Int32} {h : PH} {r : PH} (hf : fX12_writesJoined v0 v1 v2 h = some r) : Ct E l 1 0 0 yX12_writesJoined cX12_writesJoined 8 (none) [.ref v0, .int v1, .int v2] h (fun v u => v = none ∧ u = r) := by
  refine ct_of hG (by decide) (Nat.le_of_ble_eq_true rfl) ?_
  intro p e s m args below meth c X hnm
  show PW E p l e _ s m args below meth c _ 0 0 _ h 0 [(0, some (.ref v0)), (1, some (.int v1)), (2, some (.int v2))] []
  unfold fX12_writesJoined at hf
  refine p_aload_n X (dcg dc_X12_writesJoined 0 rfl) rfl rfl ?_
  obtain ⟨hk1, hf⟩ := gd_some hf
  refine p_getR X fl_X12_60 rfl (by decide) (dcg dc_X12_writesJoined 1 rfl) hk1 ?_
  refine p_sipush (v := 400) X (dcg dc_X12_writesJoined 2 rfl) (by decide) ?_
  refine p_iload_n X (dcg dc_X12_writesJoined 3 rfl) rfl rfl ?_
  refine p_imul X (dcg dc_X12_writesJoined 4 rfl) ?_
  refine p_iload_n X (dcg dc_X12_writesJoined 5 rfl) rfl rfl ?_
  refine p_iadd X (dcg dc_X12_writesJoined 6 rfl) ?_
  obtain ⟨a2, e3, hf⟩ := gs_some hf
  first | subst e3 | (try rw [e3])
  obtain ⟨⟨hk5, hb4⟩, hf⟩ := gd_some hf
  refine p_iald X (dcg dc_X12_writesJoined 7 rfl) hk5 (vp_of_inb hb4) ?_
  refine p_istore_n X (dcg dc_X12_writesJoined 8 rfl) rfl (by decide) rfl ?_
  refine p_iload_n X (dcg dc_X12_writesJoined 9 rfl) rfl rfl ?_
  refine p_iconst (v := 4) X (dcg dc_X12_writesJoined 10 rfl) (by decide) ?_
  refine p_icmp_ne (tgt := 24) X (dcg dc_X12_writesJoined 11 rfl) (by decide) (fun q => ?_) (fun q => ?_)
  · have hf := if_t q hf
    refine p_pick [0, 1, 2, 3] ?_
    exact wX12_writesJoined_b24 X hG hnm hf 
  · have hf := if_f q hf
    refine p_aload_n X (dcg dc_X12_writesJoined 12 rfl) rfl rfl ?_
    refine p_bipush (v := 33) X (dcg dc_X12_writesJoined 13 rfl) (by decide) ?_
    obtain ⟨z53, hz53, hf⟩ := bd_some hf
    refine p_callV (As := [_]) X ml_X12_385 (dcg dc_X12_writesJoined 14 rfl) rfl rfl hk1 (wX12_writes hG hz53) (by decide) (room4 (Nat.le_of_ble_eq_true rfl)) (Nat.le_refl _) (Nat.le_refl _) ?_
    rintro _ u9 ⟨rfl, e9⟩; have e9 := e9.symm; subst e9
    refine p_pick [0, 1, 2, 3] ?_
    exact wX12_writesJoined_b24 X hG hnm hf 
theorem dc_X12_write : decs cX12_write [(0, .aload_n 0, 1), (1, .iconst 0, 1), (2, .putfield 1, 3), (5, .aload_n 0, 1), (6, .iload_n 1, 1), (7, .invokevirtual 361, 3), (10, .ifCond .eq 5, 3), (13, .iconst 0, 1), (14, .ireturn, 1), (15, .aload_n 0, 1), (16, .iconst 0, 1), (17, .putfield 382, 3), (20, .aload_n 0, 1), (21, .iconst 0, 1), (22, .putfield 388, 3), (25, .aload_n 0, 1), (26, .aload_n 0, 1), (27, .getfield 87, 3), (30, .iload_n 1, 1), (31, .iaload, 1), (32, .invokevirtual 394, 3), (35, .aload_n 0, 1), (36, .getfield 388, 3), (39, .ifCond .le 71, 3), (42, .aload_n 0, 1), (43, .dup, 1), (44, .getfield 388, 3), (47, .iconst 1, 1), (48, .isub, 1), (49, .putfield 388, 3), (52, .aload_n 0, 1), (53, .getfield 135, 3), (56, .aload_n 0, 1), (57, .getfield 388, 3), (60, .iaload, 1), (61, .istore_n 2, 1), (62, .iload_n 2, 1), (63, .ifCond .ge 13, 3), (66, .aload_n 0, 1), (67, .iconst 0, 1), (68, .iload_n 2, 1), (69, .isub, 1), (70, .invokevirtual 385, 3), (73, .goto 34, 3), (76, .aload_n 0, 1), (77, .getfield 60, 3), (80, .sipush 400, 3), (83, .iload_n 1, 1), (84, .imul, 1), (85, .iload_n 2, 1), (86, .iadd, 1), (87, .iaload, 1), (88, .iconst 4, 1), (89, .if_icmp .ge 12, 3), (92, .aload_n 0, 1), (93, .iload_n 1, 1), (94, .iload_n 2, 1), (95, .invokevirtual 397, 3), (98, .goto 9, 3), (101, .aload_n 0, 1), (102, .iload_n 1, 1), (103, .iload_n 2, 1), (104, .invokevirtual 400, 3), (107, .goto (-72), 3), (110, .aload_n 0, 1), (111, .getfield 382, 3), (114, .ireturn, 1)] = true := by decide +kernel
noncomputable def fX12_write_b107 (v0 : Nat) (v1 : Int32) (h : PH) : Option ((PH) ⊕ (Int32 × PH)) :=
  some (.inl (h))
set_option maxRecDepth 100000 in
theorem mX12_write_b107 {v0 : Nat} {v1 : Int32} {h : PH} {x : ((PH) ⊕ (Int32 × PH))} (hf : fX12_write_b107 v0 v1 h = some x) : (∀ w9 : (PH), x = .inl w9 → eqz h (hX (w9)) (hV (w9))) ∧ (∀ w9 : (Int32 × PH), x = .inr w9 → eqz h (hX w9.2) (hV w9.2)) := by
  unfold fX12_write_b107 at hf
  have hle := eqz_rf h
  have ee := Option.some.inj hf; subst ee
  exact ⟨(fun z e => by have ee := Sum.inl.inj (e); subst ee; exact hle), (fun z e => nomatch e)⟩
set_option maxRecDepth 100000 in
theorem wX12_write_b107 {E : PE} {p : Program} {l : Launch} {e : Env} {s : State} {m : MethodId} {args : Array Value} {below : List Frame} {meth : Method} {c : Code} (X : Cx E p l e (rmv 4 0 0) s m args below meth c RX12 cX12_write 3 (some .int)) (hG : Gs E l) (hnm : meth.name = yX12_write.name) {v0 : Nat} {v1 : Int32} {h : PH} {r : (Int32 × PH)} {x : ((PH) ⊕ (Int32 × PH))} (hf : fX12_write_b107 v0 v1 h = some x) (k0 : ∀ z : (PH), x = .inl z → PW E p l e (rmv 4 0 0) s m args below meth c 3 0 0 (MQ below (QG E (fun v u => v = some (.int r.1) ∧ u = r.2)) args s 0 0 (pA E)) (z) 35 [(0, some (.ref v0)), (1, some (.int v1))] []) (kf : ∀ z : (Int32 × PH), x = .inr z → z = r) : PW E p l e (rmv 4 0 0) s m args below meth c 3 0 0 (MQ below (QG E (fun v u => v = some (.int r.1) ∧ u = r.2)) args s 0 0 (pA E)) h 107 [(0, some (.ref v0)), (1, some (.int v1))] [] := by
  unfold fX12_write_b107 at hf
  refine p_goto (tgt := 35) X (dcg dc_X12_write 63 rfl) (by decide) ?_
  refine p_pick [0, 1] ?_
  exact k0 _ (Option.some.inj hf).symm
noncomputable def fX12_write_c35 (v0 : Nat) (v1 : Int32) (h : PH) : Option ((PH) ⊕ (Int32 × PH)) :=
  gd (hK h v0 = 12) (if ((hI h 12 v0 57) ≤ 0) then (mr (some (((hI h 12 v0 56), h)))) else
  lt (sI h 12 v0 57 ((hI h 12 v0 57) - (1 : Int32))) (fun h15 =>
  gs (hR h15 12 v0 55) (fun a16 =>
  gd (hK h15 a16 = 20 ∧ inb (hI h15 12 v0 57) (hN h15 a16)) (if (0 ≤ (hI h15 20 a16 (Int32.toNatClampNeg (hI h15 12 v0 57)))) then (gs (hR h15 12 v0 25) (fun a20 =>
  gd (hK h15 a20 = 20 ∧ inb (((400 : Int32) * v1) + (hI h15 20 a16 (Int32.toNatClampNeg (hI h15 12 v0 57)))) (hN h15 a20)) (if ((4 : Int32) ≤ (hI h15 20 a20 (Int32.toNatClampNeg (((400 : Int32) * v1) + (hI h15 20 a16 (Int32.toNatClampNeg (hI h15 12 v0 57))))))) then (bd (fX12_writesJoined v0 v1 (hI h15 20 a16 (Int32.toNatClampNeg (hI h15 12 v0 57))) h15) (fun z24 =>
  fX12_write_b107 v0 v1 z24)) else
  bd (fX12_writesSimple v0 v1 (hI h15 20 a16 (Int32.toNatClampNeg (hI h15 12 v0 57))) h15) (fun z25 =>
  fX12_write_b107 v0 v1 z25)))) else
  bd (fX12_writes v0 ((0 : Int32) - (hI h15 20 a16 (Int32.toNatClampNeg (hI h15 12 v0 57)))) h15) (fun z26 =>
  fX12_write_b107 v0 v1 z26)))))
set_option maxRecDepth 100000 in
theorem mX12_write_c35 {v0 : Nat} {v1 : Int32} {h : PH} {x : ((PH) ⊕ (Int32 × PH))} (hf : fX12_write_c35 v0 v1 h = some x) : (∀ w9 : (PH), x = .inl w9 → eqz h (hX (w9)) (hV (w9))) ∧ (∀ w9 : (Int32 × PH), x = .inr w9 → eqz h (hX w9.2) (hV w9.2)) := by
  unfold fX12_write_c35 at hf
  have hle := eqz_rf h
  obtain ⟨hk12, hf⟩ := gd_some hf
  rcases ite_or hf with ⟨q, hf⟩ | ⟨q, hf⟩
  · have hf := if_t q hf
    obtain ⟨y13, hfm, rfl⟩ := mr_some hf; have hf := hfm; clear hfm
    have ee := Option.some.inj hf; subst ee
    exact ⟨(fun z e => nomatch e), (fun z e => by have ee := Sum.inr.inj (e); subst ee; exact hle)⟩
  · have hf := if_f q hf
    obtain ⟨h15, rfl, hf⟩ := lt_some hf
    obtain ⟨a16, e17, hf⟩ := gs_some hf
    obtain ⟨⟨hk19, hb18⟩, hf⟩ := gd_some hf
    rcases ite_or hf with ⟨q, hf⟩ | ⟨q, hf⟩
    · have hf := if_t q hf
      obtain ⟨a20, e21, hf⟩ := gs_some hf
      obtain ⟨⟨hk23, hb22⟩, hf⟩ := gd_some hf
      rcases ite_or hf with ⟨q, hf⟩ | ⟨q, hf⟩
      · have hf := if_t q hf
        obtain ⟨z24, hz24, hf⟩ := bd_some hf
        have hle := eqz_rt (mX12_writesJoined hz24) hle
        obtain ⟨c0, cf⟩ := mX12_write_b107 hf
        exact ⟨fun z e => eqz_rt (c0 z (e)) hle, fun z e => eqz_rt (cf z (e)) hle⟩
      · have hf := if_f q hf
        obtain ⟨z25, hz25, hf⟩ := bd_some hf
        have hle := eqz_rt (mX12_writesSimple hz25) hle
        obtain ⟨c0, cf⟩ := mX12_write_b107 hf
        exact ⟨fun z e => eqz_rt (c0 z (e)) hle, fun z e => eqz_rt (cf z (e)) hle⟩
    · have hf := if_f q hf
      obtain ⟨z26, hz26, hf⟩ := bd_some hf
      have hle := eqz_rt (mX12_writes hz26) hle
      obtain ⟨c0, cf⟩ := mX12_write_b107 hf
      exact ⟨fun z e => eqz_rt (c0 z (e)) hle, fun z e => eqz_rt (cf z (e)) hle⟩
set_option maxRecDepth 100000 in
theorem wX12_write_c35 {E : PE} {p : Program} {l : Launch} {e : Env} {s : State} {m : MethodId} {args : Array Value} {below : List Frame} {meth : Method} {c : Code} (X : Cx E p l e (rmv 4 0 0) s m args below meth c RX12 cX12_write 3 (some .int)) (hG : Gs E l) (hnm : meth.name = yX12_write.name) {v0 : Nat} {v1 : Int32} {h : PH} {r : (Int32 × PH)} {x : ((PH) ⊕ (Int32 × PH))} (hf : fX12_write_c35 v0 v1 h = some x) (k0 : ∀ z : (PH), x = .inl z → PW E p l e (rmv 4 0 0) s m args below meth c 3 0 0 (MQ below (QG E (fun v u => v = some (.int r.1) ∧ u = r.2)) args s 0 0 (pA E)) (z) 35 [(0, some (.ref v0)), (1, some (.int v1))] []) (kf : ∀ z : (Int32 × PH), x = .inr z → z = r) : PW E p l e (rmv 4 0 0) s m args below meth c 3 0 0 (MQ below (QG E (fun v u => v = some (.int r.1) ∧ u = r.2)) args s 0 0 (pA E)) h 35 [(0, some (.ref v0)), (1, some (.int v1))] [] := by
  unfold fX12_write_c35 at hf
  refine p_aload_n X (dcg dc_X12_write 21 rfl) rfl rfl ?_
  obtain ⟨hk12, hf⟩ := gd_some hf
  refine p_getI X fl_X12_388 rfl (by decide) (dcg dc_X12_write 22 rfl) hk12 ?_
  refine p_if_le (tgt := 110) X (dcg dc_X12_write 23 rfl) (by decide) (fun q => ?_) (fun q => ?_)
  · have hf := if_t q hf
    obtain ⟨y13, hf, hy14⟩ := mr_some hf
    have hy14f := kf y13 hy14
    subst hy14f
    refine p_aload_n X (dcg dc_X12_write 64 rfl) rfl rfl ?_
    refine p_getI X fl_X12_382 rfl (by decide) (dcg dc_X12_write 65 rfl) hk12 ?_
    have er := Option.some.inj hf
    subst er
    exact p_iret X rfl (dcg dc_X12_write 66 rfl) ⟨rfl, rfl⟩ (Nat.le_refl _) (Nat.le_refl _)
  · have hf := if_f q hf
    refine p_aload_n X (dcg dc_X12_write 24 rfl) rfl rfl ?_
    refine p_dup X (dcg dc_X12_write 25 rfl) rfl ?_
    refine p_getI X fl_X12_388 rfl (by decide) (dcg dc_X12_write 26 rfl) hk12 ?_
    refine p_iconst (v := 1) X (dcg dc_X12_write 27 rfl) (by decide) ?_
    refine p_isub X (dcg dc_X12_write 28 rfl) ?_
    refine p_putI X fl_X12_388 rfl (by decide) (fun q hq => by cases hq; rfl) rfl rfl (dcg dc_X12_write 29 rfl) hk12 ?_
    obtain ⟨h15, rfl, hf⟩ := lt_some hf
    refine p_aload_n X (dcg dc_X12_write 30 rfl) rfl rfl ?_
    refine p_getR X fl_X12_135 rfl (by decide) (dcg dc_X12_write 31 rfl) hk12 ?_
    refine p_aload_n X (dcg dc_X12_write 32 rfl) rfl rfl ?_
    refine p_getI X fl_X12_388 rfl (by decide) (dcg dc_X12_write 33 rfl) hk12 ?_
    obtain ⟨a16, e17, hf⟩ := gs_some hf
    first | subst e17 | (try rw [e17])
    obtain ⟨⟨hk19, hb18⟩, hf⟩ := gd_some hf
    refine p_iald X (dcg dc_X12_write 34 rfl) hk19 (vp_of_inb hb18) ?_
    refine p_istore_n X (dcg dc_X12_write 35 rfl) rfl (by decide) rfl ?_
    refine p_iload_n X (dcg dc_X12_write 36 rfl) rfl rfl ?_
    refine p_if_ge (tgt := 76) X (dcg dc_X12_write 37 rfl) (by decide) (fun q => ?_) (fun q => ?_)
    · have hf := if_t q hf
      refine p_aload_n X (dcg dc_X12_write 44 rfl) rfl rfl ?_
      refine p_getR X fl_X12_60 rfl (by decide) (dcg dc_X12_write 45 rfl) hk12 ?_
      refine p_sipush (v := 400) X (dcg dc_X12_write 46 rfl) (by decide) ?_
      refine p_iload_n X (dcg dc_X12_write 47 rfl) rfl rfl ?_
      refine p_imul X (dcg dc_X12_write 48 rfl) ?_
      refine p_iload_n X (dcg dc_X12_write 49 rfl) rfl rfl ?_
      refine p_iadd X (dcg dc_X12_write 50 rfl) ?_
      obtain ⟨a20, e21, hf⟩ := gs_some hf
      first | subst e21 | (try rw [e21])
      obtain ⟨⟨hk23, hb22⟩, hf⟩ := gd_some hf
      refine p_iald X (dcg dc_X12_write 51 rfl) hk23 (vp_of_inb hb22) ?_
      refine p_iconst (v := 4) X (dcg dc_X12_write 52 rfl) (by decide) ?_
      refine p_icmp_ge (tgt := 101) X (dcg dc_X12_write 53 rfl) (by decide) (fun q => ?_) (fun q => ?_)
      · have hf := if_t q hf
        refine p_aload_n X (dcg dc_X12_write 59 rfl) rfl rfl ?_
        refine p_iload_n X (dcg dc_X12_write 60 rfl) rfl rfl ?_
        refine p_iload_n X (dcg dc_X12_write 61 rfl) rfl rfl ?_
        obtain ⟨z24, hz24, hf⟩ := bd_some hf
        refine p_callV (As := [_, _]) X ml_X12_400 (dcg dc_X12_write 62 rfl) rfl rfl hk12 (wX12_writesJoined hG hz24) (by decide) (room4 (Nat.le_of_ble_eq_true rfl)) (Nat.le_refl _) (Nat.le_refl _) ?_
        rintro _ u9 ⟨rfl, e9⟩; have e9 := e9.symm; subst e9
        refine p_pick [0, 1] ?_
        exact wX12_write_b107 X hG hnm hf k0 kf
      · have hf := if_f q hf
        refine p_aload_n X (dcg dc_X12_write 54 rfl) rfl rfl ?_
        refine p_iload_n X (dcg dc_X12_write 55 rfl) rfl rfl ?_
        refine p_iload_n X (dcg dc_X12_write 56 rfl) rfl rfl ?_
        obtain ⟨z25, hz25, hf⟩ := bd_some hf
        refine p_callV (As := [_, _]) X ml_X12_397 (dcg dc_X12_write 57 rfl) rfl rfl hk12 (wX12_writesSimple hG hz25) (by decide) (room4 (Nat.le_of_ble_eq_true rfl)) (Nat.le_refl _) (Nat.le_refl _) ?_
        rintro _ u9 ⟨rfl, e9⟩; have e9 := e9.symm; subst e9
        refine p_goto (tgt := 107) X (dcg dc_X12_write 58 rfl) (by decide) ?_
        refine p_pick [0, 1] ?_
        exact wX12_write_b107 X hG hnm hf k0 kf
    · have hf := if_f q hf
      refine p_aload_n X (dcg dc_X12_write 38 rfl) rfl rfl ?_
      refine p_iconst (v := 0) X (dcg dc_X12_write 39 rfl) (by decide) ?_
      refine p_iload_n X (dcg dc_X12_write 40 rfl) rfl rfl ?_
      refine p_isub X (dcg dc_X12_write 41 rfl) ?_
      obtain ⟨z26, hz26, hf⟩ := bd_some hf
      refine p_callV (As := [_]) X ml_X12_385 (dcg dc_X12_write 42 rfl) rfl rfl hk12 (wX12_writes hG hz26) (by decide) (room4 (Nat.le_of_ble_eq_true rfl)) (Nat.le_refl _) (Nat.le_refl _) ?_
      rintro _ u9 ⟨rfl, e9⟩; have e9 := e9.symm; subst e9
      refine p_goto (tgt := 107) X (dcg dc_X12_write 43 rfl) (by decide) ?_
      refine p_pick [0, 1] ?_
      exact wX12_write_b107 X hG hnm hf k0 kf
noncomputable def fX12_write_l35 (v0 : Nat) (v1 : Int32) (h : PH) : Option (Int32 × PH) := wh (fun z : (PH) => fX12_write_c35 v0 v1 (z)) (h)
set_option maxRecDepth 100000 in
theorem mX12_write_l35 {v0 : Nat} {v1 : Int32} {h : PH} {r : (Int32 × PH)} (hf : fX12_write_l35 v0 v1 h = some r) : eqz h (hX r.2) (hV r.2) := by
  unfold fX12_write_l35 at hf
  refine wh_ind (P := fun z => eqz (z) (hX r.2) (hV r.2)) (fun z x0 hs i1 i2 => ?_) _ hf
  obtain ⟨c0, cf⟩ := mX12_write_c35 (v0 := v0) (v1 := v1) (h := z) hs
  rcases hxx : x0 with zz | zz
  · exact eqz_tr (c0 zz hxx) (i1 zz hxx)
  · have ee := i2 zz hxx; subst ee; exact cf zz hxx
set_option maxRecDepth 100000 in
theorem wX12_write_l35 {E : PE} {p : Program} {l : Launch} {e : Env} {s : State} {m : MethodId} {args : Array Value} {below : List Frame} {meth : Method} {c : Code} (X : Cx E p l e (rmv 4 0 0) s m args below meth c RX12 cX12_write 3 (some .int)) (hG : Gs E l) (hnm : meth.name = yX12_write.name) {v0 : Nat} {v1 : Int32} {h : PH} {r : (Int32 × PH)} (hf : fX12_write_l35 v0 v1 h = some r)  : PW E p l e (rmv 4 0 0) s m args below meth c 3 0 0 (MQ below (QG E (fun v u => v = some (.int r.1) ∧ u = r.2)) args s 0 0 (pA E)) h 35 [(0, some (.ref v0)), (1, some (.int v1))] [] := by
  unfold fX12_write_l35 at hf
  refine wh_ind (P := fun z => PW E p l e (rmv 4 0 0) s m args below meth c 3 0 0 (MQ below (QG E (fun v u => v = some (.int r.1) ∧ u = r.2)) args s 0 0 (pA E)) (z) 35 [(0, some (.ref v0)), (1, some (.int v1))] []) (fun z x0 hs i1 i2 => ?_) _ hf
  exact wX12_write_c35 (r := r) (v0 := v0) (v1 := v1) (h := z) X hG hnm hs i1  i2
noncomputable def fX12_write (v0 : Nat) (v1 : Int32) (h : PH) : Option (Int32 × PH) :=
  gd (hK h v0 = 12) (lt (sI h 12 v0 0 (0 : Int32)) (fun h2 =>
  bd (fX12_noKept v0 v1 h2) (fun z3 =>
  if (z3.1 = 0) then (gd (hK z3.2 v0 = 12) (lt (sI z3.2 12 v0 56 (0 : Int32)) (fun h5 =>
  lt (sI h5 12 v0 57 (0 : Int32)) (fun h6 =>
  gs (hR h6 12 v0 34) (fun a7 =>
  gd (hK h6 a7 = 20 ∧ inb v1 (hN h6 a7)) (bd (fX12_lays v0 (hI h6 20 a7 (Int32.toNatClampNeg v1)) h6) (fun z11 =>
  fX12_write_l35 v0 v1 z11))))))) else
  some (((0 : Int32), z3.2)))))
set_option maxRecDepth 100000 in
theorem mX12_write {v0 : Nat} {v1 : Int32} {h : PH} {r : (Int32 × PH)} (hf : fX12_write v0 v1 h = some r) : eqz h (hX r.2) (hV r.2) := by
  unfold fX12_write at hf
  have hle := eqz_rf h
  obtain ⟨hk1, hf⟩ := gd_some hf
  obtain ⟨h2, rfl, hf⟩ := lt_some hf
  obtain ⟨z3, hz3, hf⟩ := bd_some hf
  have hle := eqz_rt (mX12_noKept hz3) hle
  rcases ite_or hf with ⟨q, hf⟩ | ⟨q, hf⟩
  · have hf := if_t q hf
    obtain ⟨hk4, hf⟩ := gd_some hf
    obtain ⟨h5, rfl, hf⟩ := lt_some hf
    obtain ⟨h6, rfl, hf⟩ := lt_some hf
    obtain ⟨a7, e8, hf⟩ := gs_some hf
    obtain ⟨⟨hk10, hb9⟩, hf⟩ := gd_some hf
    obtain ⟨z11, hz11, hf⟩ := bd_some hf
    have hle := eqz_rt (mX12_lays hz11) hle
    exact eqz_rt (mX12_write_l35 hf) hle
  · have hf := if_f q hf
    have ee := Option.some.inj hf; subst ee; exact hle
set_option maxRecDepth 100000 in
theorem wX12_write {E : PE} {l : Launch} (hG : Gs E l) {v0 : Nat} {v1 : Int32} {h : PH} {r : (Int32 × PH)} (hf : fX12_write v0 v1 h = some r) : Ct E l 4 0 0 yX12_write cX12_write 3 (some .int) [.ref v0, .int v1] h (fun v u => v = some (.int r.1) ∧ u = r.2) := by
  refine ct_of hG (by decide) (Nat.le_of_ble_eq_true rfl) ?_
  intro p e s m args below meth c X hnm
  show PW E p l e _ s m args below meth c _ 0 0 _ h 0 [(0, some (.ref v0)), (1, some (.int v1))] []
  unfold fX12_write at hf
  refine p_aload_n X (dcg dc_X12_write 0 rfl) rfl rfl ?_
  refine p_iconst (v := 0) X (dcg dc_X12_write 1 rfl) (by decide) ?_
  obtain ⟨hk1, hf⟩ := gd_some hf
  refine p_putI X fl_X12_1 rfl (by decide) (fun q hq => by cases hq; rfl) rfl rfl (dcg dc_X12_write 2 rfl) hk1 ?_
  obtain ⟨h2, rfl, hf⟩ := lt_some hf
  refine p_aload_n X (dcg dc_X12_write 3 rfl) rfl rfl ?_
  refine p_iload_n X (dcg dc_X12_write 4 rfl) rfl rfl ?_
  obtain ⟨z3, hz3, hf⟩ := bd_some hf
  refine p_callV (As := [_]) X ml_X12_361 (dcg dc_X12_write 5 rfl) rfl rfl hk1 (wX12_noKept hG hz3) (by decide) (room4 (Nat.le_of_ble_eq_true rfl)) (Nat.le_refl _) (Nat.le_refl _) ?_
  rintro _ u9 ⟨rfl, e9⟩; have e9 := e9.symm; subst e9
  refine p_if_eq (tgt := 15) X (dcg dc_X12_write 6 rfl) (by decide) (fun q => ?_) (fun q => ?_)
  · have hf := if_t q hf
    refine p_aload_n X (dcg dc_X12_write 9 rfl) rfl rfl ?_
    refine p_iconst (v := 0) X (dcg dc_X12_write 10 rfl) (by decide) ?_
    obtain ⟨hk4, hf⟩ := gd_some hf
    refine p_putI X fl_X12_382 rfl (by decide) (fun q hq => by cases hq; rfl) rfl rfl (dcg dc_X12_write 11 rfl) hk4 ?_
    obtain ⟨h5, rfl, hf⟩ := lt_some hf
    refine p_aload_n X (dcg dc_X12_write 12 rfl) rfl rfl ?_
    refine p_iconst (v := 0) X (dcg dc_X12_write 13 rfl) (by decide) ?_
    refine p_putI X fl_X12_388 rfl (by decide) (fun q hq => by cases hq; rfl) rfl rfl (dcg dc_X12_write 14 rfl) hk4 ?_
    obtain ⟨h6, rfl, hf⟩ := lt_some hf
    refine p_aload_n X (dcg dc_X12_write 15 rfl) rfl rfl ?_
    refine p_aload_n X (dcg dc_X12_write 16 rfl) rfl rfl ?_
    refine p_getR X fl_X12_87 rfl (by decide) (dcg dc_X12_write 17 rfl) hk4 ?_
    refine p_iload_n X (dcg dc_X12_write 18 rfl) rfl rfl ?_
    obtain ⟨a7, e8, hf⟩ := gs_some hf
    first | subst e8 | (try rw [e8])
    obtain ⟨⟨hk10, hb9⟩, hf⟩ := gd_some hf
    refine p_iald X (dcg dc_X12_write 19 rfl) hk10 (vp_of_inb hb9) ?_
    obtain ⟨z11, hz11, hf⟩ := bd_some hf
    refine p_callV (As := [_]) X ml_X12_394 (dcg dc_X12_write 20 rfl) rfl rfl hk4 (wX12_lays hG hz11) (by decide) (room4 (Nat.le_of_ble_eq_true rfl)) (Nat.le_refl _) (Nat.le_refl _) ?_
    rintro _ u9 ⟨rfl, e9⟩; have e9 := e9.symm; subst e9
    refine p_pick [0, 1] ?_
    exact wX12_write_l35 X hG hnm hf 
  · have hf := if_f q hf
    refine p_iconst (v := 0) X (dcg dc_X12_write 7 rfl) (by decide) ?_
    have er := Option.some.inj hf
    subst er
    exact p_iret X rfl (dcg dc_X12_write 8 rfl) ⟨rfl, rfl⟩ (Nat.le_refl _) (Nat.le_refl _)
