/-! methods of the program (by program: wip/whole/gen2.py) -/
theorem dc_X12_satisfies : decs cX12_satisfies [(0, .aload_n 0, 1), (1, .getfield 20, 3), (4, .iload_n 2, 1), (5, .baload, 1), (6, .ifCond .ne 5, 3), (9, .iconst 0, 1), (10, .ireturn, 1), (11, .iconst 0, 1), (12, .istore_n 3, 1), (13, .iload_n 3, 1), (14, .aload_n 0, 1), (15, .getfield 81, 3), (18, .iload_n 1, 1), (19, .iaload, 1), (20, .if_icmp .ge 46, 3), (23, .aload_n 0, 1), (24, .getfield 60, 3), (27, .sipush 400, 3), (30, .iload_n 1, 1), (31, .imul, 1), (32, .iload_n 3, 1), (33, .iadd, 1), (34, .iaload, 1), (35, .iconst 4, 1), (36, .if_icmp .ge 24, 3), (39, .aload_n 0, 1), (40, .getfield 111, 3), (43, .iload_n 3, 1), (44, .aload_n 0, 1), (45, .iload_n 1, 1), (46, .iload_n 3, 1), (47, .iload_n 2, 1), (48, .invokevirtual 340, 3), (51, .ifCond .le 7, 3), (54, .iconst 1, 1), (55, .goto 4, 3), (58, .iconst 0, 1), (59, .bastore, 1), (60, .iinc 3 1, 3), (63, .goto (-50), 3), (66, .aload_n 0, 1), (67, .iload_n 1, 1), (68, .invokevirtual 343, 3), (71, .ireturn, 1)] = true := by decide +kernel
noncomputable def fX12_satisfies_b60 (v0 : Nat) (v1 : Int32) (v2 : Int32) (v3 : Int32) (h : PH) : Option ((Int32 × PH) ⊕ (Int32 × PH)) :=
  some (.inl ((v3 + 1), h))
set_option maxRecDepth 100000 in
theorem mX12_satisfies_b60 {v0 : Nat} {v1 : Int32} {v2 : Int32} {v3 : Int32} {h : PH} {x : ((Int32 × PH) ⊕ (Int32 × PH))} (hf : fX12_satisfies_b60 v0 v1 v2 v3 h = some x) : (∀ w9 : (Int32 × PH), x = .inl w9 → eqz h (hX (w9.2)) (hV (w9.2))) ∧ (∀ w9 : (Int32 × PH), x = .inr w9 → eqz h (hX w9.2) (hV w9.2)) := by
  unfold fX12_satisfies_b60 at hf
  have hle := eqz_rf h
  have ee := Option.some.inj hf; subst ee
  exact ⟨(fun z e => by have ee := Sum.inl.inj (e); subst ee; exact hle), (fun z e => nomatch e)⟩
set_option maxRecDepth 100000 in
theorem wX12_satisfies_b60 {E : PE} {p : Program} {l : Launch} {e : Env} {s : State} {m : MethodId} {args : Array Value} {below : List Frame} {meth : Method} {c : Code} (X : Cx E p l e (rmv 3 0 0) s m args below meth c RX12 cX12_satisfies 4 (some .boolean)) (hG : Gs E l) (hnm : meth.name = yX12_satisfies.name) {v0 : Nat} {v1 : Int32} {v2 : Int32} {v3 : Int32} {h : PH} {r : (Int32 × PH)} {x : ((Int32 × PH) ⊕ (Int32 × PH))} (hf : fX12_satisfies_b60 v0 v1 v2 v3 h = some x) (k0 : ∀ z : (Int32 × PH), x = .inl z → PW E p l e (rmv 3 0 0) s m args below meth c 4 0 0 (MQ below (QG E (fun v u => v = some (.int r.1) ∧ u = r.2)) args s 0 0 (pA E)) (z.2) 13 [(0, some (.ref v0)), (1, some (.int v1)), (2, some (.int v2)), (3, some (.int (z.1)))] []) (kf : ∀ z : (Int32 × PH), x = .inr z → z = r) : PW E p l e (rmv 3 0 0) s m args below meth c 4 0 0 (MQ below (QG E (fun v u => v = some (.int r.1) ∧ u = r.2)) args s 0 0 (pA E)) h 60 [(0, some (.ref v0)), (1, some (.int v1)), (2, some (.int v2)), (3, some (.int v3))] [] := by
  unfold fX12_satisfies_b60 at hf
  refine p_iinc (v := 1) X (dcg dc_X12_satisfies 38 rfl) rfl (by decide) (by decide) rfl ?_
  refine p_goto (tgt := 13) X (dcg dc_X12_satisfies 39 rfl) (by decide) ?_
  refine p_pick [0, 1, 2, 3] ?_
  exact k0 _ (Option.some.inj hf).symm
noncomputable def fX12_satisfies_b59 (v0 : Nat) (v1 : Int32) (v2 : Int32) (v3 : Int32) (t0 : Option Nat) (t1 : Int32) (t2 : Int32) (h : PH) : Option ((Int32 × PH) ⊕ (Int32 × PH)) :=
  gs t0 (fun a20 =>
  gd (hK h a20 = 21 ∧ inb t1 (hN h a20)) (lt (sI h 21 a20 (Int32.toNatClampNeg t1) (t2 &&& 1)) (fun h24 =>
  fX12_satisfies_b60 v0 v1 v2 v3 h24)))
set_option maxRecDepth 100000 in
theorem mX12_satisfies_b59 {v0 : Nat} {v1 : Int32} {v2 : Int32} {v3 : Int32} {t0 : Option Nat} {t1 : Int32} {t2 : Int32} {h : PH} {x : ((Int32 × PH) ⊕ (Int32 × PH))} (hf : fX12_satisfies_b59 v0 v1 v2 v3 t0 t1 t2 h = some x) : (∀ w9 : (Int32 × PH), x = .inl w9 → eqz h (hX (w9.2)) (hV (w9.2))) ∧ (∀ w9 : (Int32 × PH), x = .inr w9 → eqz h (hX w9.2) (hV w9.2)) := by
  unfold fX12_satisfies_b59 at hf
  have hle := eqz_rf h
  obtain ⟨a20, e21, hf⟩ := gs_some hf
  obtain ⟨⟨hk23, hb22⟩, hf⟩ := gd_some hf
  obtain ⟨h24, rfl, hf⟩ := lt_some hf
  obtain ⟨c0, cf⟩ := mX12_satisfies_b60 hf
  exact ⟨fun z e => eqz_rt (c0 z (e)) hle, fun z e => eqz_rt (cf z (e)) hle⟩
set_option maxRecDepth 100000 in
theorem wX12_satisfies_b59 {E : PE} {p : Program} {l : Launch} {e : Env} {s : State} {m : MethodId} {args : Array Value} {below : List Frame} {meth : Method} {c : Code} (X : Cx E p l e (rmv 3 0 0) s m args below meth c RX12 cX12_satisfies 4 (some .boolean)) (hG : Gs E l) (hnm : meth.name = yX12_satisfies.name) {v0 : Nat} {v1 : Int32} {v2 : Int32} {v3 : Int32} {t0 : Option Nat} {t1 : Int32} {t2 : Int32} {h : PH} {r : (Int32 × PH)} {x : ((Int32 × PH) ⊕ (Int32 × PH))} (hf : fX12_satisfies_b59 v0 v1 v2 v3 t0 t1 t2 h = some x) (k0 : ∀ z : (Int32 × PH), x = .inl z → PW E p l e (rmv 3 0 0) s m args below meth c 4 0 0 (MQ below (QG E (fun v u => v = some (.int r.1) ∧ u = r.2)) args s 0 0 (pA E)) (z.2) 13 [(0, some (.ref v0)), (1, some (.int v1)), (2, some (.int v2)), (3, some (.int (z.1)))] []) (kf : ∀ z : (Int32 × PH), x = .inr z → z = r) : PW E p l e (rmv 3 0 0) s m args below meth c 4 0 0 (MQ below (QG E (fun v u => v = some (.int r.1) ∧ u = r.2)) args s 0 0 (pA E)) h 59 [(0, some (.ref v0)), (1, some (.int v1)), (2, some (.int v2)), (3, some (.int v3))] [.int t2, .int t1, va_rf t0] := by
  unfold fX12_satisfies_b59 at hf
  obtain ⟨a20, e21, hf⟩ := gs_some hf
  first | subst e21 | (try rw [e21])
  obtain ⟨⟨hk23, hb22⟩, hf⟩ := gd_some hf
  refine p_zast X (dcg dc_X12_satisfies 37 rfl) hk23 (vp_of_inb hb22) ?_
  obtain ⟨h24, rfl, hf⟩ := lt_some hf
  refine p_pick [0, 1, 2, 3] ?_
  exact wX12_satisfies_b60 X hG hnm hf k0 kf
noncomputable def fX12_satisfies_c13 (v0 : Nat) (v1 : Int32) (v2 : Int32) (v3 : Int32) (h : PH) : Option ((Int32 × PH) ⊕ (Int32 × PH)) :=
  gd (hK h v0 = 12) (gs (hR h 12 v0 32) (fun a7 =>
  gd (hK h a7 = 20 ∧ inb v1 (hN h a7)) (if ((hI h 20 a7 (Int32.toNatClampNeg v1)) ≤ v3) then (mr (bd (fX12_joined v0 v1 h) (fun z13 =>
  gd (z13.1 &&& 1 = z13.1) (some ((z13.1, z13.2)))))) else
  gs (hR h 12 v0 25) (fun a15 =>
  gd (hK h a15 = 20 ∧ inb (((400 : Int32) * v1) + v3) (hN h a15)) (if ((4 : Int32) ≤ (hI h 20 a15 (Int32.toNatClampNeg (((400 : Int32) * v1) + v3)))) then (fX12_satisfies_b60 v0 v1 v2 v3 h) else
  bd (fX12_meets v0 v1 v3 v2 h) (fun z19 =>
  if (z19 ≤ 0) then (fX12_satisfies_b59 v0 v1 v2 v3 (hR h 12 v0 46) v3 (0 : Int32) h) else
  fX12_satisfies_b59 v0 v1 v2 v3 (hR h 12 v0 46) v3 (1 : Int32) h))))))
set_option maxRecDepth 100000 in
theorem mX12_satisfies_c13 {v0 : Nat} {v1 : Int32} {v2 : Int32} {v3 : Int32} {h : PH} {x : ((Int32 × PH) ⊕ (Int32 × PH))} (hf : fX12_satisfies_c13 v0 v1 v2 v3 h = some x) : (∀ w9 : (Int32 × PH), x = .inl w9 → eqz h (hX (w9.2)) (hV (w9.2))) ∧ (∀ w9 : (Int32 × PH), x = .inr w9 → eqz h (hX w9.2) (hV w9.2)) := by
  unfold fX12_satisfies_c13 at hf
  have hle := eqz_rf h
  obtain ⟨hk6, hf⟩ := gd_some hf
  obtain ⟨a7, e8, hf⟩ := gs_some hf
  obtain ⟨⟨hk10, hb9⟩, hf⟩ := gd_some hf
  rcases ite_or hf with ⟨q, hf⟩ | ⟨q, hf⟩
  · have hf := if_t q hf
    obtain ⟨y11, hfm, rfl⟩ := mr_some hf; have hf := hfm; clear hfm
    obtain ⟨z13, hz13, hf⟩ := bd_some hf
    have hle := eqz_rt (mX12_joined hz13) hle
    obtain ⟨hg14, hf⟩ := gd_some hf
    have ee := Option.some.inj hf; subst ee
    exact ⟨(fun z e => nomatch e), (fun z e => by have ee := Sum.inr.inj (e); subst ee; exact hle)⟩
  · have hf := if_f q hf
    obtain ⟨a15, e16, hf⟩ := gs_some hf
    obtain ⟨⟨hk18, hb17⟩, hf⟩ := gd_some hf
    rcases ite_or hf with ⟨q, hf⟩ | ⟨q, hf⟩
    · have hf := if_t q hf
      obtain ⟨c0, cf⟩ := mX12_satisfies_b60 hf
      exact ⟨fun z e => eqz_rt (c0 z (e)) hle, fun z e => eqz_rt (cf z (e)) hle⟩
    · have hf := if_f q hf
      obtain ⟨z19, hz19, hf⟩ := bd_some hf
      rcases ite_or hf with ⟨q, hf⟩ | ⟨q, hf⟩
      · have hf := if_t q hf
        obtain ⟨c0, cf⟩ := mX12_satisfies_b59 hf
        exact ⟨fun z e => eqz_rt (c0 z (e)) hle, fun z e => eqz_rt (cf z (e)) hle⟩
      · have hf := if_f q hf
        obtain ⟨c0, cf⟩ := mX12_satisfies_b59 hf
        exact ⟨fun z e => eqz_rt (c0 z (e)) hle, fun z e => eqz_rt (cf z (e)) hle⟩
set_option maxRecDepth 100000 in
theorem wX12_satisfies_c13 {E : PE} {p : Program} {l : Launch} {e : Env} {s : State} {m : MethodId} {args : Array Value} {below : List Frame} {meth : Method} {c : Code} (X : Cx E p l e (rmv 3 0 0) s m args below meth c RX12 cX12_satisfies 4 (some .boolean)) (hG : Gs E l) (hnm : meth.name = yX12_satisfies.name) {v0 : Nat} {v1 : Int32} {v2 : Int32} {v3 : Int32} {h : PH} {r : (Int32 × PH)} {x : ((Int32 × PH) ⊕ (Int32 × PH))} (hf : fX12_satisfies_c13 v0 v1 v2 v3 h = some x) (k0 : ∀ z : (Int32 × PH), x = .inl z → PW E p l e (rmv 3 0 0) s m args below meth c 4 0 0 (MQ below (QG E (fun v u => v = some (.int r.1) ∧ u = r.2)) args s 0 0 (pA E)) (z.2) 13 [(0, some (.ref v0)), (1, some (.int v1)), (2, some (.int v2)), (3, some (.int (z.1)))] []) (kf : ∀ z : (Int32 × PH), x = .inr z → z = r) : PW E p l e (rmv 3 0 0) s m args below meth c 4 0 0 (MQ below (QG E (fun v u => v = some (.int r.1) ∧ u = r.2)) args s 0 0 (pA E)) h 13 [(0, some (.ref v0)), (1, some (.int v1)), (2, some (.int v2)), (3, some (.int v3))] [] := by
  unfold fX12_satisfies_c13 at hf
  refine p_iload_n X (dcg dc_X12_satisfies 9 rfl) rfl rfl ?_
  refine p_aload_n X (dcg dc_X12_satisfies 10 rfl) rfl rfl ?_
  obtain ⟨hk6, hf⟩ := gd_some hf
  refine p_getR X fl_X12_81 rfl (by decide) (dcg dc_X12_satisfies 11 rfl) hk6 ?_
  refine p_iload_n X (dcg dc_X12_satisfies 12 rfl) rfl rfl ?_
  obtain ⟨a7, e8, hf⟩ := gs_some hf
  first | subst e8 | (try rw [e8])
  obtain ⟨⟨hk10, hb9⟩, hf⟩ := gd_some hf
  refine p_iald X (dcg dc_X12_satisfies 13 rfl) hk10 (vp_of_inb hb9) ?_
  refine p_icmp_ge (tgt := 66) X (dcg dc_X12_satisfies 14 rfl) (by decide) (fun q => ?_) (fun q => ?_)
  · have hf := if_t q hf
    obtain ⟨y11, hf, hy12⟩ := mr_some hf
    have hy12f := kf y11 hy12
    subst hy12f
    refine p_aload_n X (dcg dc_X12_satisfies 40 rfl) rfl rfl ?_
    refine p_iload_n X (dcg dc_X12_satisfies 41 rfl) rfl rfl ?_
    obtain ⟨z13, hz13, hf⟩ := bd_some hf
    refine p_callV (As := [_]) X ml_X12_343 (dcg dc_X12_satisfies 42 rfl) rfl rfl hk6 (wX12_joined hG hz13) (by decide) (room4 (Nat.le_of_ble_eq_true rfl)) (Nat.le_refl _) (Nat.le_refl _) ?_
    rintro _ u9 ⟨rfl, e9⟩; have e9 := e9.symm; subst e9
    obtain ⟨hg14, hf⟩ := gd_some hf
    have er := Option.some.inj hf
    subst er
    exact p_zret X rfl (congrArg Value.int hg14) (dcg dc_X12_satisfies 43 rfl) ⟨rfl, rfl⟩ (Nat.le_refl _) (Nat.le_refl _)
  · have hf := if_f q hf
    refine p_aload_n X (dcg dc_X12_satisfies 15 rfl) rfl rfl ?_
    refine p_getR X fl_X12_60 rfl (by decide) (dcg dc_X12_satisfies 16 rfl) hk6 ?_
    refine p_sipush (v := 400) X (dcg dc_X12_satisfies 17 rfl) (by decide) ?_
    refine p_iload_n X (dcg dc_X12_satisfies 18 rfl) rfl rfl ?_
    refine p_imul X (dcg dc_X12_satisfies 19 rfl) ?_
    refine p_iload_n X (dcg dc_X12_satisfies 20 rfl) rfl rfl ?_
    refine p_iadd X (dcg dc_X12_satisfies 21 rfl) ?_
    obtain ⟨a15, e16, hf⟩ := gs_some hf
    first | subst e16 | (try rw [e16])
    obtain ⟨⟨hk18, hb17⟩, hf⟩ := gd_some hf
    refine p_iald X (dcg dc_X12_satisfies 22 rfl) hk18 (vp_of_inb hb17) ?_
    refine p_iconst (v := 4) X (dcg dc_X12_satisfies 23 rfl) (by decide) ?_
    refine p_icmp_ge (tgt := 60) X (dcg dc_X12_satisfies 24 rfl) (by decide) (fun q => ?_) (fun q => ?_)
    · have hf := if_t q hf
      refine p_pick [0, 1, 2, 3] ?_
      exact wX12_satisfies_b60 X hG hnm hf k0 kf
    · have hf := if_f q hf
      refine p_aload_n X (dcg dc_X12_satisfies 25 rfl) rfl rfl ?_
      refine p_getR X fl_X12_111 rfl (by decide) (dcg dc_X12_satisfies 26 rfl) hk6 ?_
      refine p_iload_n X (dcg dc_X12_satisfies 27 rfl) rfl rfl ?_
      refine p_aload_n X (dcg dc_X12_satisfies 28 rfl) rfl rfl ?_
      refine p_iload_n X (dcg dc_X12_satisfies 29 rfl) rfl rfl ?_
      refine p_iload_n X (dcg dc_X12_satisfies 30 rfl) rfl rfl ?_
      refine p_iload_n X (dcg dc_X12_satisfies 31 rfl) rfl rfl ?_
      obtain ⟨z19, hz19, hf⟩ := bd_some hf
      refine p_callV (As := [_, _, _]) X ml_X12_340 (dcg dc_X12_satisfies 32 rfl) rfl rfl hk6 (wX12_meets hG hz19) (by decide) (room4 (Nat.le_of_ble_eq_true rfl)) (Nat.le_refl _) (Nat.le_refl _) ?_
      rintro _ u9 ⟨rfl, e9⟩; have e9 := e9.symm; subst e9
      refine p_if_le (tgt := 58) X (dcg dc_X12_satisfies 33 rfl) (by decide) (fun q => ?_) (fun q => ?_)
      · have hf := if_t q hf
        refine p_iconst (v := 0) X (dcg dc_X12_satisfies 36 rfl) (by decide) ?_
        refine p_pick [0, 1, 2, 3] ?_
        exact wX12_satisfies_b59 X hG hnm hf k0 kf
      · have hf := if_f q hf
        refine p_iconst (v := 1) X (dcg dc_X12_satisfies 34 rfl) (by decide) ?_
        refine p_goto (tgt := 59) X (dcg dc_X12_satisfies 35 rfl) (by decide) ?_
        refine p_pick [0, 1, 2, 3] ?_
        exact wX12_satisfies_b59 X hG hnm hf k0 kf
noncomputable def fX12_satisfies_l13 (v0 : Nat) (v1 : Int32) (v2 : Int32) (v3 : Int32) (h : PH) : Option (Int32 × PH) := wh (fun z : (Int32 × PH) => fX12_satisfies_c13 v0 v1 v2 (z.1) (z.2)) (v3, h)
set_option maxRecDepth 100000 in
theorem mX12_satisfies_l13 {v0 : Nat} {v1 : Int32} {v2 : Int32} {v3 : Int32} {h : PH} {r : (Int32 × PH)} (hf : fX12_satisfies_l13 v0 v1 v2 v3 h = some r) : eqz h (hX r.2) (hV r.2) := by
  unfold fX12_satisfies_l13 at hf
  refine wh_ind (P := fun z => eqz (z.2) (hX r.2) (hV r.2)) (fun z x0 hs i1 i2 => ?_) _ hf
  obtain ⟨c0, cf⟩ := mX12_satisfies_c13 (v0 := v0) (v1 := v1) (v2 := v2) (v3 := z.1) (h := z.2) hs
  rcases hxx : x0 with zz | zz
  · exact eqz_tr (c0 zz hxx) (i1 zz hxx)
  · have ee := i2 zz hxx; subst ee; exact cf zz hxx
set_option maxRecDepth 100000 in
theorem wX12_satisfies_l13 {E : PE} {p : Program} {l : Launch} {e : Env} {s : State} {m : MethodId} {args : Array Value} {below : List Frame} {meth : Method} {c : Code} (X : Cx E p l e (rmv 3 0 0) s m args below meth c RX12 cX12_satisfies 4 (some .boolean)) (hG : Gs E l) (hnm : meth.name = yX12_satisfies.name) {v0 : Nat} {v1 : Int32} {v2 : Int32} {v3 : Int32} {h : PH} {r : (Int32 × PH)} (hf : fX12_satisfies_l13 v0 v1 v2 v3 h = some r)  : PW E p l e (rmv 3 0 0) s m args below meth c 4 0 0 (MQ below (QG E (fun v u => v = some (.int r.1) ∧ u = r.2)) args s 0 0 (pA E)) h 13 [(0, some (.ref v0)), (1, some (.int v1)), (2, some (.int v2)), (3, some (.int v3))] [] := by
  unfold fX12_satisfies_l13 at hf
  refine wh_ind (P := fun z => PW E p l e (rmv 3 0 0) s m args below meth c 4 0 0 (MQ below (QG E (fun v u => v = some (.int r.1) ∧ u = r.2)) args s 0 0 (pA E)) (z.2) 13 [(0, some (.ref v0)), (1, some (.int v1)), (2, some (.int v2)), (3, some (.int (z.1)))] []) (fun z x0 hs i1 i2 => ?_) _ hf
  exact wX12_satisfies_c13 (r := r) (v0 := v0) (v1 := v1) (v2 := v2) (v3 := z.1) (h := z.2) X hG hnm hs i1  i2
noncomputable def fX12_satisfies (v0 : Nat) (v1 : Int32) (v2 : Int32) (h : PH) : Option (Int32 × PH) :=
  gd (hK h v0 = 12) (gs (hR h 12 v0 4) (fun a2 =>
  gd (hK h a2 = 21 ∧ inb v2 (hN h a2)) (if (¬ (hI h 21 a2 (Int32.toNatClampNeg v2)) = 0) then (fX12_satisfies_l13 v0 v1 v2 (0 : Int32) h) else
  some (((0 : Int32), h)))))
set_option maxRecDepth 100000 in
theorem mX12_satisfies {v0 : Nat} {v1 : Int32} {v2 : Int32} {h : PH} {r : (Int32 × PH)} (hf : fX12_satisfies v0 v1 v2 h = some r) : eqz h (hX r.2) (hV r.2) := by
  unfold fX12_satisfies at hf
  have hle := eqz_rf h
  obtain ⟨hk1, hf⟩ := gd_some hf
  obtain ⟨a2, e3, hf⟩ := gs_some hf
  obtain ⟨⟨hk5, hb4⟩, hf⟩ := gd_some hf
  rcases ite_or hf with ⟨q, hf⟩ | ⟨q, hf⟩
  · have hf := if_t q hf
    exact eqz_rt (mX12_satisfies_l13 hf) hle
  · have hf := if_f q hf
    have ee := Option.some.inj hf; subst ee; exact hle
set_option maxRecDepth 100000 in
theorem wX12_satisfies {E : PE} {l : Launch} (hG : Gs E l) {v0 : Nat} {v1 : Int32} {v2 : Int32} {h : PH} {r : (Int32 × PH)} (hf : fX12_satisfies v0 v1 v2 h = some r) : Ct E l 3 0 0 yX12_satisfies cX12_satisfies 4 (some .boolean) [.ref v0, .int v1, .int v2] h (fun v u => v = some (.int r.1) ∧ u = r.2) := by
  refine ct_of hG (by decide) (Nat.le_of_ble_eq_true rfl) ?_
  intro p e s m args below meth c X hnm
  show PW E p l e _ s m args below meth c _ 0 0 _ h 0 [(0, some (.ref v0)), (1, some (.int v1)), (2, some (.int v2))] []
  unfold fX12_satisfies at hf
  refine p_aload_n X (dcg dc_X12_satisfies 0 rfl) rfl rfl ?_
  obtain ⟨hk1, hf⟩ := gd_some hf
  refine p_getR X fl_X12_20 rfl (by decide) (dcg dc_X12_satisfies 1 rfl) hk1 ?_
  refine p_iload_n X (dcg dc_X12_satisfies 2 rfl) rfl rfl ?_
  obtain ⟨a2, e3, hf⟩ := gs_some hf
  first | subst e3 | (try rw [e3])
  obtain ⟨⟨hk5, hb4⟩, hf⟩ := gd_some hf
  refine p_zald X (dcg dc_X12_satisfies 3 rfl) hk5 (vp_of_inb hb4) ?_
  refine p_if_ne (tgt := 11) X (dcg dc_X12_satisfies 4 rfl) (by decide) (fun q => ?_) (fun q => ?_)
  · have hf := if_t q hf
    refine p_iconst (v := 0) X (dcg dc_X12_satisfies 7 rfl) (by decide) ?_
    refine p_istore_n X (dcg dc_X12_satisfies 8 rfl) rfl (by decide) rfl ?_
    refine p_pick [0, 1, 2, 3] ?_
    exact wX12_satisfies_l13 X hG hnm hf 
  · have hf := if_f q hf
    refine p_iconst (v := 0) X (dcg dc_X12_satisfies 5 rfl) (by decide) ?_
    have er := Option.some.inj hf
    subst er
    exact p_zret X rfl rfl (dcg dc_X12_satisfies 6 rfl) ⟨rfl, rfl⟩ (Nat.le_refl _) (Nat.le_refl _)
theorem dc_X12_notes : decs cX12_notes [(0, .iconst 0, 1), (1, .istore_n 2, 1), (2, .iload_n 2, 1), (3, .bipush 6, 2), (5, .if_icmp .ge 39, 3), (8, .aload_n 0, 1), (9, .getfield 45, 3), (12, .iload_n 2, 1), (13, .aload_n 0, 1), (14, .getfield 87, 3), (17, .iload_n 2, 1), (18, .iaload, 1), (19, .iconst (-1), 1), (20, .if_icmp .eq 16, 3), (23, .aload_n 0, 1), (24, .iload_n 2, 1), (25, .iload_n 1, 1), (26, .invokevirtual 179, 3), (29, .ifCond .eq 7, 3), (32, .iconst 1, 1), (33, .goto 4, 3), (36, .iconst 0, 1), (37, .bastore, 1), (38, .iinc 2 1, 3), (41, .goto (-39), 3), (44, .return_, 1)] = true := by decide +kernel
noncomputable def fX12_notes_b37 (v0 : Nat) (v1 : Int32) (v2 : Int32) (t0 : Option Nat) (t1 : Int32) (t2 : Int32) (h : PH) : Option ((Int32 × PH) ⊕ PH) :=
  gs t0 (fun a8 =>
  gd (hK h a8 = 21 ∧ inb t1 (hN h a8)) (lt (sI h 21 a8 (Int32.toNatClampNeg t1) (t2 &&& 1)) (fun h12 =>
  some (.inl ((v2 + 1), h12)))))
set_option maxRecDepth 100000 in
theorem mX12_notes_b37 {v0 : Nat} {v1 : Int32} {v2 : Int32} {t0 : Option Nat} {t1 : Int32} {t2 : Int32} {h : PH} {x : ((Int32 × PH) ⊕ PH)} (hf : fX12_notes_b37 v0 v1 v2 t0 t1 t2 h = some x) : (∀ w9 : (Int32 × PH), x = .inl w9 → eqz h (hX (w9.2)) (hV (w9.2))) ∧ (∀ w9 : PH, x = .inr w9 → eqz h (hX w9) (hV w9)) := by
  unfold fX12_notes_b37 at hf
  have hle := eqz_rf h
  obtain ⟨a8, e9, hf⟩ := gs_some hf
  obtain ⟨⟨hk11, hb10⟩, hf⟩ := gd_some hf
  obtain ⟨h12, rfl, hf⟩ := lt_some hf
  have ee := Option.some.inj hf; subst ee
  exact ⟨(fun z e => by have ee := Sum.inl.inj (e); subst ee; exact hle), (fun z e => nomatch e)⟩
set_option maxRecDepth 100000 in
theorem wX12_notes_b37 {E : PE} {p : Program} {l : Launch} {e : Env} {s : State} {m : MethodId} {args : Array Value} {below : List Frame} {meth : Method} {c : Code} (X : Cx E p l e (rmv 4 0 0) s m args below meth c RX12 cX12_notes 3 (none)) (hG : Gs E l) (hnm : meth.name = yX12_notes.name) {v0 : Nat} {v1 : Int32} {v2 : Int32} {t0 : Option Nat} {t1 : Int32} {t2 : Int32} {h : PH} {r : PH} {x : ((Int32 × PH) ⊕ PH)} (hf : fX12_notes_b37 v0 v1 v2 t0 t1 t2 h = some x) (k0 : ∀ z : (Int32 × PH), x = .inl z → PW E p l e (rmv 4 0 0) s m args below meth c 3 0 0 (MQ below (QG E (fun v u => v = none ∧ u = r)) args s 0 0 (pA E)) (z.2) 2 [(0, some (.ref v0)), (1, some (.int v1)), (2, some (.int (z.1)))] []) (kf : ∀ z : PH, x = .inr z → z = r) : PW E p l e (rmv 4 0 0) s m args below meth c 3 0 0 (MQ below (QG E (fun v u => v = none ∧ u = r)) args s 0 0 (pA E)) h 37 [(0, some (.ref v0)), (1, some (.int v1)), (2, some (.int v2))] [.int t2, .int t1, va_rf t0] := by
  unfold fX12_notes_b37 at hf
  obtain ⟨a8, e9, hf⟩ := gs_some hf
  first | subst e9 | (try rw [e9])
  obtain ⟨⟨hk11, hb10⟩, hf⟩ := gd_some hf
  refine p_zast X (dcg dc_X12_notes 22 rfl) hk11 (vp_of_inb hb10) ?_
  obtain ⟨h12, rfl, hf⟩ := lt_some hf
  refine p_iinc (v := 1) X (dcg dc_X12_notes 23 rfl) rfl (by decide) (by decide) rfl ?_
  refine p_goto (tgt := 2) X (dcg dc_X12_notes 24 rfl) (by decide) ?_
  refine p_pick [0, 1, 2] ?_
  exact k0 _ (Option.some.inj hf).symm
noncomputable def fX12_notes_b36 (v0 : Nat) (v1 : Int32) (v2 : Int32) (t0 : Option Nat) (t1 : Int32) (h : PH) : Option ((Int32 × PH) ⊕ PH) :=
  fX12_notes_b37 v0 v1 v2 t0 t1 (0 : Int32) h
set_option maxRecDepth 100000 in
theorem mX12_notes_b36 {v0 : Nat} {v1 : Int32} {v2 : Int32} {t0 : Option Nat} {t1 : Int32} {h : PH} {x : ((Int32 × PH) ⊕ PH)} (hf : fX12_notes_b36 v0 v1 v2 t0 t1 h = some x) : (∀ w9 : (Int32 × PH), x = .inl w9 → eqz h (hX (w9.2)) (hV (w9.2))) ∧ (∀ w9 : PH, x = .inr w9 → eqz h (hX w9) (hV w9)) := by
  unfold fX12_notes_b36 at hf
  have hle := eqz_rf h
  obtain ⟨c0, cf⟩ := mX12_notes_b37 hf
  exact ⟨fun z e => eqz_rt (c0 z (e)) hle, fun z e => eqz_rt (cf z (e)) hle⟩
set_option maxRecDepth 100000 in
theorem wX12_notes_b36 {E : PE} {p : Program} {l : Launch} {e : Env} {s : State} {m : MethodId} {args : Array Value} {below : List Frame} {meth : Method} {c : Code} (X : Cx E p l e (rmv 4 0 0) s m args below meth c RX12 cX12_notes 3 (none)) (hG : Gs E l) (hnm : meth.name = yX12_notes.name) {v0 : Nat} {v1 : Int32} {v2 : Int32} {t0 : Option Nat} {t1 : Int32} {h : PH} {r : PH} {x : ((Int32 × PH) ⊕ PH)} (hf : fX12_notes_b36 v0 v1 v2 t0 t1 h = some x) (k0 : ∀ z : (Int32 × PH), x = .inl z → PW E p l e (rmv 4 0 0) s m args below meth c 3 0 0 (MQ below (QG E (fun v u => v = none ∧ u = r)) args s 0 0 (pA E)) (z.2) 2 [(0, some (.ref v0)), (1, some (.int v1)), (2, some (.int (z.1)))] []) (kf : ∀ z : PH, x = .inr z → z = r) : PW E p l e (rmv 4 0 0) s m args below meth c 3 0 0 (MQ below (QG E (fun v u => v = none ∧ u = r)) args s 0 0 (pA E)) h 36 [(0, some (.ref v0)), (1, some (.int v1)), (2, some (.int v2))] [.int t1, va_rf t0] := by
  unfold fX12_notes_b36 at hf
  refine p_iconst (v := 0) X (dcg dc_X12_notes 21 rfl) (by decide) ?_
  refine p_pick [0, 1, 2] ?_
  exact wX12_notes_b37 X hG hnm hf k0 kf
noncomputable def fX12_notes_c2 (v0 : Nat) (v1 : Int32) (v2 : Int32) (h : PH) : Option ((Int32 × PH) ⊕ PH) :=
  if ((6 : Int32) ≤ v2) then (mr (some (h))) else
  gd (hK h v0 = 12) (gs (hR h 12 v0 34) (fun a4 =>
  gd (hK h a4 = 20 ∧ inb v2 (hN h a4)) (if ((hI h 20 a4 (Int32.toNatClampNeg v2)) = (-1 : Int32)) then (fX12_notes_b36 v0 v1 v2 (hR h 12 v0 13) v2 h) else
  bd (fX12_satisfies v0 v2 v1 h) (fun z13 =>
  if (z13.1 = 0) then (fX12_notes_b36 v0 v1 v2 (hR h 12 v0 13) v2 z13.2) else
  fX12_notes_b37 v0 v1 v2 (hR h 12 v0 13) v2 (1 : Int32) z13.2))))
set_option maxRecDepth 100000 in
theorem mX12_notes_c2 {v0 : Nat} {v1 : Int32} {v2 : Int32} {h : PH} {x : ((Int32 × PH) ⊕ PH)} (hf : fX12_notes_c2 v0 v1 v2 h = some x) : (∀ w9 : (Int32 × PH), x = .inl w9 → eqz h (hX (w9.2)) (hV (w9.2))) ∧ (∀ w9 : PH, x = .inr w9 → eqz h (hX w9) (hV w9)) := by
  unfold fX12_notes_c2 at hf
  have hle := eqz_rf h
  rcases ite_or hf with ⟨q, hf⟩ | ⟨q, hf⟩
  · have hf := if_t q hf
    obtain ⟨y1, hfm, rfl⟩ := mr_some hf; have hf := hfm; clear hfm
    have ee := Option.some.inj hf; subst ee
    exact ⟨(fun z e => nomatch e), (fun z e => by have ee := Sum.inr.inj (e); subst ee; exact hle)⟩
  · have hf := if_f q hf
    obtain ⟨hk3, hf⟩ := gd_some hf
    obtain ⟨a4, e5, hf⟩ := gs_some hf
    obtain ⟨⟨hk7, hb6⟩, hf⟩ := gd_some hf
    rcases ite_or hf with ⟨q, hf⟩ | ⟨q, hf⟩
    · have hf := if_t q hf
      obtain ⟨c0, cf⟩ := mX12_notes_b36 hf
      exact ⟨fun z e => eqz_rt (c0 z (e)) hle, fun z e => eqz_rt (cf z (e)) hle⟩
    · have hf := if_f q hf
      obtain ⟨z13, hz13, hf⟩ := bd_some hf
      have hle := eqz_rt (mX12_satisfies hz13) hle
      rcases ite_or hf with ⟨q, hf⟩ | ⟨q, hf⟩
      · have hf := if_t q hf
        obtain ⟨c0, cf⟩ := mX12_notes_b36 hf
        exact ⟨fun z e => eqz_rt (c0 z (e)) hle, fun z e => eqz_rt (cf z (e)) hle⟩
      · have hf := if_f q hf
        obtain ⟨c0, cf⟩ := mX12_notes_b37 hf
        exact ⟨fun z e => eqz_rt (c0 z (e)) hle, fun z e => eqz_rt (cf z (e)) hle⟩
set_option maxRecDepth 100000 in
theorem wX12_notes_c2 {E : PE} {p : Program} {l : Launch} {e : Env} {s : State} {m : MethodId} {args : Array Value} {below : List Frame} {meth : Method} {c : Code} (X : Cx E p l e (rmv 4 0 0) s m args below meth c RX12 cX12_notes 3 (none)) (hG : Gs E l) (hnm : meth.name = yX12_notes.name) {v0 : Nat} {v1 : Int32} {v2 : Int32} {h : PH} {r : PH} {x : ((Int32 × PH) ⊕ PH)} (hf : fX12_notes_c2 v0 v1 v2 h = some x) (k0 : ∀ z : (Int32 × PH), x = .inl z → PW E p l e (rmv 4 0 0) s m args below meth c 3 0 0 (MQ below (QG E (fun v u => v = none ∧ u = r)) args s 0 0 (pA E)) (z.2) 2 [(0, some (.ref v0)), (1, some (.int v1)), (2, some (.int (z.1)))] []) (kf : ∀ z : PH, x = .inr z → z = r) : PW E p l e (rmv 4 0 0) s m args below meth c 3 0 0 (MQ below (QG E (fun v u => v = none ∧ u = r)) args s 0 0 (pA E)) h 2 [(0, some (.ref v0)), (1, some (.int v1)), (2, some (.int v2))] [] := by
  unfold fX12_notes_c2 at hf
  refine p_iload_n X (dcg dc_X12_notes 2 rfl) rfl rfl ?_
  refine p_bipush (v := 6) X (dcg dc_X12_notes 3 rfl) (by decide) ?_
  refine p_icmp_ge (tgt := 44) X (dcg dc_X12_notes 4 rfl) (by decide) (fun q => ?_) (fun q => ?_)
  · have hf := if_t q hf
    obtain ⟨y1, hf, hy2⟩ := mr_some hf
    have hy2f := kf y1 hy2
    subst hy2f
    have er := Option.some.inj hf
    subst er
    exact p_vret X rfl (dcg dc_X12_notes 25 rfl) ⟨rfl, rfl⟩ (Nat.le_refl _) (Nat.le_refl _)
  · have hf := if_f q hf
    refine p_aload_n X (dcg dc_X12_notes 5 rfl) rfl rfl ?_
    obtain ⟨hk3, hf⟩ := gd_some hf
    refine p_getR X fl_X12_45 rfl (by decide) (dcg dc_X12_notes 6 rfl) hk3 ?_
    refine p_iload_n X (dcg dc_X12_notes 7 rfl) rfl rfl ?_
    refine p_aload_n X (dcg dc_X12_notes 8 rfl) rfl rfl ?_
    refine p_getR X fl_X12_87 rfl (by decide) (dcg dc_X12_notes 9 rfl) hk3 ?_
    refine p_iload_n X (dcg dc_X12_notes 10 rfl) rfl rfl ?_
    obtain ⟨a4, e5, hf⟩ := gs_some hf
    first | subst e5 | (try rw [e5])
    obtain ⟨⟨hk7, hb6⟩, hf⟩ := gd_some hf
    refine p_iald X (dcg dc_X12_notes 11 rfl) hk7 (vp_of_inb hb6) ?_
    refine p_iconst (v := -1) X (dcg dc_X12_notes 12 rfl) (by decide) ?_
    refine p_icmp_eq (tgt := 36) X (dcg dc_X12_notes 13 rfl) (by decide) (fun q => ?_) (fun q => ?_)
    · have hf := if_t q hf
      refine p_pick [0, 1, 2] ?_
      exact wX12_notes_b36 X hG hnm hf k0 kf
    · have hf := if_f q hf
      refine p_aload_n X (dcg dc_X12_notes 14 rfl) rfl rfl ?_
      refine p_iload_n X (dcg dc_X12_notes 15 rfl) rfl rfl ?_
      refine p_iload_n X (dcg dc_X12_notes 16 rfl) rfl rfl ?_
      obtain ⟨z13, hz13, hf⟩ := bd_some hf
      refine p_callV (As := [_, _]) X ml_X12_179 (dcg dc_X12_notes 17 rfl) rfl rfl hk3 (wX12_satisfies hG hz13) (by decide) (room4 (Nat.le_of_ble_eq_true rfl)) (Nat.le_refl _) (Nat.le_refl _) ?_
      rintro _ u9 ⟨rfl, e9⟩; have e9 := e9.symm; subst e9
      refine p_if_eq (tgt := 36) X (dcg dc_X12_notes 18 rfl) (by decide) (fun q => ?_) (fun q => ?_)
      · have hf := if_t q hf
        refine p_pick [0, 1, 2] ?_
        exact wX12_notes_b36 X hG hnm hf k0 kf
      · have hf := if_f q hf
        refine p_iconst (v := 1) X (dcg dc_X12_notes 19 rfl) (by decide) ?_
        refine p_goto (tgt := 37) X (dcg dc_X12_notes 20 rfl) (by decide) ?_
        refine p_pick [0, 1, 2] ?_
        exact wX12_notes_b37 X hG hnm hf k0 kf
noncomputable def fX12_notes_l2 (v0 : Nat) (v1 : Int32) (v2 : Int32) (h : PH) : Option PH := wh (fun z : (Int32 × PH) => fX12_notes_c2 v0 v1 (z.1) (z.2)) (v2, h)
set_option maxRecDepth 100000 in
theorem mX12_notes_l2 {v0 : Nat} {v1 : Int32} {v2 : Int32} {h : PH} {r : PH} (hf : fX12_notes_l2 v0 v1 v2 h = some r) : eqz h (hX r) (hV r) := by
  unfold fX12_notes_l2 at hf
  refine wh_ind (P := fun z => eqz (z.2) (hX r) (hV r)) (fun z x0 hs i1 i2 => ?_) _ hf
  obtain ⟨c0, cf⟩ := mX12_notes_c2 (v0 := v0) (v1 := v1) (v2 := z.1) (h := z.2) hs
  rcases hxx : x0 with zz | zz
  · exact eqz_tr (c0 zz hxx) (i1 zz hxx)
  · have ee := i2 zz hxx; subst ee; exact cf zz hxx
set_option maxRecDepth 100000 in
theorem wX12_notes_l2 {E : PE} {p : Program} {l : Launch} {e : Env} {s : State} {m : MethodId} {args : Array Value} {below : List Frame} {meth : Method} {c : Code} (X : Cx E p l e (rmv 4 0 0) s m args below meth c RX12 cX12_notes 3 (none)) (hG : Gs E l) (hnm : meth.name = yX12_notes.name) {v0 : Nat} {v1 : Int32} {v2 : Int32} {h : PH} {r : PH} (hf : fX12_notes_l2 v0 v1 v2 h = some r)  : PW E p l e (rmv 4 0 0) s m args below meth c 3 0 0 (MQ below (QG E (fun v u => v = none ∧ u = r)) args s 0 0 (pA E)) h 2 [(0, some (.ref v0)), (1, some (.int v1)), (2, some (.int v2))] [] := by
  unfold fX12_notes_l2 at hf
  refine wh_ind (P := fun z => PW E p l e (rmv 4 0 0) s m args below meth c 3 0 0 (MQ below (QG E (fun v u => v = none ∧ u = r)) args s 0 0 (pA E)) (z.2) 2 [(0, some (.ref v0)), (1, some (.int v1)), (2, some (.int (z.1)))] []) (fun z x0 hs i1 i2 => ?_) _ hf
  exact wX12_notes_c2 (r := r) (v0 := v0) (v1 := v1) (v2 := z.1) (h := z.2) X hG hnm hs i1  i2
noncomputable def fX12_notes (v0 : Nat) (v1 : Int32) (h : PH) : Option PH :=
  fX12_notes_l2 v0 v1 (0 : Int32) h
set_option maxRecDepth 100000 in
theorem mX12_notes {v0 : Nat} {v1 : Int32} {h : PH} {r : PH} (hf : fX12_notes v0 v1 h = some r) : eqz h (hX r) (hV r) := by
  unfold fX12_notes at hf
  have hle := eqz_rf h
  exact eqz_rt (mX12_notes_l2 hf) hle
set_option maxRecDepth 100000 in
theorem wX12_notes {E : PE} {l : Launch} (hG : Gs E l) {v0 : Nat} {v1 : Int32} {h : PH} {r : PH} (hf : fX12_notes v0 v1 h = some r) : Ct E l 4 0 0 yX12_notes cX12_notes 3 (none) [.ref v0, .int v1] h (fun v u => v = none ∧ u = r) := by
  refine ct_of hG (by decide) (Nat.le_of_ble_eq_true rfl) ?_
  intro p e s m args below meth c X hnm
  show PW E p l e _ s m args below meth c _ 0 0 _ h 0 [(0, some (.ref v0)), (1, some (.int v1))] []
  unfold fX12_notes at hf
  refine p_iconst (v := 0) X (dcg dc_X12_notes 0 rfl) (by decide) ?_
  refine p_istore_n X (dcg dc_X12_notes 1 rfl) rfl (by decide) rfl ?_
  refine p_pick [0, 1, 2] ?_
  exact wX12_notes_l2 X hG hnm hf 
theorem dc_X12_keeps : decs cX12_keeps [(0, .aload_n 0, 1), (1, .getfield 183, 3), (4, .bipush 20, 2), (6, .if_icmp .ne 109, 3), (9, .aload_n 0, 1), (10, .dup, 1), (11, .getfield 183, 3), (14, .iconst 1, 1), (15, .isub, 1), (16, .putfield 183, 3), (19, .iconst 0, 1), (20, .istore_n 2, 1), (21, .iload_n 2, 1), (22, .aload_n 0, 1), (23, .getfield 183, 3), (26, .if_icmp .ge 89, 3), (29, .aload_n 0, 1), (30, .getfield 33, 3), (33, .iload_n 2, 1), (34, .aload_n 0, 1), (35, .getfield 33, 3), (38, .iload_n 2, 1), (39, .iconst 1, 1), (40, .iadd, 1), (41, .iaload, 1), (42, .iastore, 1), (43, .aload_n 0, 1), (44, .getfield 36, 3), (47, .iload_n 2, 1), (48, .aload_n 0, 1), (49, .getfield 36, 3), (52, .iload_n 2, 1), (53, .iconst 1, 1), (54, .iadd, 1), (55, .iaload, 1), (56, .iastore, 1), (57, .aload_n 0, 1), (58, .getfield 42, 3), (61, .iload_n 2, 1), (62, .aload_n 0, 1), (63, .getfield 42, 3), (66, .iload_n 2, 1), (67, .iconst 1, 1), (68, .iadd, 1), (69, .baload, 1), (70, .bastore, 1), (71, .iconst 0, 1), (72, .istore_n 3, 1), (73, .iload_n 3, 1), (74, .bipush 40, 2), (76, .if_icmp .ge 33, 3), (79, .aload_n 0, 1), (80, .getfield 39, 3), (83, .bipush 40, 2), (85, .iload_n 2, 1), (86, .imul, 1), (87, .iload_n 3, 1), (88, .iadd, 1), (89, .aload_n 0, 1), (90, .getfield 39, 3), (93, .bipush 40, 2), (95, .iload_n 2, 1), (96, .iconst 1, 1), (97, .iadd, 1), (98, .imul, 1), (99, .iload_n 3, 1), (100, .iadd, 1), (101, .iaload, 1), (102, .iastore, 1), (103, .iinc 3 1, 3), (106, .goto (-33), 3), (109, .iinc 2 1, 3), (112, .goto (-91), 3), (115, .aload_n 0, 1), (116, .getfield 33, 3), (119, .aload_n 0, 1), (120, .getfield 183, 3), (123, .iload_n 1, 1), (124, .iastore, 1), (125, .aload_n 0, 1), (126, .getfield 36, 3), (129, .aload_n 0, 1), (130, .getfield 183, 3), (133, .aload_n 0, 1), (134, .getfield 27, 3), (137, .iload_n 1, 1), (138, .iaload, 1), (139, .iastore, 1), (140, .aload_n 0, 1), (141, .getfield 42, 3), (144, .aload_n 0, 1), (145, .getfield 183, 3), (148, .aload_n 0, 1), (149, .getfield 20, 3), (152, .iload_n 1, 1), (153, .baload, 1), (154, .bastore, 1), (155, .iconst 0, 1), (156, .istore_n 2, 1), (157, .iload_n 2, 1), (158, .bipush 40, 2), (160, .if_icmp .ge 29, 3), (163, .aload_n 0, 1), (164, .getfield 39, 3), (167, .bipush 40, 2), (169, .aload_n 0, 1), (170, .getfield 183, 3), (173, .imul, 1), (174, .iload_n 2, 1), (175, .iadd, 1), (176, .aload_n 0, 1), (177, .iload_n 1, 1), (178, .iload_n 2, 1), (179, .invokevirtual 186, 3), (182, .iastore, 1), (183, .iinc 2 1, 3), (186, .goto (-29), 3), (189, .aload_n 0, 1), (190, .dup, 1), (191, .getfield 183, 3), (194, .iconst 1, 1), (195, .iadd, 1), (196, .putfield 183, 3), (199, .return_, 1)] = true := by decide +kernel
noncomputable def fX12_keeps_c157 (v0 : Nat) (v1 : Int32) (v2 : Int32) (h : PH) : Option ((Int32 × PH) ⊕ PH) :=
  if ((40 : Int32) ≤ v2) then (mr (gd (hK h v0 = 12) (lt (sI h 12 v0 14 ((hI h 12 v0 14) + (1 : Int32))) (fun h29 =>
  some (h29))))) else
  gd (hK h v0 = 12) (bd (fX12_wordIn v0 v1 v2 h) (fun z31 =>
  gs (hR h 12 v0 11) (fun a32 =>
  gd (hK h a32 = 20 ∧ inb (((40 : Int32) * (hI h 12 v0 14)) + v2) (hN h a32)) (lt (sI h 20 a32 (Int32.toNatClampNeg (((40 : Int32) * (hI h 12 v0 14)) + v2)) z31) (fun h36 =>
  some (.inl ((v2 + 1), h36)))))))
set_option maxRecDepth 100000 in
theorem mX12_keeps_c157 {v0 : Nat} {v1 : Int32} {v2 : Int32} {h : PH} {x : ((Int32 × PH) ⊕ PH)} (hf : fX12_keeps_c157 v0 v1 v2 h = some x) : (∀ w9 : (Int32 × PH), x = .inl w9 → eqz h (hX (w9.2)) (hV (w9.2))) ∧ (∀ w9 : PH, x = .inr w9 → eqz h (hX w9) (hV w9)) := by
  unfold fX12_keeps_c157 at hf
  have hle := eqz_rf h
  rcases ite_or hf with ⟨q, hf⟩ | ⟨q, hf⟩
  · have hf := if_t q hf
    obtain ⟨y26, hfm, rfl⟩ := mr_some hf; have hf := hfm; clear hfm
    obtain ⟨hk28, hf⟩ := gd_some hf
    obtain ⟨h29, rfl, hf⟩ := lt_some hf
    have ee := Option.some.inj hf; subst ee
    exact ⟨(fun z e => nomatch e), (fun z e => by have ee := Sum.inr.inj (e); subst ee; exact hle)⟩
  · have hf := if_f q hf
    obtain ⟨hk30, hf⟩ := gd_some hf
    obtain ⟨z31, hz31, hf⟩ := bd_some hf
    obtain ⟨a32, e33, hf⟩ := gs_some hf
    obtain ⟨⟨hk35, hb34⟩, hf⟩ := gd_some hf
    obtain ⟨h36, rfl, hf⟩ := lt_some hf
    have ee := Option.some.inj hf; subst ee
    exact ⟨(fun z e => by have ee := Sum.inl.inj (e); subst ee; exact hle), (fun z e => nomatch e)⟩
set_option maxRecDepth 100000 in
theorem wX12_keeps_c157 {E : PE} {p : Program} {l : Launch} {e : Env} {s : State} {m : MethodId} {args : Array Value} {below : List Frame} {meth : Method} {c : Code} (X : Cx E p l e (rmv 1 0 0) s m args below meth c RX12 cX12_keeps 4 (none)) (hG : Gs E l) (hnm : meth.name = yX12_keeps.name) {v0 : Nat} {v1 : Int32} {v2 : Int32} {h : PH} {r : PH} {x : ((Int32 × PH) ⊕ PH)} (hf : fX12_keeps_c157 v0 v1 v2 h = some x) (k0 : ∀ z : (Int32 × PH), x = .inl z → PW E p l e (rmv 1 0 0) s m args below meth c 4 0 0 (MQ below (QG E (fun v u => v = none ∧ u = r)) args s 0 0 (pA E)) (z.2) 157 [(0, some (.ref v0)), (1, some (.int v1)), (2, some (.int (z.1)))] []) (kf : ∀ z : PH, x = .inr z → z = r) : PW E p l e (rmv 1 0 0) s m args below meth c 4 0 0 (MQ below (QG E (fun v u => v = none ∧ u = r)) args s 0 0 (pA E)) h 157 [(0, some (.ref v0)), (1, some (.int v1)), (2, some (.int v2))] [] := by
  unfold fX12_keeps_c157 at hf
  refine p_iload_n X (dcg dc_X12_keeps 99 rfl) rfl rfl ?_
  refine p_bipush (v := 40) X (dcg dc_X12_keeps 100 rfl) (by decide) ?_
  refine p_icmp_ge (tgt := 189) X (dcg dc_X12_keeps 101 rfl) (by decide) (fun q => ?_) (fun q => ?_)
  · have hf := if_t q hf
    obtain ⟨y26, hf, hy27⟩ := mr_some hf
    have hy27f := kf y26 hy27
    subst hy27f
    refine p_aload_n X (dcg dc_X12_keeps 117 rfl) rfl rfl ?_
    refine p_dup X (dcg dc_X12_keeps 118 rfl) rfl ?_
    obtain ⟨hk28, hf⟩ := gd_some hf
    refine p_getI X fl_X12_183 rfl (by decide) (dcg dc_X12_keeps 119 rfl) hk28 ?_
    refine p_iconst (v := 1) X (dcg dc_X12_keeps 120 rfl) (by decide) ?_
    refine p_iadd X (dcg dc_X12_keeps 121 rfl) ?_
    refine p_putI X fl_X12_183 rfl (by decide) (fun q hq => by cases hq; rfl) rfl rfl (dcg dc_X12_keeps 122 rfl) hk28 ?_
    obtain ⟨h29, rfl, hf⟩ := lt_some hf
    have er := Option.some.inj hf
    subst er
    exact p_vret X rfl (dcg dc_X12_keeps 123 rfl) ⟨rfl, rfl⟩ (Nat.le_refl _) (Nat.le_refl _)
  · have hf := if_f q hf
    refine p_aload_n X (dcg dc_X12_keeps 102 rfl) rfl rfl ?_
    obtain ⟨hk30, hf⟩ := gd_some hf
    refine p_getR X fl_X12_39 rfl (by decide) (dcg dc_X12_keeps 103 rfl) hk30 ?_
    refine p_bipush (v := 40) X (dcg dc_X12_keeps 104 rfl) (by decide) ?_
    refine p_aload_n X (dcg dc_X12_keeps 105 rfl) rfl rfl ?_
    refine p_getI X fl_X12_183 rfl (by decide) (dcg dc_X12_keeps 106 rfl) hk30 ?_
    refine p_imul X (dcg dc_X12_keeps 107 rfl) ?_
    refine p_iload_n X (dcg dc_X12_keeps 108 rfl) rfl rfl ?_
    refine p_iadd X (dcg dc_X12_keeps 109 rfl) ?_
    refine p_aload_n X (dcg dc_X12_keeps 110 rfl) rfl rfl ?_
    refine p_iload_n X (dcg dc_X12_keeps 111 rfl) rfl rfl ?_
    refine p_iload_n X (dcg dc_X12_keeps 112 rfl) rfl rfl ?_
    obtain ⟨z31, hz31, hf⟩ := bd_some hf
    refine p_callV (As := [_, _]) X ml_X12_186 (dcg dc_X12_keeps 113 rfl) rfl rfl hk30 (wX12_wordIn hG hz31) (by decide) (room4 (Nat.le_of_ble_eq_true rfl)) (Nat.le_refl _) (Nat.le_refl _) ?_
    rintro _ u9 ⟨rfl, e9⟩; have e9 := e9.symm; subst e9
    obtain ⟨a32, e33, hf⟩ := gs_some hf
    first | subst e33 | (try rw [e33])
    obtain ⟨⟨hk35, hb34⟩, hf⟩ := gd_some hf
    refine p_iast X (dcg dc_X12_keeps 114 rfl) hk35 (vp_of_inb hb34) ?_
    obtain ⟨h36, rfl, hf⟩ := lt_some hf
    refine p_iinc (v := 1) X (dcg dc_X12_keeps 115 rfl) rfl (by decide) (by decide) rfl ?_
    refine p_goto (tgt := 157) X (dcg dc_X12_keeps 116 rfl) (by decide) ?_
    refine p_pick [0, 1, 2] ?_
    exact k0 _ (Option.some.inj hf).symm
noncomputable def fX12_keeps_l157 (v0 : Nat) (v1 : Int32) (v2 : Int32) (h : PH) : Option PH := wh (fun z : (Int32 × PH) => fX12_keeps_c157 v0 v1 (z.1) (z.2)) (v2, h)
set_option maxRecDepth 100000 in
theorem mX12_keeps_l157 {v0 : Nat} {v1 : Int32} {v2 : Int32} {h : PH} {r : PH} (hf : fX12_keeps_l157 v0 v1 v2 h = some r) : eqz h (hX r) (hV r) := by
  unfold fX12_keeps_l157 at hf
  refine wh_ind (P := fun z => eqz (z.2) (hX r) (hV r)) (fun z x0 hs i1 i2 => ?_) _ hf
  obtain ⟨c0, cf⟩ := mX12_keeps_c157 (v0 := v0) (v1 := v1) (v2 := z.1) (h := z.2) hs
  rcases hxx : x0 with zz | zz
  · exact eqz_tr (c0 zz hxx) (i1 zz hxx)
  · have ee := i2 zz hxx; subst ee; exact cf zz hxx
set_option maxRecDepth 100000 in
theorem wX12_keeps_l157 {E : PE} {p : Program} {l : Launch} {e : Env} {s : State} {m : MethodId} {args : Array Value} {below : List Frame} {meth : Method} {c : Code} (X : Cx E p l e (rmv 1 0 0) s m args below meth c RX12 cX12_keeps 4 (none)) (hG : Gs E l) (hnm : meth.name = yX12_keeps.name) {v0 : Nat} {v1 : Int32} {v2 : Int32} {h : PH} {r : PH} (hf : fX12_keeps_l157 v0 v1 v2 h = some r)  : PW E p l e (rmv 1 0 0) s m args below meth c 4 0 0 (MQ below (QG E (fun v u => v = none ∧ u = r)) args s 0 0 (pA E)) h 157 [(0, some (.ref v0)), (1, some (.int v1)), (2, some (.int v2))] [] := by
  unfold fX12_keeps_l157 at hf
  refine wh_ind (P := fun z => PW E p l e (rmv 1 0 0) s m args below meth c 4 0 0 (MQ below (QG E (fun v u => v = none ∧ u = r)) args s 0 0 (pA E)) (z.2) 157 [(0, some (.ref v0)), (1, some (.int v1)), (2, some (.int (z.1)))] []) (fun z x0 hs i1 i2 => ?_) _ hf
  exact wX12_keeps_c157 (r := r) (v0 := v0) (v1 := v1) (v2 := z.1) (h := z.2) X hG hnm hs i1  i2
noncomputable def fX12_keeps_b115 (v0 : Nat) (v1 : Int32) (h : PH) : Option PH :=
  gd (hK h v0 = 12) (gs (hR h 12 v0 9) (fun a3 =>
  gd (hK h a3 = 20 ∧ inb (hI h 12 v0 14) (hN h a3)) (lt (sI h 20 a3 (Int32.toNatClampNeg (hI h 12 v0 14)) v1) (fun h7 =>
  gs (hR h7 12 v0 6) (fun a8 =>
  gd (hK h7 a8 = 20 ∧ inb v1 (hN h7 a8)) (gs (hR h7 12 v0 10) (fun a12 =>
  gd (hK h7 a12 = 20 ∧ inb (hI h7 12 v0 14) (hN h7 a12)) (lt (sI h7 20 a12 (Int32.toNatClampNeg (hI h7 12 v0 14)) (hI h7 20 a8 (Int32.toNatClampNeg v1))) (fun h16 =>
  gs (hR h16 12 v0 4) (fun a17 =>
  gd (hK h16 a17 = 21 ∧ inb v1 (hN h16 a17)) (gs (hR h16 12 v0 12) (fun a21 =>
  gd (hK h16 a21 = 21 ∧ inb (hI h16 12 v0 14) (hN h16 a21)) (lt (sI h16 21 a21 (Int32.toNatClampNeg (hI h16 12 v0 14)) ((hI h16 21 a17 (Int32.toNatClampNeg v1)) &&& 1)) (fun h25 =>
  fX12_keeps_l157 v0 v1 (0 : Int32) h25))))))))))))))
set_option maxRecDepth 100000 in
theorem mX12_keeps_b115 {v0 : Nat} {v1 : Int32} {h : PH} {r : PH} (hf : fX12_keeps_b115 v0 v1 h = some r) : eqz h (hX r) (hV r) := by
  unfold fX12_keeps_b115 at hf
  have hle := eqz_rf h
  obtain ⟨hk2, hf⟩ := gd_some hf
  obtain ⟨a3, e4, hf⟩ := gs_some hf
  obtain ⟨⟨hk6, hb5⟩, hf⟩ := gd_some hf
  obtain ⟨h7, rfl, hf⟩ := lt_some hf
  obtain ⟨a8, e9, hf⟩ := gs_some hf
  obtain ⟨⟨hk11, hb10⟩, hf⟩ := gd_some hf
  obtain ⟨a12, e13, hf⟩ := gs_some hf
  obtain ⟨⟨hk15, hb14⟩, hf⟩ := gd_some hf
  obtain ⟨h16, rfl, hf⟩ := lt_some hf
  obtain ⟨a17, e18, hf⟩ := gs_some hf
  obtain ⟨⟨hk20, hb19⟩, hf⟩ := gd_some hf
  obtain ⟨a21, e22, hf⟩ := gs_some hf
  obtain ⟨⟨hk24, hb23⟩, hf⟩ := gd_some hf
  obtain ⟨h25, rfl, hf⟩ := lt_some hf
  exact eqz_rt (mX12_keeps_l157 hf) hle
set_option maxRecDepth 100000 in
theorem wX12_keeps_b115 {E : PE} {p : Program} {l : Launch} {e : Env} {s : State} {m : MethodId} {args : Array Value} {below : List Frame} {meth : Method} {c : Code} (X : Cx E p l e (rmv 1 0 0) s m args below meth c RX12 cX12_keeps 4 (none)) (hG : Gs E l) (hnm : meth.name = yX12_keeps.name) {v0 : Nat} {v1 : Int32} {h : PH} {r : PH} (hf : fX12_keeps_b115 v0 v1 h = some r)  : PW E p l e (rmv 1 0 0) s m args below meth c 4 0 0 (MQ below (QG E (fun v u => v = none ∧ u = r)) args s 0 0 (pA E)) h 115 [(0, some (.ref v0)), (1, some (.int v1))] [] := by
  unfold fX12_keeps_b115 at hf
  refine p_aload_n X (dcg dc_X12_keeps 73 rfl) rfl rfl ?_
  obtain ⟨hk2, hf⟩ := gd_some hf
  refine p_getR X fl_X12_33 rfl (by decide) (dcg dc_X12_keeps 74 rfl) hk2 ?_
  refine p_aload_n X (dcg dc_X12_keeps 75 rfl) rfl rfl ?_
  refine p_getI X fl_X12_183 rfl (by decide) (dcg dc_X12_keeps 76 rfl) hk2 ?_
  refine p_iload_n X (dcg dc_X12_keeps 77 rfl) rfl rfl ?_
  obtain ⟨a3, e4, hf⟩ := gs_some hf
  first | subst e4 | (try rw [e4])
  obtain ⟨⟨hk6, hb5⟩, hf⟩ := gd_some hf
  refine p_iast X (dcg dc_X12_keeps 78 rfl) hk6 (vp_of_inb hb5) ?_
  obtain ⟨h7, rfl, hf⟩ := lt_some hf
  refine p_aload_n X (dcg dc_X12_keeps 79 rfl) rfl rfl ?_
  refine p_getR X fl_X12_36 rfl (by decide) (dcg dc_X12_keeps 80 rfl) hk2 ?_
  refine p_aload_n X (dcg dc_X12_keeps 81 rfl) rfl rfl ?_
  refine p_getI X fl_X12_183 rfl (by decide) (dcg dc_X12_keeps 82 rfl) hk2 ?_
  refine p_aload_n X (dcg dc_X12_keeps 83 rfl) rfl rfl ?_
  refine p_getR X fl_X12_27 rfl (by decide) (dcg dc_X12_keeps 84 rfl) hk2 ?_
  refine p_iload_n X (dcg dc_X12_keeps 85 rfl) rfl rfl ?_
  obtain ⟨a8, e9, hf⟩ := gs_some hf
  first | subst e9 | (try rw [e9])
  obtain ⟨⟨hk11, hb10⟩, hf⟩ := gd_some hf
  refine p_iald X (dcg dc_X12_keeps 86 rfl) hk11 (vp_of_inb hb10) ?_
  obtain ⟨a12, e13, hf⟩ := gs_some hf
  first | subst e13 | (try rw [e13])
  obtain ⟨⟨hk15, hb14⟩, hf⟩ := gd_some hf
  refine p_iast X (dcg dc_X12_keeps 87 rfl) hk15 (vp_of_inb hb14) ?_
  obtain ⟨h16, rfl, hf⟩ := lt_some hf
  refine p_aload_n X (dcg dc_X12_keeps 88 rfl) rfl rfl ?_
  refine p_getR X fl_X12_42 rfl (by decide) (dcg dc_X12_keeps 89 rfl) hk2 ?_
  refine p_aload_n X (dcg dc_X12_keeps 90 rfl) rfl rfl ?_
  refine p_getI X fl_X12_183 rfl (by decide) (dcg dc_X12_keeps 91 rfl) hk2 ?_
  refine p_aload_n X (dcg dc_X12_keeps 92 rfl) rfl rfl ?_
  refine p_getR X fl_X12_20 rfl (by decide) (dcg dc_X12_keeps 93 rfl) hk2 ?_
  refine p_iload_n X (dcg dc_X12_keeps 94 rfl) rfl rfl ?_
  obtain ⟨a17, e18, hf⟩ := gs_some hf
  first | subst e18 | (try rw [e18])
  obtain ⟨⟨hk20, hb19⟩, hf⟩ := gd_some hf
  refine p_zald X (dcg dc_X12_keeps 95 rfl) hk20 (vp_of_inb hb19) ?_
  obtain ⟨a21, e22, hf⟩ := gs_some hf
  first | subst e22 | (try rw [e22])
  obtain ⟨⟨hk24, hb23⟩, hf⟩ := gd_some hf
  refine p_zast X (dcg dc_X12_keeps 96 rfl) hk24 (vp_of_inb hb23) ?_
  obtain ⟨h25, rfl, hf⟩ := lt_some hf
  refine p_iconst (v := 0) X (dcg dc_X12_keeps 97 rfl) (by decide) ?_
  refine p_istore_n X (dcg dc_X12_keeps 98 rfl) rfl (by decide) rfl ?_
  refine p_pick [0, 1, 2] ?_
  exact wX12_keeps_l157 X hG hnm hf 
noncomputable def fX12_keeps_c73 (v0 : Nat) (v1 : Int32) (v2 : Int32) (v3 : Int32) (h : PH) : Option ((Int32 × PH) ⊕ ((Int32 × PH) ⊕ PH)) :=
  if ((40 : Int32) ≤ v3) then (mr (some (.inl ((v2 + 1), h)))) else
  gd (hK h v0 = 12) (gs (hR h 12 v0 11) (fun a62 =>
  gd (hK h a62 = 20 ∧ inb (((40 : Int32) * (v2 + (1 : Int32))) + v3) (hN h a62)) (gd (inb (((40 : Int32) * v2) + v3) (hN h a62)) (lt (sI h 20 a62 (Int32.toNatClampNeg (((40 : Int32) * v2) + v3)) (hI h 20 a62 (Int32.toNatClampNeg (((40 : Int32) * (v2 + (1 : Int32))) + v3)))) (fun h67 =>
  some (.inl ((v3 + 1), h67)))))))
set_option maxRecDepth 100000 in
theorem mX12_keeps_c73 {v0 : Nat} {v1 : Int32} {v2 : Int32} {v3 : Int32} {h : PH} {x : ((Int32 × PH) ⊕ ((Int32 × PH) ⊕ PH))} (hf : fX12_keeps_c73 v0 v1 v2 v3 h = some x) : (∀ w9 : (Int32 × PH), x = .inl w9 → eqz h (hX (w9.2)) (hV (w9.2))) ∧ (∀ w9 : (Int32 × PH), x = .inr (.inl w9) → eqz h (hX (w9.2)) (hV (w9.2))) ∧ (∀ w9 : PH, x = .inr (.inr w9) → eqz h (hX w9) (hV w9)) := by
  unfold fX12_keeps_c73 at hf
  have hle := eqz_rf h
  rcases ite_or hf with ⟨q, hf⟩ | ⟨q, hf⟩
  · have hf := if_t q hf
    obtain ⟨y59, hfm, rfl⟩ := mr_some hf; have hf := hfm; clear hfm
    have ee := Option.some.inj hf; subst ee
    exact ⟨(fun z e => nomatch e), (fun z e => by have ee := Sum.inl.inj (Sum.inr.inj (e)); subst ee; exact hle), (fun z e => nomatch e)⟩
  · have hf := if_f q hf
    obtain ⟨hk61, hf⟩ := gd_some hf
    obtain ⟨a62, e63, hf⟩ := gs_some hf
    obtain ⟨⟨hk65, hb64⟩, hf⟩ := gd_some hf
    obtain ⟨hb66, hf⟩ := gd_some hf
    obtain ⟨h67, rfl, hf⟩ := lt_some hf
    have ee := Option.some.inj hf; subst ee
    exact ⟨(fun z e => by have ee := Sum.inl.inj (e); subst ee; exact hle), (fun z e => nomatch e), (fun z e => nomatch e)⟩
set_option maxRecDepth 100000 in
theorem wX12_keeps_c73 {E : PE} {p : Program} {l : Launch} {e : Env} {s : State} {m : MethodId} {args : Array Value} {below : List Frame} {meth : Method} {c : Code} (X : Cx E p l e (rmv 1 0 0) s m args below meth c RX12 cX12_keeps 4 (none)) (hG : Gs E l) (hnm : meth.name = yX12_keeps.name) {v0 : Nat} {v1 : Int32} {v2 : Int32} {v3 : Int32} {h : PH} {r : PH} {x : ((Int32 × PH) ⊕ ((Int32 × PH) ⊕ PH))} (hf : fX12_keeps_c73 v0 v1 v2 v3 h = some x) (k0 : ∀ z : (Int32 × PH), x = .inl z → PW E p l e (rmv 1 0 0) s m args below meth c 4 0 0 (MQ below (QG E (fun v u => v = none ∧ u = r)) args s 0 0 (pA E)) (z.2) 73 [(0, some (.ref v0)), (1, some (.int v1)), (2, some (.int v2)), (3, some (.int (z.1)))] []) (k1 : ∀ z : (Int32 × PH), x = .inr (.inl z) → PW E p l e (rmv 1 0 0) s m args below meth c 4 0 0 (MQ below (QG E (fun v u => v = none ∧ u = r)) args s 0 0 (pA E)) (z.2) 21 [(0, some (.ref v0)), (1, some (.int v1)), (2, some (.int (z.1)))] []) (kf : ∀ z : PH, x = .inr (.inr z) → z = r) : PW E p l e (rmv 1 0 0) s m args below meth c 4 0 0 (MQ below (QG E (fun v u => v = none ∧ u = r)) args s 0 0 (pA E)) h 73 [(0, some (.ref v0)), (1, some (.int v1)), (2, some (.int v2)), (3, some (.int v3))] [] := by
  unfold fX12_keeps_c73 at hf
  refine p_iload_n X (dcg dc_X12_keeps 48 rfl) rfl rfl ?_
  refine p_bipush (v := 40) X (dcg dc_X12_keeps 49 rfl) (by decide) ?_
  refine p_icmp_ge (tgt := 109) X (dcg dc_X12_keeps 50 rfl) (by decide) (fun q => ?_) (fun q => ?_)
  · have hf := if_t q hf
    obtain ⟨y59, hf, hy60⟩ := mr_some hf
    refine p_iinc (v := 1) X (dcg dc_X12_keeps 71 rfl) rfl (by decide) (by decide) rfl ?_
    refine p_goto (tgt := 21) X (dcg dc_X12_keeps 72 rfl) (by decide) ?_
    refine p_pick [0, 1, 2] ?_
    exact (fun z0 e0 => k1 z0 (hy60.trans (congrArg Sum.inr e0))) _ (Option.some.inj hf).symm
  · have hf := if_f q hf
    refine p_aload_n X (dcg dc_X12_keeps 51 rfl) rfl rfl ?_
    obtain ⟨hk61, hf⟩ := gd_some hf
    refine p_getR X fl_X12_39 rfl (by decide) (dcg dc_X12_keeps 52 rfl) hk61 ?_
    refine p_bipush (v := 40) X (dcg dc_X12_keeps 53 rfl) (by decide) ?_
    refine p_iload_n X (dcg dc_X12_keeps 54 rfl) rfl rfl ?_
    refine p_imul X (dcg dc_X12_keeps 55 rfl) ?_
    refine p_iload_n X (dcg dc_X12_keeps 56 rfl) rfl rfl ?_
    refine p_iadd X (dcg dc_X12_keeps 57 rfl) ?_
    refine p_aload_n X (dcg dc_X12_keeps 58 rfl) rfl rfl ?_
    refine p_getR X fl_X12_39 rfl (by decide) (dcg dc_X12_keeps 59 rfl) hk61 ?_
    refine p_bipush (v := 40) X (dcg dc_X12_keeps 60 rfl) (by decide) ?_
    refine p_iload_n X (dcg dc_X12_keeps 61 rfl) rfl rfl ?_
    refine p_iconst (v := 1) X (dcg dc_X12_keeps 62 rfl) (by decide) ?_
    refine p_iadd X (dcg dc_X12_keeps 63 rfl) ?_
    refine p_imul X (dcg dc_X12_keeps 64 rfl) ?_
    refine p_iload_n X (dcg dc_X12_keeps 65 rfl) rfl rfl ?_
    refine p_iadd X (dcg dc_X12_keeps 66 rfl) ?_
    obtain ⟨a62, e63, hf⟩ := gs_some hf
    first | subst e63 | (try rw [e63])
    obtain ⟨⟨hk65, hb64⟩, hf⟩ := gd_some hf
    refine p_iald X (dcg dc_X12_keeps 67 rfl) hk65 (vp_of_inb hb64) ?_
    obtain ⟨hb66, hf⟩ := gd_some hf
    refine p_iast X (dcg dc_X12_keeps 68 rfl) hk65 (vp_of_inb hb66) ?_
    obtain ⟨h67, rfl, hf⟩ := lt_some hf
    refine p_iinc (v := 1) X (dcg dc_X12_keeps 69 rfl) rfl (by decide) (by decide) rfl ?_
    refine p_goto (tgt := 73) X (dcg dc_X12_keeps 70 rfl) (by decide) ?_
    refine p_pick [0, 1, 2, 3] ?_
    exact k0 _ (Option.some.inj hf).symm
noncomputable def fX12_keeps_l73 (v0 : Nat) (v1 : Int32) (v2 : Int32) (v3 : Int32) (h : PH) : Option ((Int32 × PH) ⊕ PH) := wh (fun z : (Int32 × PH) => fX12_keeps_c73 v0 v1 v2 (z.1) (z.2)) (v3, h)
set_option maxRecDepth 100000 in
theorem mX12_keeps_l73 {v0 : Nat} {v1 : Int32} {v2 : Int32} {v3 : Int32} {h : PH} {x : ((Int32 × PH) ⊕ PH)} (hf : fX12_keeps_l73 v0 v1 v2 v3 h = some x) : (∀ w9 : (Int32 × PH), x = .inl w9 → eqz h (hX (w9.2)) (hV (w9.2))) ∧ (∀ w9 : PH, x = .inr w9 → eqz h (hX w9) (hV w9)) := by
  unfold fX12_keeps_l73 at hf
  refine wh_ind (P := fun z => (∀ w9 : (Int32 × PH), x = .inl w9 → eqz (z.2) (hX (w9.2)) (hV (w9.2))) ∧ (∀ w9 : PH, x = .inr w9 → eqz (z.2) (hX w9) (hV w9))) (fun z x0 hs i1 i2 => ?_) _ hf
  obtain ⟨c0, c1, cf⟩ := mX12_keeps_c73 (v0 := v0) (v1 := v1) (v2 := v2) (v3 := z.1) (h := z.2) hs
  rcases hxx : x0 with zz | (zz | zz)
  · obtain ⟨d0, d1⟩ := (i1 zz hxx)
    exact ⟨fun z1 e1 => eqz_tr (c0 zz hxx) (d0 z1 e1), fun z1 e1 => eqz_tr (c0 zz hxx) (d1 z1 e1)⟩
  · have ee := i2 _ hxx; subst ee
    exact ⟨(fun z1 e1 => by cases e1 <;> exact c1 zz hxx), (fun z1 e1 => nomatch e1)⟩
  · have ee := i2 _ hxx; subst ee
    exact ⟨(fun z1 e1 => nomatch e1), (fun z1 e1 => by cases e1; exact cf zz hxx)⟩
set_option maxRecDepth 100000 in
theorem wX12_keeps_l73 {E : PE} {p : Program} {l : Launch} {e : Env} {s : State} {m : MethodId} {args : Array Value} {below : List Frame} {meth : Method} {c : Code} (X : Cx E p l e (rmv 1 0 0) s m args below meth c RX12 cX12_keeps 4 (none)) (hG : Gs E l) (hnm : meth.name = yX12_keeps.name) {v0 : Nat} {v1 : Int32} {v2 : Int32} {v3 : Int32} {h : PH} {r : PH} {x : ((Int32 × PH) ⊕ PH)} (hf : fX12_keeps_l73 v0 v1 v2 v3 h = some x) (k0 : ∀ z : (Int32 × PH), x = .inl z → PW E p l e (rmv 1 0 0) s m args below meth c 4 0 0 (MQ below (QG E (fun v u => v = none ∧ u = r)) args s 0 0 (pA E)) (z.2) 21 [(0, some (.ref v0)), (1, some (.int v1)), (2, some (.int (z.1)))] []) (kf : ∀ z : PH, x = .inr z → z = r) : PW E p l e (rmv 1 0 0) s m args below meth c 4 0 0 (MQ below (QG E (fun v u => v = none ∧ u = r)) args s 0 0 (pA E)) h 73 [(0, some (.ref v0)), (1, some (.int v1)), (2, some (.int v2)), (3, some (.int v3))] [] := by
  unfold fX12_keeps_l73 at hf
  refine wh_ind (P := fun z => PW E p l e (rmv 1 0 0) s m args below meth c 4 0 0 (MQ below (QG E (fun v u => v = none ∧ u = r)) args s 0 0 (pA E)) (z.2) 73 [(0, some (.ref v0)), (1, some (.int v1)), (2, some (.int v2)), (3, some (.int (z.1)))] []) (fun z x0 hs i1 i2 => ?_) _ hf
  exact wX12_keeps_c73 (r := r) (v0 := v0) (v1 := v1) (v2 := v2) (v3 := z.1) (h := z.2) X hG hnm hs i1 (fun z1 e1 => k0 z1 (i2 _ e1).symm) (fun z1 e1 => kf z1 (i2 _ e1).symm)
noncomputable def fX12_keeps_c21 (v0 : Nat) (v1 : Int32) (v2 : Int32) (h : PH) : Option ((Int32 × PH) ⊕ PH) :=
  gd (hK h v0 = 12) (if ((hI h 12 v0 14) ≤ v2) then (mr (fX12_keeps_b115 v0 v1 h)) else
  gs (hR h 12 v0 9) (fun a41 =>
  gd (hK h a41 = 20 ∧ inb (v2 + (1 : Int32)) (hN h a41)) (gd (inb v2 (hN h a41)) (lt (sI h 20 a41 (Int32.toNatClampNeg v2) (hI h 20 a41 (Int32.toNatClampNeg (v2 + (1 : Int32))))) (fun h46 =>
  gs (hR h46 12 v0 10) (fun a47 =>
  gd (hK h46 a47 = 20 ∧ inb (v2 + (1 : Int32)) (hN h46 a47)) (gd (inb v2 (hN h46 a47)) (lt (sI h46 20 a47 (Int32.toNatClampNeg v2) (hI h46 20 a47 (Int32.toNatClampNeg (v2 + (1 : Int32))))) (fun h52 =>
  gs (hR h52 12 v0 12) (fun a53 =>
  gd (hK h52 a53 = 21 ∧ inb (v2 + (1 : Int32)) (hN h52 a53)) (gd (inb v2 (hN h52 a53)) (lt (sI h52 21 a53 (Int32.toNatClampNeg v2) ((hI h52 21 a53 (Int32.toNatClampNeg (v2 + (1 : Int32)))) &&& 1)) (fun h58 =>
  fX12_keeps_l73 v0 v1 v2 (0 : Int32) h58)))))))))))))
set_option maxRecDepth 100000 in
theorem mX12_keeps_c21 {v0 : Nat} {v1 : Int32} {v2 : Int32} {h : PH} {x : ((Int32 × PH) ⊕ PH)} (hf : fX12_keeps_c21 v0 v1 v2 h = some x) : (∀ w9 : (Int32 × PH), x = .inl w9 → eqz h (hX (w9.2)) (hV (w9.2))) ∧ (∀ w9 : PH, x = .inr w9 → eqz h (hX w9) (hV w9)) := by
  unfold fX12_keeps_c21 at hf
  have hle := eqz_rf h
  obtain ⟨hk38, hf⟩ := gd_some hf
  rcases ite_or hf with ⟨q, hf⟩ | ⟨q, hf⟩
  · have hf := if_t q hf
    obtain ⟨y39, hfm, rfl⟩ := mr_some hf; have hf := hfm; clear hfm
    have cf := mX12_keeps_b115 hf
    exact ⟨(fun z e => nomatch e), (fun z e => by cases e <;> exact eqz_rt cf hle)⟩
  · have hf := if_f q hf
    obtain ⟨a41, e42, hf⟩ := gs_some hf
    obtain ⟨⟨hk44, hb43⟩, hf⟩ := gd_some hf
    obtain ⟨hb45, hf⟩ := gd_some hf
    obtain ⟨h46, rfl, hf⟩ := lt_some hf
    obtain ⟨a47, e48, hf⟩ := gs_some hf
    obtain ⟨⟨hk50, hb49⟩, hf⟩ := gd_some hf
    obtain ⟨hb51, hf⟩ := gd_some hf
    obtain ⟨h52, rfl, hf⟩ := lt_some hf
    obtain ⟨a53, e54, hf⟩ := gs_some hf
    obtain ⟨⟨hk56, hb55⟩, hf⟩ := gd_some hf
    obtain ⟨hb57, hf⟩ := gd_some hf
    obtain ⟨h58, rfl, hf⟩ := lt_some hf
    obtain ⟨c0, cf⟩ := mX12_keeps_l73 hf
    exact ⟨fun z e => eqz_rt (c0 z (e)) hle, fun z e => eqz_rt (cf z (e)) hle⟩
set_option maxRecDepth 100000 in
theorem wX12_keeps_c21 {E : PE} {p : Program} {l : Launch} {e : Env} {s : State} {m : MethodId} {args : Array Value} {below : List Frame} {meth : Method} {c : Code} (X : Cx E p l e (rmv 1 0 0) s m args below meth c RX12 cX12_keeps 4 (none)) (hG : Gs E l) (hnm : meth.name = yX12_keeps.name) {v0 : Nat} {v1 : Int32} {v2 : Int32} {h : PH} {r : PH} {x : ((Int32 × PH) ⊕ PH)} (hf : fX12_keeps_c21 v0 v1 v2 h = some x) (k0 : ∀ z : (Int32 × PH), x = .inl z → PW E p l e (rmv 1 0 0) s m args below meth c 4 0 0 (MQ below (QG E (fun v u => v = none ∧ u = r)) args s 0 0 (pA E)) (z.2) 21 [(0, some (.ref v0)), (1, some (.int v1)), (2, some (.int (z.1)))] []) (kf : ∀ z : PH, x = .inr z → z = r) : PW E p l e (rmv 1 0 0) s m args below meth c 4 0 0 (MQ below (QG E (fun v u => v = none ∧ u = r)) args s 0 0 (pA E)) h 21 [(0, some (.ref v0)), (1, some (.int v1)), (2, some (.int v2))] [] := by
  unfold fX12_keeps_c21 at hf
  refine p_iload_n X (dcg dc_X12_keeps 12 rfl) rfl rfl ?_
  refine p_aload_n X (dcg dc_X12_keeps 13 rfl) rfl rfl ?_
  obtain ⟨hk38, hf⟩ := gd_some hf
  refine p_getI X fl_X12_183 rfl (by decide) (dcg dc_X12_keeps 14 rfl) hk38 ?_
  refine p_icmp_ge (tgt := 115) X (dcg dc_X12_keeps 15 rfl) (by decide) (fun q => ?_) (fun q => ?_)
  · have hf := if_t q hf
    obtain ⟨y39, hf, hy40⟩ := mr_some hf
    have hy40f := kf y39 hy40
    subst hy40f
    refine p_pick [0, 1] ?_
    exact wX12_keeps_b115 X hG hnm hf 
  · have hf := if_f q hf
    refine p_aload_n X (dcg dc_X12_keeps 16 rfl) rfl rfl ?_
    refine p_getR X fl_X12_33 rfl (by decide) (dcg dc_X12_keeps 17 rfl) hk38 ?_
    refine p_iload_n X (dcg dc_X12_keeps 18 rfl) rfl rfl ?_
    refine p_aload_n X (dcg dc_X12_keeps 19 rfl) rfl rfl ?_
    refine p_getR X fl_X12_33 rfl (by decide) (dcg dc_X12_keeps 20 rfl) hk38 ?_
    refine p_iload_n X (dcg dc_X12_keeps 21 rfl) rfl rfl ?_
    refine p_iconst (v := 1) X (dcg dc_X12_keeps 22 rfl) (by decide) ?_
    refine p_iadd X (dcg dc_X12_keeps 23 rfl) ?_
    obtain ⟨a41, e42, hf⟩ := gs_some hf
    first | subst e42 | (try rw [e42])
    obtain ⟨⟨hk44, hb43⟩, hf⟩ := gd_some hf
    refine p_iald X (dcg dc_X12_keeps 24 rfl) hk44 (vp_of_inb hb43) ?_
    obtain ⟨hb45, hf⟩ := gd_some hf
    refine p_iast X (dcg dc_X12_keeps 25 rfl) hk44 (vp_of_inb hb45) ?_
    obtain ⟨h46, rfl, hf⟩ := lt_some hf
    refine p_aload_n X (dcg dc_X12_keeps 26 rfl) rfl rfl ?_
    refine p_getR X fl_X12_36 rfl (by decide) (dcg dc_X12_keeps 27 rfl) hk38 ?_
    refine p_iload_n X (dcg dc_X12_keeps 28 rfl) rfl rfl ?_
    refine p_aload_n X (dcg dc_X12_keeps 29 rfl) rfl rfl ?_
    refine p_getR X fl_X12_36 rfl (by decide) (dcg dc_X12_keeps 30 rfl) hk38 ?_
    refine p_iload_n X (dcg dc_X12_keeps 31 rfl) rfl rfl ?_
    refine p_iconst (v := 1) X (dcg dc_X12_keeps 32 rfl) (by decide) ?_
    refine p_iadd X (dcg dc_X12_keeps 33 rfl) ?_
    obtain ⟨a47, e48, hf⟩ := gs_some hf
    first | subst e48 | (try rw [e48])
    obtain ⟨⟨hk50, hb49⟩, hf⟩ := gd_some hf
    refine p_iald X (dcg dc_X12_keeps 34 rfl) hk50 (vp_of_inb hb49) ?_
    obtain ⟨hb51, hf⟩ := gd_some hf
    refine p_iast X (dcg dc_X12_keeps 35 rfl) hk50 (vp_of_inb hb51) ?_
    obtain ⟨h52, rfl, hf⟩ := lt_some hf
    refine p_aload_n X (dcg dc_X12_keeps 36 rfl) rfl rfl ?_
    refine p_getR X fl_X12_42 rfl (by decide) (dcg dc_X12_keeps 37 rfl) hk38 ?_
    refine p_iload_n X (dcg dc_X12_keeps 38 rfl) rfl rfl ?_
    refine p_aload_n X (dcg dc_X12_keeps 39 rfl) rfl rfl ?_
    refine p_getR X fl_X12_42 rfl (by decide) (dcg dc_X12_keeps 40 rfl) hk38 ?_
    refine p_iload_n X (dcg dc_X12_keeps 41 rfl) rfl rfl ?_
    refine p_iconst (v := 1) X (dcg dc_X12_keeps 42 rfl) (by decide) ?_
    refine p_iadd X (dcg dc_X12_keeps 43 rfl) ?_
    obtain ⟨a53, e54, hf⟩ := gs_some hf
    first | subst e54 | (try rw [e54])
    obtain ⟨⟨hk56, hb55⟩, hf⟩ := gd_some hf
    refine p_zald X (dcg dc_X12_keeps 44 rfl) hk56 (vp_of_inb hb55) ?_
    obtain ⟨hb57, hf⟩ := gd_some hf
    refine p_zast X (dcg dc_X12_keeps 45 rfl) hk56 (vp_of_inb hb57) ?_
    obtain ⟨h58, rfl, hf⟩ := lt_some hf
    refine p_iconst (v := 0) X (dcg dc_X12_keeps 46 rfl) (by decide) ?_
    refine p_istore_n X (dcg dc_X12_keeps 47 rfl) rfl (by decide) rfl ?_
    refine p_pick [0, 1, 2, 3] ?_
    exact wX12_keeps_l73 X hG hnm hf k0 kf
noncomputable def fX12_keeps_l21 (v0 : Nat) (v1 : Int32) (v2 : Int32) (h : PH) : Option PH := wh (fun z : (Int32 × PH) => fX12_keeps_c21 v0 v1 (z.1) (z.2)) (v2, h)
set_option maxRecDepth 100000 in
theorem mX12_keeps_l21 {v0 : Nat} {v1 : Int32} {v2 : Int32} {h : PH} {r : PH} (hf : fX12_keeps_l21 v0 v1 v2 h = some r) : eqz h (hX r) (hV r) := by
  unfold fX12_keeps_l21 at hf
  refine wh_ind (P := fun z => eqz (z.2) (hX r) (hV r)) (fun z x0 hs i1 i2 => ?_) _ hf
  obtain ⟨c0, cf⟩ := mX12_keeps_c21 (v0 := v0) (v1 := v1) (v2 := z.1) (h := z.2) hs
  rcases hxx : x0 with zz | zz
  · exact eqz_tr (c0 zz hxx) (i1 zz hxx)
  · have ee := i2 zz hxx; subst ee; exact cf zz hxx
set_option maxRecDepth 100000 in
theorem wX12_keeps_l21 {E : PE} {p : Program} {l : Launch} {e : Env} {s : State} {m : MethodId} {args : Array Value} {below : List Frame} {meth : Method} {c : Code} (X : Cx E p l e (rmv 1 0 0) s m args below meth c RX12 cX12_keeps 4 (none)) (hG : Gs E l) (hnm : meth.name = yX12_keeps.name) {v0 : Nat} {v1 : Int32} {v2 : Int32} {h : PH} {r : PH} (hf : fX12_keeps_l21 v0 v1 v2 h = some r)  : PW E p l e (rmv 1 0 0) s m args below meth c 4 0 0 (MQ below (QG E (fun v u => v = none ∧ u = r)) args s 0 0 (pA E)) h 21 [(0, some (.ref v0)), (1, some (.int v1)), (2, some (.int v2))] [] := by
  unfold fX12_keeps_l21 at hf
  refine wh_ind (P := fun z => PW E p l e (rmv 1 0 0) s m args below meth c 4 0 0 (MQ below (QG E (fun v u => v = none ∧ u = r)) args s 0 0 (pA E)) (z.2) 21 [(0, some (.ref v0)), (1, some (.int v1)), (2, some (.int (z.1)))] []) (fun z x0 hs i1 i2 => ?_) _ hf
  exact wX12_keeps_c21 (r := r) (v0 := v0) (v1 := v1) (v2 := z.1) (h := z.2) X hG hnm hs i1  i2
noncomputable def fX12_keeps (v0 : Nat) (v1 : Int32) (h : PH) : Option PH :=
  gd (hK h v0 = 12) (if (¬ (hI h 12 v0 14) = (20 : Int32)) then (fX12_keeps_b115 v0 v1 h) else
  lt (sI h 12 v0 14 ((hI h 12 v0 14) - (1 : Int32))) (fun h37 =>
  fX12_keeps_l21 v0 v1 (0 : Int32) h37))
set_option maxRecDepth 100000 in
theorem mX12_keeps {v0 : Nat} {v1 : Int32} {h : PH} {r : PH} (hf : fX12_keeps v0 v1 h = some r) : eqz h (hX r) (hV r) := by
  unfold fX12_keeps at hf
  have hle := eqz_rf h
  obtain ⟨hk1, hf⟩ := gd_some hf
  rcases ite_or hf with ⟨q, hf⟩ | ⟨q, hf⟩
  · have hf := if_t q hf
    exact eqz_rt (mX12_keeps_b115 hf) hle
  · have hf := if_f q hf
    obtain ⟨h37, rfl, hf⟩ := lt_some hf
    exact eqz_rt (mX12_keeps_l21 hf) hle
set_option maxRecDepth 100000 in
theorem wX12_keeps {E : PE} {l : Launch} (hG : Gs E l) {v0 : Nat} {v1 : Int32} {h : PH} {r : PH} (hf : fX12_keeps v0 v1 h = some r) : Ct E l 1 0 0 yX12_keeps cX12_keeps 4 (none) [.ref v0, .int v1] h (fun v u => v = none ∧ u = r) := by
  refine ct_of hG (by decide) (Nat.le_of_ble_eq_true rfl) ?_
  intro p e s m args below meth c X hnm
  show PW E p l e _ s m args below meth c _ 0 0 _ h 0 [(0, some (.ref v0)), (1, some (.int v1))] []
  unfold fX12_keeps at hf
  refine p_aload_n X (dcg dc_X12_keeps 0 rfl) rfl rfl ?_
  obtain ⟨hk1, hf⟩ := gd_some hf
  refine p_getI X fl_X12_183 rfl (by decide) (dcg dc_X12_keeps 1 rfl) hk1 ?_
  refine p_bipush (v := 20) X (dcg dc_X12_keeps 2 rfl) (by decide) ?_
  refine p_icmp_ne (tgt := 115) X (dcg dc_X12_keeps 3 rfl) (by decide) (fun q => ?_) (fun q => ?_)
  · have hf := if_t q hf
    refine p_pick [0, 1] ?_
    exact wX12_keeps_b115 X hG hnm hf 
  · have hf := if_f q hf
    refine p_aload_n X (dcg dc_X12_keeps 4 rfl) rfl rfl ?_
    refine p_dup X (dcg dc_X12_keeps 5 rfl) rfl ?_
    refine p_getI X fl_X12_183 rfl (by decide) (dcg dc_X12_keeps 6 rfl) hk1 ?_
    refine p_iconst (v := 1) X (dcg dc_X12_keeps 7 rfl) (by decide) ?_
    refine p_isub X (dcg dc_X12_keeps 8 rfl) ?_
    refine p_putI X fl_X12_183 rfl (by decide) (fun q hq => by cases hq; rfl) rfl rfl (dcg dc_X12_keeps 9 rfl) hk1 ?_
    obtain ⟨h37, rfl, hf⟩ := lt_some hf
    refine p_iconst (v := 0) X (dcg dc_X12_keeps 10 rfl) (by decide) ?_
    refine p_istore_n X (dcg dc_X12_keeps 11 rfl) rfl (by decide) rfl ?_
    refine p_pick [0, 1, 2] ?_
    exact wX12_keeps_l21 X hG hnm hf 
theorem dc_X12_begins : decs cX12_begins [(0, .aload_n 0, 1), (1, .iload_n 1, 1), (2, .invokevirtual 190, 3), (5, .aload_n 0, 1), (6, .iload_n 1, 1), (7, .invokevirtual 193, 3), (10, .return_, 1)] = true := by decide +kernel
noncomputable def fX12_begins (v0 : Nat) (v1 : Int32) (h : PH) : Option PH :=
  gd (hK h v0 = 12) (bd (fX12_notes v0 v1 h) (fun z2 =>
  gd (hK z2 v0 = 12) (bd (fX12_keeps v0 v1 z2) (fun z4 =>
  some (z4)))))
set_option maxRecDepth 100000 in
theorem mX12_begins {v0 : Nat} {v1 : Int32} {h : PH} {r : PH} (hf : fX12_begins v0 v1 h = some r) : eqz h (hX r) (hV r) := by
  unfold fX12_begins at hf
  have hle := eqz_rf h
  obtain ⟨hk1, hf⟩ := gd_some hf
  obtain ⟨z2, hz2, hf⟩ := bd_some hf
  have hle := eqz_rt (mX12_notes hz2) hle
  obtain ⟨hk3, hf⟩ := gd_some hf
  obtain ⟨z4, hz4, hf⟩ := bd_some hf
  have hle := eqz_rt (mX12_keeps hz4) hle
  have ee := Option.some.inj hf; subst ee; exact hle
set_option maxRecDepth 100000 in
theorem wX12_begins {E : PE} {l : Launch} (hG : Gs E l) {v0 : Nat} {v1 : Int32} {h : PH} {r : PH} (hf : fX12_begins v0 v1 h = some r) : Ct E l 5 0 0 yX12_begins cX12_begins 2 (none) [.ref v0, .int v1] h (fun v u => v = none ∧ u = r) := by
  refine ct_of hG (by decide) (Nat.le_of_ble_eq_true rfl) ?_
  intro p e s m args below meth c X hnm
  show PW E p l e _ s m args below meth c _ 0 0 _ h 0 [(0, some (.ref v0)), (1, some (.int v1))] []
  unfold fX12_begins at hf
  refine p_aload_n X (dcg dc_X12_begins 0 rfl) rfl rfl ?_
  refine p_iload_n X (dcg dc_X12_begins 1 rfl) rfl rfl ?_
  obtain ⟨hk1, hf⟩ := gd_some hf
  obtain ⟨z2, hz2, hf⟩ := bd_some hf
  refine p_callV (As := [_]) X ml_X12_190 (dcg dc_X12_begins 2 rfl) rfl rfl hk1 (wX12_notes hG hz2) (by decide) (room4 (Nat.le_of_ble_eq_true rfl)) (Nat.le_refl _) (Nat.le_refl _) ?_
  rintro _ u9 ⟨rfl, e9⟩; have e9 := e9.symm; subst e9
  refine p_aload_n X (dcg dc_X12_begins 3 rfl) rfl rfl ?_
  refine p_iload_n X (dcg dc_X12_begins 4 rfl) rfl rfl ?_
  obtain ⟨hk3, hf⟩ := gd_some hf
  obtain ⟨z4, hz4, hf⟩ := bd_some hf
  refine p_callV (As := [_]) X ml_X12_193 (dcg dc_X12_begins 5 rfl) rfl rfl hk3 (wX12_keeps hG hz4) (by decide) (room4 (Nat.le_of_ble_eq_true rfl)) (Nat.le_refl _) (Nat.le_refl _) ?_
  rintro _ u9 ⟨rfl, e9⟩; have e9 := e9.symm; subst e9
  have er := Option.some.inj hf
  subst er
  exact p_vret X rfl (dcg dc_X12_begins 6 rfl) ⟨rfl, rfl⟩ (Nat.le_refl _) (Nat.le_refl _)
theorem dc_X12_tells : decs cX12_tells [(0, .iconst 0, 1), (1, .istore_n 2, 1), (2, .iload_n 2, 1), (3, .bipush 6, 2), (5, .if_icmp .ge 180, 3), (8, .aload_n 0, 1), (9, .getfield 87, 3), (12, .iload_n 2, 1), (13, .iaload, 1), (14, .iconst (-1), 1), (15, .if_icmp .eq 16, 3), (18, .aload_n 0, 1), (19, .iload_n 2, 1), (20, .iload_n 1, 1), (21, .invokevirtual 179, 3), (24, .ifCond .eq 7, 3), (27, .iconst 1, 1), (28, .goto 4, 3), (31, .iconst 0, 1), (32, .istore_n 3, 1), (33, .iload_n 3, 1), (34, .aload_n 0, 1), (35, .getfield 45, 3), (38, .iload_n 2, 1), (39, .baload, 1), (40, .if_icmp .ne 6, 3), (43, .goto 136, 3), (46, .aload_n 0, 1), (47, .getfield 196, 3), (50, .bipush 100, 2), (52, .if_icmp .ne 79, 3), (55, .aload_n 0, 1), (56, .dup, 1), (57, .getfield 196, 3), (60, .iconst 1, 1), (61, .isub, 1), (62, .putfield 196, 3), (65, .iconst 0, 1), (66, .istore 4, 2), (68, .iload 4, 2), (70, .aload_n 0, 1), (71, .getfield 196, 3), (74, .if_icmp .ge 57, 3), (77, .aload_n 0, 1), (78, .getfield 48, 3), (81, .iload 4, 2), (83, .aload_n 0, 1), (84, .getfield 48, 3), (87, .iload 4, 2), (89, .iconst 1, 1), (90, .iadd, 1), (91, .iaload, 1), (92, .iastore, 1), (93, .aload_n 0, 1), (94, .getfield 51, 3), (97, .iload 4, 2), (99, .aload_n 0, 1), (100, .getfield 51, 3), (103, .iload 4, 2), (105, .iconst 1, 1), (106, .iadd, 1), (107, .iaload, 1), (108, .iastore, 1), (109, .aload_n 0, 1), (110, .getfield 54, 3), (113, .iload 4, 2), (115, .aload_n 0, 1), (116, .getfield 54, 3), (119, .iload 4, 2), (121, .iconst 1, 1), (122, .iadd, 1), (123, .iaload, 1), (124, .iastore, 1), (125, .iinc 4 1, 3), (128, .goto (-60), 3), (131, .aload_n 0, 1), (132, .getfield 48, 3), (135, .aload_n 0, 1), (136, .getfield 196, 3), (139, .iload_n 2, 1), (140, .iastore, 1), (141, .aload_n 0, 1), (142, .getfield 51, 3), (145, .aload_n 0, 1), (146, .getfield 196, 3), (149, .iload_n 1, 1), (150, .iastore, 1), (151, .aload_n 0, 1), (152, .getfield 54, 3), (155, .aload_n 0, 1), (156, .getfield 196, 3), (159, .iload_n 3, 1), (160, .ifCond .eq 7, 3), (163, .iconst 1, 1), (164, .goto 4, 3), (167, .iconst 0, 1), (168, .iastore, 1), (169, .aload_n 0, 1), (170, .dup, 1), (171, .getfield 196, 3), (174, .iconst 1, 1), (175, .iadd, 1), (176, .putfield 196, 3), (179, .iinc 2 1, 3), (182, .goto (-180), 3), (185, .return_, 1)] = true := by decide +kernel
noncomputable def fX12_tells_b179 (v0 : Nat) (v1 : Int32) (v2 : Int32) (h : PH) : Option ((Int32 × PH) ⊕ PH) :=
  some (.inl ((v2 + 1), h))
set_option maxRecDepth 100000 in
theorem mX12_tells_b179 {v0 : Nat} {v1 : Int32} {v2 : Int32} {h : PH} {x : ((Int32 × PH) ⊕ PH)} (hf : fX12_tells_b179 v0 v1 v2 h = some x) : (∀ w9 : (Int32 × PH), x = .inl w9 → eqz h (hX (w9.2)) (hV (w9.2))) ∧ (∀ w9 : PH, x = .inr w9 → eqz h (hX w9) (hV w9)) := by
  unfold fX12_tells_b179 at hf
  have hle := eqz_rf h
  have ee := Option.some.inj hf; subst ee
  exact ⟨(fun z e => by have ee := Sum.inl.inj (e); subst ee; exact hle), (fun z e => nomatch e)⟩
set_option maxRecDepth 100000 in
theorem wX12_tells_b179 {E : PE} {p : Program} {l : Launch} {e : Env} {s : State} {m : MethodId} {args : Array Value} {below : List Frame} {meth : Method} {c : Code} (X : Cx E p l e (rmv 4 0 0) s m args below meth c RX12 cX12_tells 5 (none)) (hG : Gs E l) (hnm : meth.name = yX12_tells.name) {v0 : Nat} {v1 : Int32} {v2 : Int32} {h : PH} {r : PH} {x : ((Int32 × PH) ⊕ PH)} (hf : fX12_tells_b179 v0 v1 v2 h = some x) (k0 : ∀ z : (Int32 × PH), x = .inl z → PW E p l e (rmv 4 0 0) s m args below meth c 5 0 0 (MQ below (QG E (fun v u => v = none ∧ u = r)) args s 0 0 (pA E)) (z.2) 2 [(0, some (.ref v0)), (1, some (.int v1)), (2, some (.int (z.1)))] []) (kf : ∀ z : PH, x = .inr z → z = r) : PW E p l e (rmv 4 0 0) s m args below meth c 5 0 0 (MQ below (QG E (fun v u => v = none ∧ u = r)) args s 0 0 (pA E)) h 179 [(0, some (.ref v0)), (1, some (.int v1)), (2, some (.int v2))] [] := by
  unfold fX12_tells_b179 at hf
  refine p_iinc (v := 1) X (dcg dc_X12_tells 103 rfl) rfl (by decide) (by decide) rfl ?_
  refine p_goto (tgt := 2) X (dcg dc_X12_tells 104 rfl) (by decide) ?_
  refine p_pick [0, 1, 2] ?_
  exact k0 _ (Option.some.inj hf).symm
noncomputable def fX12_tells_b168 (v0 : Nat) (v1 : Int32) (v2 : Int32) (t0 : Option Nat) (t1 : Int32) (t2 : Int32) (h : PH) : Option ((Int32 × PH) ⊕ PH) :=
  gs t0 (fun a24 =>
  gd (hK h a24 = 20 ∧ inb t1 (hN h a24)) (lt (sI h 20 a24 (Int32.toNatClampNeg t1) t2) (fun h28 =>
  gd (hK h28 v0 = 12) (lt (sI h28 12 v0 18 ((hI h28 12 v0 18) + (1 : Int32))) (fun h30 =>
  fX12_tells_b179 v0 v1 v2 h30)))))
set_option maxRecDepth 100000 in
theorem mX12_tells_b168 {v0 : Nat} {v1 : Int32} {v2 : Int32} {t0 : Option Nat} {t1 : Int32} {t2 : Int32} {h : PH} {x : ((Int32 × PH) ⊕ PH)} (hf : fX12_tells_b168 v0 v1 v2 t0 t1 t2 h = some x) : (∀ w9 : (Int32 × PH), x = .inl w9 → eqz h (hX (w9.2)) (hV (w9.2))) ∧ (∀ w9 : PH, x = .inr w9 → eqz h (hX w9) (hV w9)) := by
  unfold fX12_tells_b168 at hf
  have hle := eqz_rf h
  obtain ⟨a24, e25, hf⟩ := gs_some hf
  obtain ⟨⟨hk27, hb26⟩, hf⟩ := gd_some hf
  obtain ⟨h28, rfl, hf⟩ := lt_some hf
  obtain ⟨hk29, hf⟩ := gd_some hf
  obtain ⟨h30, rfl, hf⟩ := lt_some hf
  obtain ⟨c0, cf⟩ := mX12_tells_b179 hf
  exact ⟨fun z e => eqz_rt (c0 z (e)) hle, fun z e => eqz_rt (cf z (e)) hle⟩
set_option maxRecDepth 100000 in
theorem wX12_tells_b168 {E : PE} {p : Program} {l : Launch} {e : Env} {s : State} {m : MethodId} {args : Array Value} {below : List Frame} {meth : Method} {c : Code} (X : Cx E p l e (rmv 4 0 0) s m args below meth c RX12 cX12_tells 5 (none)) (hG : Gs E l) (hnm : meth.name = yX12_tells.name) {v0 : Nat} {v1 : Int32} {v2 : Int32} {t0 : Option Nat} {t1 : Int32} {t2 : Int32} {h : PH} {r : PH} {x : ((Int32 × PH) ⊕ PH)} (hf : fX12_tells_b168 v0 v1 v2 t0 t1 t2 h = some x) (k0 : ∀ z : (Int32 × PH), x = .inl z → PW E p l e (rmv 4 0 0) s m args below meth c 5 0 0 (MQ below (QG E (fun v u => v = none ∧ u = r)) args s 0 0 (pA E)) (z.2) 2 [(0, some (.ref v0)), (1, some (.int v1)), (2, some (.int (z.1)))] []) (kf : ∀ z : PH, x = .inr z → z = r) : PW E p l e (rmv 4 0 0) s m args below meth c 5 0 0 (MQ below (QG E (fun v u => v = none ∧ u = r)) args s 0 0 (pA E)) h 168 [(0, some (.ref v0)), (1, some (.int v1)), (2, some (.int v2))] [.int t2, .int t1, va_rf t0] := by
  unfold fX12_tells_b168 at hf
  obtain ⟨a24, e25, hf⟩ := gs_some hf
  first | subst e25 | (try rw [e25])
  obtain ⟨⟨hk27, hb26⟩, hf⟩ := gd_some hf
  refine p_iast X (dcg dc_X12_tells 96 rfl) hk27 (vp_of_inb hb26) ?_
  obtain ⟨h28, rfl, hf⟩ := lt_some hf
  refine p_aload_n X (dcg dc_X12_tells 97 rfl) rfl rfl ?_
  refine p_dup X (dcg dc_X12_tells 98 rfl) rfl ?_
  obtain ⟨hk29, hf⟩ := gd_some hf
  refine p_getI X fl_X12_196 rfl (by decide) (dcg dc_X12_tells 99 rfl) hk29 ?_
  refine p_iconst (v := 1) X (dcg dc_X12_tells 100 rfl) (by decide) ?_
  refine p_iadd X (dcg dc_X12_tells 101 rfl) ?_
  refine p_putI X fl_X12_196 rfl (by decide) (fun q hq => by cases hq; rfl) rfl rfl (dcg dc_X12_tells 102 rfl) hk29 ?_
  obtain ⟨h30, rfl, hf⟩ := lt_some hf
  refine p_pick [0, 1, 2] ?_
  exact wX12_tells_b179 X hG hnm hf k0 kf
noncomputable def fX12_tells_b131 (v0 : Nat) (v1 : Int32) (v2 : Int32) (v3 : Int32) (h : PH) : Option ((Int32 × PH) ⊕ PH) :=
  gd (hK h v0 = 12) (gs (hR h 12 v0 15) (fun a14 =>
  gd (hK h a14 = 20 ∧ inb (hI h 12 v0 18) (hN h a14)) (lt (sI h 20 a14 (Int32.toNatClampNeg (hI h 12 v0 18)) v2) (fun h18 =>
  gs (hR h18 12 v0 16) (fun a19 =>
  gd (hK h18 a19 = 20 ∧ inb (hI h18 12 v0 18) (hN h18 a19)) (lt (sI h18 20 a19 (Int32.toNatClampNeg (hI h18 12 v0 18)) v1) (fun h23 =>
  if (v3 = 0) then (fX12_tells_b168 v0 v1 v2 (hR h23 12 v0 17) (hI h23 12 v0 18) (0 : Int32) h23) else
  fX12_tells_b168 v0 v1 v2 (hR h23 12 v0 17) (hI h23 12 v0 18) (1 : Int32) h23)))))))
set_option maxRecDepth 100000 in
theorem mX12_tells_b131 {v0 : Nat} {v1 : Int32} {v2 : Int32} {v3 : Int32} {h : PH} {x : ((Int32 × PH) ⊕ PH)} (hf : fX12_tells_b131 v0 v1 v2 v3 h = some x) : (∀ w9 : (Int32 × PH), x = .inl w9 → eqz h (hX (w9.2)) (hV (w9.2))) ∧ (∀ w9 : PH, x = .inr w9 → eqz h (hX w9) (hV w9)) := by
  unfold fX12_tells_b131 at hf
  have hle := eqz_rf h
  obtain ⟨hk13, hf⟩ := gd_some hf
  obtain ⟨a14, e15, hf⟩ := gs_some hf
  obtain ⟨⟨hk17, hb16⟩, hf⟩ := gd_some hf
  obtain ⟨h18, rfl, hf⟩ := lt_some hf
  obtain ⟨a19, e20, hf⟩ := gs_some hf
  obtain ⟨⟨hk22, hb21⟩, hf⟩ := gd_some hf
  obtain ⟨h23, rfl, hf⟩ := lt_some hf
  rcases ite_or hf with ⟨q, hf⟩ | ⟨q, hf⟩
  · have hf := if_t q hf
    obtain ⟨c0, cf⟩ := mX12_tells_b168 hf
    exact ⟨fun z e => eqz_rt (c0 z (e)) hle, fun z e => eqz_rt (cf z (e)) hle⟩
  · have hf := if_f q hf
    obtain ⟨c0, cf⟩ := mX12_tells_b168 hf
    exact ⟨fun z e => eqz_rt (c0 z (e)) hle, fun z e => eqz_rt (cf z (e)) hle⟩
set_option maxRecDepth 100000 in
theorem wX12_tells_b131 {E : PE} {p : Program} {l : Launch} {e : Env} {s : State} {m : MethodId} {args : Array Value} {below : List Frame} {meth : Method} {c : Code} (X : Cx E p l e (rmv 4 0 0) s m args below meth c RX12 cX12_tells 5 (none)) (hG : Gs E l) (hnm : meth.name = yX12_tells.name) {v0 : Nat} {v1 : Int32} {v2 : Int32} {v3 : Int32} {h : PH} {r : PH} {x : ((Int32 × PH) ⊕ PH)} (hf : fX12_tells_b131 v0 v1 v2 v3 h = some x) (k0 : ∀ z : (Int32 × PH), x = .inl z → PW E p l e (rmv 4 0 0) s m args below meth c 5 0 0 (MQ below (QG E (fun v u => v = none ∧ u = r)) args s 0 0 (pA E)) (z.2) 2 [(0, some (.ref v0)), (1, some (.int v1)), (2, some (.int (z.1)))] []) (kf : ∀ z : PH, x = .inr z → z = r) : PW E p l e (rmv 4 0 0) s m args below meth c 5 0 0 (MQ below (QG E (fun v u => v = none ∧ u = r)) args s 0 0 (pA E)) h 131 [(0, some (.ref v0)), (1, some (.int v1)), (2, some (.int v2)), (3, some (.int v3))] [] := by
  unfold fX12_tells_b131 at hf
  refine p_aload_n X (dcg dc_X12_tells 75 rfl) rfl rfl ?_
  obtain ⟨hk13, hf⟩ := gd_some hf
  refine p_getR X fl_X12_48 rfl (by decide) (dcg dc_X12_tells 76 rfl) hk13 ?_
  refine p_aload_n X (dcg dc_X12_tells 77 rfl) rfl rfl ?_
  refine p_getI X fl_X12_196 rfl (by decide) (dcg dc_X12_tells 78 rfl) hk13 ?_
  refine p_iload_n X (dcg dc_X12_tells 79 rfl) rfl rfl ?_
  obtain ⟨a14, e15, hf⟩ := gs_some hf
  first | subst e15 | (try rw [e15])
  obtain ⟨⟨hk17, hb16⟩, hf⟩ := gd_some hf
  refine p_iast X (dcg dc_X12_tells 80 rfl) hk17 (vp_of_inb hb16) ?_
  obtain ⟨h18, rfl, hf⟩ := lt_some hf
  refine p_aload_n X (dcg dc_X12_tells 81 rfl) rfl rfl ?_
  refine p_getR X fl_X12_51 rfl (by decide) (dcg dc_X12_tells 82 rfl) hk13 ?_
  refine p_aload_n X (dcg dc_X12_tells 83 rfl) rfl rfl ?_
  refine p_getI X fl_X12_196 rfl (by decide) (dcg dc_X12_tells 84 rfl) hk13 ?_
  refine p_iload_n X (dcg dc_X12_tells 85 rfl) rfl rfl ?_
  obtain ⟨a19, e20, hf⟩ := gs_some hf
  first | subst e20 | (try rw [e20])
  obtain ⟨⟨hk22, hb21⟩, hf⟩ := gd_some hf
  refine p_iast X (dcg dc_X12_tells 86 rfl) hk22 (vp_of_inb hb21) ?_
  obtain ⟨h23, rfl, hf⟩ := lt_some hf
  refine p_aload_n X (dcg dc_X12_tells 87 rfl) rfl rfl ?_
  refine p_getR X fl_X12_54 rfl (by decide) (dcg dc_X12_tells 88 rfl) hk13 ?_
  refine p_aload_n X (dcg dc_X12_tells 89 rfl) rfl rfl ?_
  refine p_getI X fl_X12_196 rfl (by decide) (dcg dc_X12_tells 90 rfl) hk13 ?_
  refine p_iload_n X (dcg dc_X12_tells 91 rfl) rfl rfl ?_
  refine p_if_eq (tgt := 167) X (dcg dc_X12_tells 92 rfl) (by decide) (fun q => ?_) (fun q => ?_)
  · have hf := if_t q hf
    refine p_iconst (v := 0) X (dcg dc_X12_tells 95 rfl) (by decide) ?_
    refine p_pick [0, 1, 2] ?_
    exact wX12_tells_b168 X hG hnm hf k0 kf
  · have hf := if_f q hf
    refine p_iconst (v := 1) X (dcg dc_X12_tells 93 rfl) (by decide) ?_
    refine p_goto (tgt := 168) X (dcg dc_X12_tells 94 rfl) (by decide) ?_
    refine p_pick [0, 1, 2] ?_
    exact wX12_tells_b168 X hG hnm hf k0 kf
noncomputable def fX12_tells_c68 (v0 : Nat) (v1 : Int32) (v2 : Int32) (v3 : Int32) (v4 : Int32) (h : PH) : Option ((Int32 × PH) ⊕ ((Int32 × PH) ⊕ PH)) :=
  gd (hK h v0 = 12) (if ((hI h 12 v0 18) ≤ v4) then (mr (fX12_tells_b131 v0 v1 v2 v3 h)) else
  gs (hR h 12 v0 15) (fun a35 =>
  gd (hK h a35 = 20 ∧ inb (v4 + (1 : Int32)) (hN h a35)) (gd (inb v4 (hN h a35)) (lt (sI h 20 a35 (Int32.toNatClampNeg v4) (hI h 20 a35 (Int32.toNatClampNeg (v4 + (1 : Int32))))) (fun h40 =>
  gs (hR h40 12 v0 16) (fun a41 =>
  gd (hK h40 a41 = 20 ∧ inb (v4 + (1 : Int32)) (hN h40 a41)) (gd (inb v4 (hN h40 a41)) (lt (sI h40 20 a41 (Int32.toNatClampNeg v4) (hI h40 20 a41 (Int32.toNatClampNeg (v4 + (1 : Int32))))) (fun h46 =>
  gs (hR h46 12 v0 17) (fun a47 =>
  gd (hK h46 a47 = 20 ∧ inb (v4 + (1 : Int32)) (hN h46 a47)) (gd (inb v4 (hN h46 a47)) (lt (sI h46 20 a47 (Int32.toNatClampNeg v4) (hI h46 20 a47 (Int32.toNatClampNeg (v4 + (1 : Int32))))) (fun h52 =>
  some (.inl ((v4 + 1), h52)))))))))))))))
set_option maxRecDepth 100000 in
theorem mX12_tells_c68 {v0 : Nat} {v1 : Int32} {v2 : Int32} {v3 : Int32} {v4 : Int32} {h : PH} {x : ((Int32 × PH) ⊕ ((Int32 × PH) ⊕ PH))} (hf : fX12_tells_c68 v0 v1 v2 v3 v4 h = some x) : (∀ w9 : (Int32 × PH), x = .inl w9 → eqz h (hX (w9.2)) (hV (w9.2))) ∧ (∀ w9 : (Int32 × PH), x = .inr (.inl w9) → eqz h (hX (w9.2)) (hV (w9.2))) ∧ (∀ w9 : PH, x = .inr (.inr w9) → eqz h (hX w9) (hV w9)) := by
  unfold fX12_tells_c68 at hf
  have hle := eqz_rf h
  obtain ⟨hk32, hf⟩ := gd_some hf
  rcases ite_or hf with ⟨q, hf⟩ | ⟨q, hf⟩
  · have hf := if_t q hf
    obtain ⟨y33, hfm, rfl⟩ := mr_some hf; have hf := hfm; clear hfm
    obtain ⟨c0, cf⟩ := mX12_tells_b131 hf
    exact ⟨(fun z e => nomatch e), fun z e => eqz_rt (c0 z (Sum.inr.inj (e))) hle, fun z e => eqz_rt (cf z (Sum.inr.inj (e))) hle⟩
  · have hf := if_f q hf
    obtain ⟨a35, e36, hf⟩ := gs_some hf
    obtain ⟨⟨hk38, hb37⟩, hf⟩ := gd_some hf
    obtain ⟨hb39, hf⟩ := gd_some hf
    obtain ⟨h40, rfl, hf⟩ := lt_some hf
    obtain ⟨a41, e42, hf⟩ := gs_some hf
    obtain ⟨⟨hk44, hb43⟩, hf⟩ := gd_some hf
    obtain ⟨hb45, hf⟩ := gd_some hf
    obtain ⟨h46, rfl, hf⟩ := lt_some hf
    obtain ⟨a47, e48, hf⟩ := gs_some hf
    obtain ⟨⟨hk50, hb49⟩, hf⟩ := gd_some hf
    obtain ⟨hb51, hf⟩ := gd_some hf
    obtain ⟨h52, rfl, hf⟩ := lt_some hf
    have ee := Option.some.inj hf; subst ee
    exact ⟨(fun z e => by have ee := Sum.inl.inj (e); subst ee; exact hle), (fun z e => nomatch e), (fun z e => nomatch e)⟩
set_option maxRecDepth 100000 in
theorem wX12_tells_c68 {E : PE} {p : Program} {l : Launch} {e : Env} {s : State} {m : MethodId} {args : Array Value} {below : List Frame} {meth : Method} {c : Code} (X : Cx E p l e (rmv 4 0 0) s m args below meth c RX12 cX12_tells 5 (none)) (hG : Gs E l) (hnm : meth.name = yX12_tells.name) {v0 : Nat} {v1 : Int32} {v2 : Int32} {v3 : Int32} {v4 : Int32} {h : PH} {r : PH} {x : ((Int32 × PH) ⊕ ((Int32 × PH) ⊕ PH))} (hf : fX12_tells_c68 v0 v1 v2 v3 v4 h = some x) (k0 : ∀ z : (Int32 × PH), x = .inl z → PW E p l e (rmv 4 0 0) s m args below meth c 5 0 0 (MQ below (QG E (fun v u => v = none ∧ u = r)) args s 0 0 (pA E)) (z.2) 68 [(0, some (.ref v0)), (1, some (.int v1)), (2, some (.int v2)), (3, some (.int v3)), (4, some (.int (z.1)))] []) (k1 : ∀ z : (Int32 × PH), x = .inr (.inl z) → PW E p l e (rmv 4 0 0) s m args below meth c 5 0 0 (MQ below (QG E (fun v u => v = none ∧ u = r)) args s 0 0 (pA E)) (z.2) 2 [(0, some (.ref v0)), (1, some (.int v1)), (2, some (.int (z.1)))] []) (kf : ∀ z : PH, x = .inr (.inr z) → z = r) : PW E p l e (rmv 4 0 0) s m args below meth c 5 0 0 (MQ below (QG E (fun v u => v = none ∧ u = r)) args s 0 0 (pA E)) h 68 [(0, some (.ref v0)), (1, some (.int v1)), (2, some (.int v2)), (3, some (.int v3)), (4, some (.int v4))] [] := by
  unfold fX12_tells_c68 at hf
  refine p_iload X (dcg dc_X12_tells 39 rfl) rfl ?_
  refine p_aload_n X (dcg dc_X12_tells 40 rfl) rfl rfl ?_
  obtain ⟨hk32, hf⟩ := gd_some hf
  refine p_getI X fl_X12_196 rfl (by decide) (dcg dc_X12_tells 41 rfl) hk32 ?_
  refine p_icmp_ge (tgt := 131) X (dcg dc_X12_tells 42 rfl) (by decide) (fun q => ?_) (fun q => ?_)
  · have hf := if_t q hf
    obtain ⟨y33, hf, hy34⟩ := mr_some hf
    refine p_pick [0, 1, 2, 3] ?_
    exact wX12_tells_b131 X hG hnm hf (fun z0 e0 => k1 z0 (hy34.trans (congrArg Sum.inr e0))) (fun z0 e0 => kf z0 (hy34.trans (congrArg Sum.inr e0)))
  · have hf := if_f q hf
    refine p_aload_n X (dcg dc_X12_tells 43 rfl) rfl rfl ?_
    refine p_getR X fl_X12_48 rfl (by decide) (dcg dc_X12_tells 44 rfl) hk32 ?_
    refine p_iload X (dcg dc_X12_tells 45 rfl) rfl ?_
    refine p_aload_n X (dcg dc_X12_tells 46 rfl) rfl rfl ?_
    refine p_getR X fl_X12_48 rfl (by decide) (dcg dc_X12_tells 47 rfl) hk32 ?_
    refine p_iload X (dcg dc_X12_tells 48 rfl) rfl ?_
    refine p_iconst (v := 1) X (dcg dc_X12_tells 49 rfl) (by decide) ?_
    refine p_iadd X (dcg dc_X12_tells 50 rfl) ?_
    obtain ⟨a35, e36, hf⟩ := gs_some hf
    first | subst e36 | (try rw [e36])
    obtain ⟨⟨hk38, hb37⟩, hf⟩ := gd_some hf
    refine p_iald X (dcg dc_X12_tells 51 rfl) hk38 (vp_of_inb hb37) ?_
    obtain ⟨hb39, hf⟩ := gd_some hf
    refine p_iast X (dcg dc_X12_tells 52 rfl) hk38 (vp_of_inb hb39) ?_
    obtain ⟨h40, rfl, hf⟩ := lt_some hf
    refine p_aload_n X (dcg dc_X12_tells 53 rfl) rfl rfl ?_
    refine p_getR X fl_X12_51 rfl (by decide) (dcg dc_X12_tells 54 rfl) hk32 ?_
    refine p_iload X (dcg dc_X12_tells 55 rfl) rfl ?_
    refine p_aload_n X (dcg dc_X12_tells 56 rfl) rfl rfl ?_
    refine p_getR X fl_X12_51 rfl (by decide) (dcg dc_X12_tells 57 rfl) hk32 ?_
    refine p_iload X (dcg dc_X12_tells 58 rfl) rfl ?_
    refine p_iconst (v := 1) X (dcg dc_X12_tells 59 rfl) (by decide) ?_
    refine p_iadd X (dcg dc_X12_tells 60 rfl) ?_
    obtain ⟨a41, e42, hf⟩ := gs_some hf
    first | subst e42 | (try rw [e42])
    obtain ⟨⟨hk44, hb43⟩, hf⟩ := gd_some hf
    refine p_iald X (dcg dc_X12_tells 61 rfl) hk44 (vp_of_inb hb43) ?_
    obtain ⟨hb45, hf⟩ := gd_some hf
    refine p_iast X (dcg dc_X12_tells 62 rfl) hk44 (vp_of_inb hb45) ?_
    obtain ⟨h46, rfl, hf⟩ := lt_some hf
    refine p_aload_n X (dcg dc_X12_tells 63 rfl) rfl rfl ?_
    refine p_getR X fl_X12_54 rfl (by decide) (dcg dc_X12_tells 64 rfl) hk32 ?_
    refine p_iload X (dcg dc_X12_tells 65 rfl) rfl ?_
    refine p_aload_n X (dcg dc_X12_tells 66 rfl) rfl rfl ?_
    refine p_getR X fl_X12_54 rfl (by decide) (dcg dc_X12_tells 67 rfl) hk32 ?_
    refine p_iload X (dcg dc_X12_tells 68 rfl) rfl ?_
    refine p_iconst (v := 1) X (dcg dc_X12_tells 69 rfl) (by decide) ?_
    refine p_iadd X (dcg dc_X12_tells 70 rfl) ?_
    obtain ⟨a47, e48, hf⟩ := gs_some hf
    first | subst e48 | (try rw [e48])
    obtain ⟨⟨hk50, hb49⟩, hf⟩ := gd_some hf
    refine p_iald X (dcg dc_X12_tells 71 rfl) hk50 (vp_of_inb hb49) ?_
    obtain ⟨hb51, hf⟩ := gd_some hf
    refine p_iast X (dcg dc_X12_tells 72 rfl) hk50 (vp_of_inb hb51) ?_
    obtain ⟨h52, rfl, hf⟩ := lt_some hf
    refine p_iinc (v := 1) X (dcg dc_X12_tells 73 rfl) rfl (by decide) (by decide) rfl ?_
    refine p_goto (tgt := 68) X (dcg dc_X12_tells 74 rfl) (by decide) ?_
    refine p_pick [0, 1, 2, 3, 4] ?_
    exact k0 _ (Option.some.inj hf).symm
noncomputable def fX12_tells_l68 (v0 : Nat) (v1 : Int32) (v2 : Int32) (v3 : Int32) (v4 : Int32) (h : PH) : Option ((Int32 × PH) ⊕ PH) := wh (fun z : (Int32 × PH) => fX12_tells_c68 v0 v1 v2 v3 (z.1) (z.2)) (v4, h)
set_option maxRecDepth 100000 in
theorem mX12_tells_l68 {v0 : Nat} {v1 : Int32} {v2 : Int32} {v3 : Int32} {v4 : Int32} {h : PH} {x : ((Int32 × PH) ⊕ PH)} (hf : fX12_tells_l68 v0 v1 v2 v3 v4 h = some x) : (∀ w9 : (Int32 × PH), x = .inl w9 → eqz h (hX (w9.2)) (hV (w9.2))) ∧ (∀ w9 : PH, x = .inr w9 → eqz h (hX w9) (hV w9)) := by
  unfold fX12_tells_l68 at hf
  refine wh_ind (P := fun z => (∀ w9 : (Int32 × PH), x = .inl w9 → eqz (z.2) (hX (w9.2)) (hV (w9.2))) ∧ (∀ w9 : PH, x = .inr w9 → eqz (z.2) (hX w9) (hV w9))) (fun z x0 hs i1 i2 => ?_) _ hf
  obtain ⟨c0, c1, cf⟩ := mX12_tells_c68 (v0 := v0) (v1 := v1) (v2 := v2) (v3 := v3) (v4 := z.1) (h := z.2) hs
  rcases hxx : x0 with zz | (zz | zz)
  · obtain ⟨d0, d1⟩ := (i1 zz hxx)
    exact ⟨fun z1 e1 => eqz_tr (c0 zz hxx) (d0 z1 e1), fun z1 e1 => eqz_tr (c0 zz hxx) (d1 z1 e1)⟩
  · have ee := i2 _ hxx; subst ee
    exact ⟨(fun z1 e1 => by cases e1 <;> exact c1 zz hxx), (fun z1 e1 => nomatch e1)⟩
  · have ee := i2 _ hxx; subst ee
    exact ⟨(fun z1 e1 => nomatch e1), (fun z1 e1 => by cases e1; exact cf zz hxx)⟩
set_option maxRecDepth 100000 in
theorem wX12_tells_l68 {E : PE} {p : Program} {l : Launch} {e : Env} {s : State} {m : MethodId} {args : Array Value} {below : List Frame} {meth : Method} {c : Code} (X : Cx E p l e (rmv 4 0 0) s m args below meth c RX12 cX12_tells 5 (none)) (hG : Gs E l) (hnm : meth.name = yX12_tells.name) {v0 : Nat} {v1 : Int32} {v2 : Int32} {v3 : Int32} {v4 : Int32} {h : PH} {r : PH} {x : ((Int32 × PH) ⊕ PH)} (hf : fX12_tells_l68 v0 v1 v2 v3 v4 h = some x) (k0 : ∀ z : (Int32 × PH), x = .inl z → PW E p l e (rmv 4 0 0) s m args below meth c 5 0 0 (MQ below (QG E (fun v u => v = none ∧ u = r)) args s 0 0 (pA E)) (z.2) 2 [(0, some (.ref v0)), (1, some (.int v1)), (2, some (.int (z.1)))] []) (kf : ∀ z : PH, x = .inr z → z = r) : PW E p l e (rmv 4 0 0) s m args below meth c 5 0 0 (MQ below (QG E (fun v u => v = none ∧ u = r)) args s 0 0 (pA E)) h 68 [(0, some (.ref v0)), (1, some (.int v1)), (2, some (.int v2)), (3, some (.int v3)), (4, some (.int v4))] [] := by
  unfold fX12_tells_l68 at hf
  refine wh_ind (P := fun z => PW E p l e (rmv 4 0 0) s m args below meth c 5 0 0 (MQ below (QG E (fun v u => v = none ∧ u = r)) args s 0 0 (pA E)) (z.2) 68 [(0, some (.ref v0)), (1, some (.int v1)), (2, some (.int v2)), (3, some (.int v3)), (4, some (.int (z.1)))] []) (fun z x0 hs i1 i2 => ?_) _ hf
  exact wX12_tells_c68 (r := r) (v0 := v0) (v1 := v1) (v2 := v2) (v3 := v3) (v4 := z.1) (h := z.2) X hG hnm hs i1 (fun z1 e1 => k0 z1 (i2 _ e1).symm) (fun z1 e1 => kf z1 (i2 _ e1).symm)
noncomputable def fX12_tells_b32 (v0 : Nat) (v1 : Int32) (v2 : Int32) (t0 : Int32) (h : PH) : Option ((Int32 × PH) ⊕ PH) :=
  gd (hK h v0 = 12) (gs (hR h 12 v0 13) (fun a9 =>
  gd (hK h a9 = 21 ∧ inb v2 (hN h a9)) (if (¬ t0 = (hI h 21 a9 (Int32.toNatClampNeg v2))) then (if (¬ (hI h 12 v0 18) = (100 : Int32)) then (fX12_tells_b131 v0 v1 v2 t0 h) else
  lt (sI h 12 v0 18 ((hI h 12 v0 18) - (1 : Int32))) (fun h31 =>
  fX12_tells_l68 v0 v1 v2 t0 (0 : Int32) h31)) else
  fX12_tells_b179 v0 v1 v2 h)))
set_option maxRecDepth 100000 in
theorem mX12_tells_b32 {v0 : Nat} {v1 : Int32} {v2 : Int32} {t0 : Int32} {h : PH} {x : ((Int32 × PH) ⊕ PH)} (hf : fX12_tells_b32 v0 v1 v2 t0 h = some x) : (∀ w9 : (Int32 × PH), x = .inl w9 → eqz h (hX (w9.2)) (hV (w9.2))) ∧ (∀ w9 : PH, x = .inr w9 → eqz h (hX w9) (hV w9)) := by
  unfold fX12_tells_b32 at hf
  have hle := eqz_rf h
  obtain ⟨hk8, hf⟩ := gd_some hf
  obtain ⟨a9, e10, hf⟩ := gs_some hf
  obtain ⟨⟨hk12, hb11⟩, hf⟩ := gd_some hf
  rcases ite_or hf with ⟨q, hf⟩ | ⟨q, hf⟩
  · have hf := if_t q hf
    rcases ite_or hf with ⟨q, hf⟩ | ⟨q, hf⟩
    · have hf := if_t q hf
      obtain ⟨c0, cf⟩ := mX12_tells_b131 hf
      exact ⟨fun z e => eqz_rt (c0 z (e)) hle, fun z e => eqz_rt (cf z (e)) hle⟩
    · have hf := if_f q hf
      obtain ⟨h31, rfl, hf⟩ := lt_some hf
      obtain ⟨c0, cf⟩ := mX12_tells_l68 hf
      exact ⟨fun z e => eqz_rt (c0 z (e)) hle, fun z e => eqz_rt (cf z (e)) hle⟩
  · have hf := if_f q hf
    obtain ⟨c0, cf⟩ := mX12_tells_b179 hf
    exact ⟨fun z e => eqz_rt (c0 z (e)) hle, fun z e => eqz_rt (cf z (e)) hle⟩
set_option maxRecDepth 100000 in
theorem wX12_tells_b32 {E : PE} {p : Program} {l : Launch} {e : Env} {s : State} {m : MethodId} {args : Array Value} {below : List Frame} {meth : Method} {c : Code} (X : Cx E p l e (rmv 4 0 0) s m args below meth c RX12 cX12_tells 5 (none)) (hG : Gs E l) (hnm : meth.name = yX12_tells.name) {v0 : Nat} {v1 : Int32} {v2 : Int32} {t0 : Int32} {h : PH} {r : PH} {x : ((Int32 × PH) ⊕ PH)} (hf : fX12_tells_b32 v0 v1 v2 t0 h = some x) (k0 : ∀ z : (Int32 × PH), x = .inl z → PW E p l e (rmv 4 0 0) s m args below meth c 5 0 0 (MQ below (QG E (fun v u => v = none ∧ u = r)) args s 0 0 (pA E)) (z.2) 2 [(0, some (.ref v0)), (1, some (.int v1)), (2, some (.int (z.1)))] []) (kf : ∀ z : PH, x = .inr z → z = r) : PW E p l e (rmv 4 0 0) s m args below meth c 5 0 0 (MQ below (QG E (fun v u => v = none ∧ u = r)) args s 0 0 (pA E)) h 32 [(0, some (.ref v0)), (1, some (.int v1)), (2, some (.int v2))] [.int t0] := by
  unfold fX12_tells_b32 at hf
  refine p_istore_n X (dcg dc_X12_tells 19 rfl) rfl (by decide) rfl ?_
  refine p_iload_n X (dcg dc_X12_tells 20 rfl) rfl rfl ?_
  refine p_aload_n X (dcg dc_X12_tells 21 rfl) rfl rfl ?_
  obtain ⟨hk8, hf⟩ := gd_some hf
  refine p_getR X fl_X12_45 rfl (by decide) (dcg dc_X12_tells 22 rfl) hk8 ?_
  refine p_iload_n X (dcg dc_X12_tells 23 rfl) rfl rfl ?_
  obtain ⟨a9, e10, hf⟩ := gs_some hf
  first | subst e10 | (try rw [e10])
  obtain ⟨⟨hk12, hb11⟩, hf⟩ := gd_some hf
  refine p_zald X (dcg dc_X12_tells 24 rfl) hk12 (vp_of_inb hb11) ?_
  refine p_icmp_ne (tgt := 46) X (dcg dc_X12_tells 25 rfl) (by decide) (fun q => ?_) (fun q => ?_)
  · have hf := if_t q hf
    refine p_aload_n X (dcg dc_X12_tells 27 rfl) rfl rfl ?_
    refine p_getI X fl_X12_196 rfl (by decide) (dcg dc_X12_tells 28 rfl) hk8 ?_
    refine p_bipush (v := 100) X (dcg dc_X12_tells 29 rfl) (by decide) ?_
    refine p_icmp_ne (tgt := 131) X (dcg dc_X12_tells 30 rfl) (by decide) (fun q => ?_) (fun q => ?_)
    · have hf := if_t q hf
      refine p_pick [0, 1, 2, 3] ?_
      exact wX12_tells_b131 X hG hnm hf k0 kf
    · have hf := if_f q hf
      refine p_aload_n X (dcg dc_X12_tells 31 rfl) rfl rfl ?_
      refine p_dup X (dcg dc_X12_tells 32 rfl) rfl ?_
      refine p_getI X fl_X12_196 rfl (by decide) (dcg dc_X12_tells 33 rfl) hk8 ?_
      refine p_iconst (v := 1) X (dcg dc_X12_tells 34 rfl) (by decide) ?_
      refine p_isub X (dcg dc_X12_tells 35 rfl) ?_
      refine p_putI X fl_X12_196 rfl (by decide) (fun q hq => by cases hq; rfl) rfl rfl (dcg dc_X12_tells 36 rfl) hk8 ?_
      obtain ⟨h31, rfl, hf⟩ := lt_some hf
      refine p_iconst (v := 0) X (dcg dc_X12_tells 37 rfl) (by decide) ?_
      refine p_istore X (dcg dc_X12_tells 38 rfl) (by decide) rfl ?_
      refine p_pick [0, 1, 2, 3, 4] ?_
      exact wX12_tells_l68 X hG hnm hf k0 kf
  · have hf := if_f q hf
    refine p_goto (tgt := 179) X (dcg dc_X12_tells 26 rfl) (by decide) ?_
    refine p_pick [0, 1, 2] ?_
    exact wX12_tells_b179 X hG hnm hf k0 kf
noncomputable def fX12_tells_b31 (v0 : Nat) (v1 : Int32) (v2 : Int32) (h : PH) : Option ((Int32 × PH) ⊕ PH) :=
  fX12_tells_b32 v0 v1 v2 (0 : Int32) h
set_option maxRecDepth 100000 in
theorem mX12_tells_b31 {v0 : Nat} {v1 : Int32} {v2 : Int32} {h : PH} {x : ((Int32 × PH) ⊕ PH)} (hf : fX12_tells_b31 v0 v1 v2 h = some x) : (∀ w9 : (Int32 × PH), x = .inl w9 → eqz h (hX (w9.2)) (hV (w9.2))) ∧ (∀ w9 : PH, x = .inr w9 → eqz h (hX w9) (hV w9)) := by
  unfold fX12_tells_b31 at hf
  have hle := eqz_rf h
  obtain ⟨c0, cf⟩ := mX12_tells_b32 hf
  exact ⟨fun z e => eqz_rt (c0 z (e)) hle, fun z e => eqz_rt (cf z (e)) hle⟩
set_option maxRecDepth 100000 in
theorem wX12_tells_b31 {E : PE} {p : Program} {l : Launch} {e : Env} {s : State} {m : MethodId} {args : Array Value} {below : List Frame} {meth : Method} {c : Code} (X : Cx E p l e (rmv 4 0 0) s m args below meth c RX12 cX12_tells 5 (none)) (hG : Gs E l) (hnm : meth.name = yX12_tells.name) {v0 : Nat} {v1 : Int32} {v2 : Int32} {h : PH} {r : PH} {x : ((Int32 × PH) ⊕ PH)} (hf : fX12_tells_b31 v0 v1 v2 h = some x) (k0 : ∀ z : (Int32 × PH), x = .inl z → PW E p l e (rmv 4 0 0) s m args below meth c 5 0 0 (MQ below (QG E (fun v u => v = none ∧ u = r)) args s 0 0 (pA E)) (z.2) 2 [(0, some (.ref v0)), (1, some (.int v1)), (2, some (.int (z.1)))] []) (kf : ∀ z : PH, x = .inr z → z = r) : PW E p l e (rmv 4 0 0) s m args below meth c 5 0 0 (MQ below (QG E (fun v u => v = none ∧ u = r)) args s 0 0 (pA E)) h 31 [(0, some (.ref v0)), (1, some (.int v1)), (2, some (.int v2))] [] := by
  unfold fX12_tells_b31 at hf
  refine p_iconst (v := 0) X (dcg dc_X12_tells 18 rfl) (by decide) ?_
  refine p_pick [0, 1, 2] ?_
  exact wX12_tells_b32 X hG hnm hf k0 kf
noncomputable def fX12_tells_c2 (v0 : Nat) (v1 : Int32) (v2 : Int32) (h : PH) : Option ((Int32 × PH) ⊕ PH) :=
  if ((6 : Int32) ≤ v2) then (mr (some (h))) else
  gd (hK h v0 = 12) (gs (hR h 12 v0 34) (fun a4 =>
  gd (hK h a4 = 20 ∧ inb v2 (hN h a4)) (if ((hI h 20 a4 (Int32.toNatClampNeg v2)) = (-1 : Int32)) then (fX12_tells_b31 v0 v1 v2 h) else
  bd (fX12_satisfies v0 v2 v1 h) (fun z53 =>
  if (z53.1 = 0) then (fX12_tells_b31 v0 v1 v2 z53.2) else
  fX12_tells_b32 v0 v1 v2 (1 : Int32) z53.2))))
set_option maxRecDepth 100000 in
theorem mX12_tells_c2 {v0 : Nat} {v1 : Int32} {v2 : Int32} {h : PH} {x : ((Int32 × PH) ⊕ PH)} (hf : fX12_tells_c2 v0 v1 v2 h = some x) : (∀ w9 : (Int32 × PH), x = .inl w9 → eqz h (hX (w9.2)) (hV (w9.2))) ∧ (∀ w9 : PH, x = .inr w9 → eqz h (hX w9) (hV w9)) := by
  unfold fX12_tells_c2 at hf
  have hle := eqz_rf h
  rcases ite_or hf with ⟨q, hf⟩ | ⟨q, hf⟩
  · have hf := if_t q hf
    obtain ⟨y1, hfm, rfl⟩ := mr_some hf; have hf := hfm; clear hfm
    have ee := Option.some.inj hf; subst ee
    exact ⟨(fun z e => nomatch e), (fun z e => by have ee := Sum.inr.inj (e); subst ee; exact hle)⟩
  · have hf := if_f q hf
    obtain ⟨hk3, hf⟩ := gd_some hf
    obtain ⟨a4, e5, hf⟩ := gs_some hf
    obtain ⟨⟨hk7, hb6⟩, hf⟩ := gd_some hf
    rcases ite_or hf with ⟨q, hf⟩ | ⟨q, hf⟩
    · have hf := if_t q hf
      obtain ⟨c0, cf⟩ := mX12_tells_b31 hf
      exact ⟨fun z e => eqz_rt (c0 z (e)) hle, fun z e => eqz_rt (cf z (e)) hle⟩
    · have hf := if_f q hf
      obtain ⟨z53, hz53, hf⟩ := bd_some hf
      have hle := eqz_rt (mX12_satisfies hz53) hle
      rcases ite_or hf with ⟨q, hf⟩ | ⟨q, hf⟩
      · have hf := if_t q hf
        obtain ⟨c0, cf⟩ := mX12_tells_b31 hf
        exact ⟨fun z e => eqz_rt (c0 z (e)) hle, fun z e => eqz_rt (cf z (e)) hle⟩
      · have hf := if_f q hf
        obtain ⟨c0, cf⟩ := mX12_tells_b32 hf
        exact ⟨fun z e => eqz_rt (c0 z (e)) hle, fun z e => eqz_rt (cf z (e)) hle⟩
set_option maxRecDepth 100000 in
theorem wX12_tells_c2 {E : PE} {p : Program} {l : Launch} {e : Env} {s : State} {m : MethodId} {args : Array Value} {below : List Frame} {meth : Method} {c : Code} (X : Cx E p l e (rmv 4 0 0) s m args below meth c RX12 cX12_tells 5 (none)) (hG : Gs E l) (hnm : meth.name = yX12_tells.name) {v0 : Nat} {v1 : Int32} {v2 : Int32} {h : PH} {r : PH} {x : ((Int32 × PH) ⊕ PH)} (hf : fX12_tells_c2 v0 v1 v2 h = some x) (k0 : ∀ z : (Int32 × PH), x = .inl z → PW E p l e (rmv 4 0 0) s m args below meth c 5 0 0 (MQ below (QG E (fun v u => v = none ∧ u = r)) args s 0 0 (pA E)) (z.2) 2 [(0, some (.ref v0)), (1, some (.int v1)), (2, some (.int (z.1)))] []) (kf : ∀ z : PH, x = .inr z → z = r) : PW E p l e (rmv 4 0 0) s m args below meth c 5 0 0 (MQ below (QG E (fun v u => v = none ∧ u = r)) args s 0 0 (pA E)) h 2 [(0, some (.ref v0)), (1, some (.int v1)), (2, some (.int v2))] [] := by
  unfold fX12_tells_c2 at hf
  refine p_iload_n X (dcg dc_X12_tells 2 rfl) rfl rfl ?_
  refine p_bipush (v := 6) X (dcg dc_X12_tells 3 rfl) (by decide) ?_
  refine p_icmp_ge (tgt := 185) X (dcg dc_X12_tells 4 rfl) (by decide) (fun q => ?_) (fun q => ?_)
  · have hf := if_t q hf
    obtain ⟨y1, hf, hy2⟩ := mr_some hf
    have hy2f := kf y1 hy2
    subst hy2f
    have er := Option.some.inj hf
    subst er
    exact p_vret X rfl (dcg dc_X12_tells 105 rfl) ⟨rfl, rfl⟩ (Nat.le_refl _) (Nat.le_refl _)
  · have hf := if_f q hf
    refine p_aload_n X (dcg dc_X12_tells 5 rfl) rfl rfl ?_
    obtain ⟨hk3, hf⟩ := gd_some hf
    refine p_getR X fl_X12_87 rfl (by decide) (dcg dc_X12_tells 6 rfl) hk3 ?_
    refine p_iload_n X (dcg dc_X12_tells 7 rfl) rfl rfl ?_
    obtain ⟨a4, e5, hf⟩ := gs_some hf
    first | subst e5 | (try rw [e5])
    obtain ⟨⟨hk7, hb6⟩, hf⟩ := gd_some hf
    refine p_iald X (dcg dc_X12_tells 8 rfl) hk7 (vp_of_inb hb6) ?_
    refine p_iconst (v := -1) X (dcg dc_X12_tells 9 rfl) (by decide) ?_
    refine p_icmp_eq (tgt := 31) X (dcg dc_X12_tells 10 rfl) (by decide) (fun q => ?_) (fun q => ?_)
    · have hf := if_t q hf
      refine p_pick [0, 1, 2] ?_
      exact wX12_tells_b31 X hG hnm hf k0 kf
    · have hf := if_f q hf
      refine p_aload_n X (dcg dc_X12_tells 11 rfl) rfl rfl ?_
      refine p_iload_n X (dcg dc_X12_tells 12 rfl) rfl rfl ?_
      refine p_iload_n X (dcg dc_X12_tells 13 rfl) rfl rfl ?_
      obtain ⟨z53, hz53, hf⟩ := bd_some hf
      refine p_callV (As := [_, _]) X ml_X12_179 (dcg dc_X12_tells 14 rfl) rfl rfl hk3 (wX12_satisfies hG hz53) (by decide) (room4 (Nat.le_of_ble_eq_true rfl)) (Nat.le_refl _) (Nat.le_refl _) ?_
      rintro _ u9 ⟨rfl, e9⟩; have e9 := e9.symm; subst e9
      refine p_if_eq (tgt := 31) X (dcg dc_X12_tells 15 rfl) (by decide) (fun q => ?_) (fun q => ?_)
      · have hf := if_t q hf
        refine p_pick [0, 1, 2] ?_
        exact wX12_tells_b31 X hG hnm hf k0 kf
      · have hf := if_f q hf
        refine p_iconst (v := 1) X (dcg dc_X12_tells 16 rfl) (by decide) ?_
        refine p_goto (tgt := 32) X (dcg dc_X12_tells 17 rfl) (by decide) ?_
        refine p_pick [0, 1, 2] ?_
        exact wX12_tells_b32 X hG hnm hf k0 kf
noncomputable def fX12_tells_l2 (v0 : Nat) (v1 : Int32) (v2 : Int32) (h : PH) : Option PH := wh (fun z : (Int32 × PH) => fX12_tells_c2 v0 v1 (z.1) (z.2)) (v2, h)
set_option maxRecDepth 100000 in
theorem mX12_tells_l2 {v0 : Nat} {v1 : Int32} {v2 : Int32} {h : PH} {r : PH} (hf : fX12_tells_l2 v0 v1 v2 h = some r) : eqz h (hX r) (hV r) := by
  unfold fX12_tells_l2 at hf
  refine wh_ind (P := fun z => eqz (z.2) (hX r) (hV r)) (fun z x0 hs i1 i2 => ?_) _ hf
  obtain ⟨c0, cf⟩ := mX12_tells_c2 (v0 := v0) (v1 := v1) (v2 := z.1) (h := z.2) hs
  rcases hxx : x0 with zz | zz
  · exact eqz_tr (c0 zz hxx) (i1 zz hxx)
  · have ee := i2 zz hxx; subst ee; exact cf zz hxx
set_option maxRecDepth 100000 in
theorem wX12_tells_l2 {E : PE} {p : Program} {l : Launch} {e : Env} {s : State} {m : MethodId} {args : Array Value} {below : List Frame} {meth : Method} {c : Code} (X : Cx E p l e (rmv 4 0 0) s m args below meth c RX12 cX12_tells 5 (none)) (hG : Gs E l) (hnm : meth.name = yX12_tells.name) {v0 : Nat} {v1 : Int32} {v2 : Int32} {h : PH} {r : PH} (hf : fX12_tells_l2 v0 v1 v2 h = some r)  : PW E p l e (rmv 4 0 0) s m args below meth c 5 0 0 (MQ below (QG E (fun v u => v = none ∧ u = r)) args s 0 0 (pA E)) h 2 [(0, some (.ref v0)), (1, some (.int v1)), (2, some (.int v2))] [] := by
  unfold fX12_tells_l2 at hf
  refine wh_ind (P := fun z => PW E p l e (rmv 4 0 0) s m args below meth c 5 0 0 (MQ below (QG E (fun v u => v = none ∧ u = r)) args s 0 0 (pA E)) (z.2) 2 [(0, some (.ref v0)), (1, some (.int v1)), (2, some (.int (z.1)))] []) (fun z x0 hs i1 i2 => ?_) _ hf
  exact wX12_tells_c2 (r := r) (v0 := v0) (v1 := v1) (v2 := z.1) (h := z.2) X hG hnm hs i1  i2
noncomputable def fX12_tells (v0 : Nat) (v1 : Int32) (h : PH) : Option PH :=
  fX12_tells_l2 v0 v1 (0 : Int32) h
set_option maxRecDepth 100000 in
theorem mX12_tells {v0 : Nat} {v1 : Int32} {h : PH} {r : PH} (hf : fX12_tells v0 v1 h = some r) : eqz h (hX r) (hV r) := by
  unfold fX12_tells at hf
  have hle := eqz_rf h
  exact eqz_rt (mX12_tells_l2 hf) hle
set_option maxRecDepth 100000 in
theorem wX12_tells {E : PE} {l : Launch} (hG : Gs E l) {v0 : Nat} {v1 : Int32} {h : PH} {r : PH} (hf : fX12_tells v0 v1 h = some r) : Ct E l 4 0 0 yX12_tells cX12_tells 5 (none) [.ref v0, .int v1] h (fun v u => v = none ∧ u = r) := by
  refine ct_of hG (by decide) (Nat.le_of_ble_eq_true rfl) ?_
  intro p e s m args below meth c X hnm
  show PW E p l e _ s m args below meth c _ 0 0 _ h 0 [(0, some (.ref v0)), (1, some (.int v1))] []
  unfold fX12_tells at hf
  refine p_iconst (v := 0) X (dcg dc_X12_tells 0 rfl) (by decide) ?_
  refine p_istore_n X (dcg dc_X12_tells 1 rfl) rfl (by decide) rfl ?_
  refine p_pick [0, 1, 2] ?_
  exact wX12_tells_l2 X hG hnm hf 
theorem dc_X12_takesRead : decs cX12_takesRead [(0, .aload_n 0, 1), (1, .getfield 20, 3), (4, .iload_n 1, 1), (5, .iconst 1, 1), (6, .bastore, 1), (7, .aload_n 0, 1), (8, .getfield 27, 3), (11, .iload_n 1, 1), (12, .aload_n 0, 1), (13, .getfield 173, 3), (16, .iastore, 1), (17, .iconst 0, 1), (18, .istore_n 2, 1), (19, .iload_n 2, 1), (20, .aload_n 0, 1), (21, .getfield 173, 3), (24, .if_icmp .ge 26, 3), (27, .aload_n 0, 1), (28, .getfield 24, 3), (31, .bipush 40, 2), (33, .iload_n 1, 1), (34, .imul, 1), (35, .iload_n 2, 1), (36, .iadd, 1), (37, .aload_n 0, 1), (38, .getfield 30, 3), (41, .iload_n 2, 1), (42, .iaload, 1), (43, .iastore, 1), (44, .iinc 2 1, 3), (47, .goto (-28), 3), (50, .return_, 1)] = true := by decide +kernel
noncomputable def fX12_takesRead_c19 (v0 : Nat) (v1 : Int32) (v2 : Int32) (h : PH) : Option ((Int32 × PH) ⊕ PH) :=
  gd (hK h v0 = 12) (if ((hI h 12 v0 8) ≤ v2) then (mr (some (h))) else
  gs (hR h 12 v0 7) (fun a15 =>
  gd (hK h a15 = 20 ∧ inb v2 (hN h a15)) (gs (hR h 12 v0 5) (fun a19 =>
  gd (hK h a19 = 20 ∧ inb (((40 : Int32) * v1) + v2) (hN h a19)) (lt (sI h 20 a19 (Int32.toNatClampNeg (((40 : Int32) * v1) + v2)) (hI h 20 a15 (Int32.toNatClampNeg v2))) (fun h23 =>
  some (.inl ((v2 + 1), h23))))))))
set_option maxRecDepth 100000 in
theorem mX12_takesRead_c19 {v0 : Nat} {v1 : Int32} {v2 : Int32} {h : PH} {x : ((Int32 × PH) ⊕ PH)} (hf : fX12_takesRead_c19 v0 v1 v2 h = some x) : (∀ w9 : (Int32 × PH), x = .inl w9 → eqz h (hX (w9.2)) (hV (w9.2))) ∧ (∀ w9 : PH, x = .inr w9 → eqz h (hX w9) (hV w9)) := by
  unfold fX12_takesRead_c19 at hf
  have hle := eqz_rf h
  obtain ⟨hk12, hf⟩ := gd_some hf
  rcases ite_or hf with ⟨q, hf⟩ | ⟨q, hf⟩
  · have hf := if_t q hf
    obtain ⟨y13, hfm, rfl⟩ := mr_some hf; have hf := hfm; clear hfm
    have ee := Option.some.inj hf; subst ee
    exact ⟨(fun z e => nomatch e), (fun z e => by have ee := Sum.inr.inj (e); subst ee; exact hle)⟩
  · have hf := if_f q hf
    obtain ⟨a15, e16, hf⟩ := gs_some hf
    obtain ⟨⟨hk18, hb17⟩, hf⟩ := gd_some hf
    obtain ⟨a19, e20, hf⟩ := gs_some hf
    obtain ⟨⟨hk22, hb21⟩, hf⟩ := gd_some hf
    obtain ⟨h23, rfl, hf⟩ := lt_some hf
    have ee := Option.some.inj hf; subst ee
    exact ⟨(fun z e => by have ee := Sum.inl.inj (e); subst ee; exact hle), (fun z e => nomatch e)⟩
set_option maxRecDepth 100000 in
theorem wX12_takesRead_c19 {E : PE} {p : Program} {l : Launch} {e : Env} {s : State} {m : MethodId} {args : Array Value} {below : List Frame} {meth : Method} {c : Code} (X : Cx E p l e (rmv 0 0 0) s m args below meth c RX12 cX12_takesRead 3 (none)) (hG : Gs E l) (hnm : meth.name = yX12_takesRead.name) {v0 : Nat} {v1 : Int32} {v2 : Int32} {h : PH} {r : PH} {x : ((Int32 × PH) ⊕ PH)} (hf : fX12_takesRead_c19 v0 v1 v2 h = some x) (k0 : ∀ z : (Int32 × PH), x = .inl z → PW E p l e (rmv 0 0 0) s m args below meth c 3 0 0 (MQ below (QG E (fun v u => v = none ∧ u = r)) args s 0 0 (pA E)) (z.2) 19 [(0, some (.ref v0)), (1, some (.int v1)), (2, some (.int (z.1)))] []) (kf : ∀ z : PH, x = .inr z → z = r) : PW E p l e (rmv 0 0 0) s m args below meth c 3 0 0 (MQ below (QG E (fun v u => v = none ∧ u = r)) args s 0 0 (pA E)) h 19 [(0, some (.ref v0)), (1, some (.int v1)), (2, some (.int v2))] [] := by
  unfold fX12_takesRead_c19 at hf
  refine p_iload_n X (dcg dc_X12_takesRead 13 rfl) rfl rfl ?_
  refine p_aload_n X (dcg dc_X12_takesRead 14 rfl) rfl rfl ?_
  obtain ⟨hk12, hf⟩ := gd_some hf
  refine p_getI X fl_X12_173 rfl (by decide) (dcg dc_X12_takesRead 15 rfl) hk12 ?_
  refine p_icmp_ge (tgt := 50) X (dcg dc_X12_takesRead 16 rfl) (by decide) (fun q => ?_) (fun q => ?_)
  · have hf := if_t q hf
    obtain ⟨y13, hf, hy14⟩ := mr_some hf
    have hy14f := kf y13 hy14
    subst hy14f
    have er := Option.some.inj hf
    subst er
    exact p_vret X rfl (dcg dc_X12_takesRead 31 rfl) ⟨rfl, rfl⟩ (Nat.le_refl _) (Nat.le_refl _)
  · have hf := if_f q hf
    refine p_aload_n X (dcg dc_X12_takesRead 17 rfl) rfl rfl ?_
    refine p_getR X fl_X12_24 rfl (by decide) (dcg dc_X12_takesRead 18 rfl) hk12 ?_
    refine p_bipush (v := 40) X (dcg dc_X12_takesRead 19 rfl) (by decide) ?_
    refine p_iload_n X (dcg dc_X12_takesRead 20 rfl) rfl rfl ?_
    refine p_imul X (dcg dc_X12_takesRead 21 rfl) ?_
    refine p_iload_n X (dcg dc_X12_takesRead 22 rfl) rfl rfl ?_
    refine p_iadd X (dcg dc_X12_takesRead 23 rfl) ?_
    refine p_aload_n X (dcg dc_X12_takesRead 24 rfl) rfl rfl ?_
    refine p_getR X fl_X12_30 rfl (by decide) (dcg dc_X12_takesRead 25 rfl) hk12 ?_
    refine p_iload_n X (dcg dc_X12_takesRead 26 rfl) rfl rfl ?_
    obtain ⟨a15, e16, hf⟩ := gs_some hf
    first | subst e16 | (try rw [e16])
    obtain ⟨⟨hk18, hb17⟩, hf⟩ := gd_some hf
    refine p_iald X (dcg dc_X12_takesRead 27 rfl) hk18 (vp_of_inb hb17) ?_
    obtain ⟨a19, e20, hf⟩ := gs_some hf
    first | subst e20 | (try rw [e20])
    obtain ⟨⟨hk22, hb21⟩, hf⟩ := gd_some hf
    refine p_iast X (dcg dc_X12_takesRead 28 rfl) hk22 (vp_of_inb hb21) ?_
    obtain ⟨h23, rfl, hf⟩ := lt_some hf
    refine p_iinc (v := 1) X (dcg dc_X12_takesRead 29 rfl) rfl (by decide) (by decide) rfl ?_
    refine p_goto (tgt := 19) X (dcg dc_X12_takesRead 30 rfl) (by decide) ?_
    refine p_pick [0, 1, 2] ?_
    exact k0 _ (Option.some.inj hf).symm
noncomputable def fX12_takesRead_l19 (v0 : Nat) (v1 : Int32) (v2 : Int32) (h : PH) : Option PH := wh (fun z : (Int32 × PH) => fX12_takesRead_c19 v0 v1 (z.1) (z.2)) (v2, h)
set_option maxRecDepth 100000 in
theorem mX12_takesRead_l19 {v0 : Nat} {v1 : Int32} {v2 : Int32} {h : PH} {r : PH} (hf : fX12_takesRead_l19 v0 v1 v2 h = some r) : eqz h (hX r) (hV r) := by
  unfold fX12_takesRead_l19 at hf
  refine wh_ind (P := fun z => eqz (z.2) (hX r) (hV r)) (fun z x0 hs i1 i2 => ?_) _ hf
  obtain ⟨c0, cf⟩ := mX12_takesRead_c19 (v0 := v0) (v1 := v1) (v2 := z.1) (h := z.2) hs
  rcases hxx : x0 with zz | zz
  · exact eqz_tr (c0 zz hxx) (i1 zz hxx)
  · have ee := i2 zz hxx; subst ee; exact cf zz hxx
set_option maxRecDepth 100000 in
theorem wX12_takesRead_l19 {E : PE} {p : Program} {l : Launch} {e : Env} {s : State} {m : MethodId} {args : Array Value} {below : List Frame} {meth : Method} {c : Code} (X : Cx E p l e (rmv 0 0 0) s m args below meth c RX12 cX12_takesRead 3 (none)) (hG : Gs E l) (hnm : meth.name = yX12_takesRead.name) {v0 : Nat} {v1 : Int32} {v2 : Int32} {h : PH} {r : PH} (hf : fX12_takesRead_l19 v0 v1 v2 h = some r)  : PW E p l e (rmv 0 0 0) s m args below meth c 3 0 0 (MQ below (QG E (fun v u => v = none ∧ u = r)) args s 0 0 (pA E)) h 19 [(0, some (.ref v0)), (1, some (.int v1)), (2, some (.int v2))] [] := by
  unfold fX12_takesRead_l19 at hf
  refine wh_ind (P := fun z => PW E p l e (rmv 0 0 0) s m args below meth c 3 0 0 (MQ below (QG E (fun v u => v = none ∧ u = r)) args s 0 0 (pA E)) (z.2) 19 [(0, some (.ref v0)), (1, some (.int v1)), (2, some (.int (z.1)))] []) (fun z x0 hs i1 i2 => ?_) _ hf
  exact wX12_takesRead_c19 (r := r) (v0 := v0) (v1 := v1) (v2 := z.1) (h := z.2) X hG hnm hs i1  i2
noncomputable def fX12_takesRead (v0 : Nat) (v1 : Int32) (h : PH) : Option PH :=
  gd (hK h v0 = 12) (gs (hR h 12 v0 4) (fun a2 =>
  gd (hK h a2 = 21 ∧ inb v1 (hN h a2)) (lt (sI h 21 a2 (Int32.toNatClampNeg v1) ((1 : Int32) &&& 1)) (fun h6 =>
  gs (hR h6 12 v0 6) (fun a7 =>
  gd (hK h6 a7 = 20 ∧ inb v1 (hN h6 a7)) (lt (sI h6 20 a7 (Int32.toNatClampNeg v1) (hI h6 12 v0 8)) (fun h11 =>
  fX12_takesRead_l19 v0 v1 (0 : Int32) h11)))))))
set_option maxRecDepth 100000 in
theorem mX12_takesRead {v0 : Nat} {v1 : Int32} {h : PH} {r : PH} (hf : fX12_takesRead v0 v1 h = some r) : eqz h (hX r) (hV r) := by
  unfold fX12_takesRead at hf
  have hle := eqz_rf h
  obtain ⟨hk1, hf⟩ := gd_some hf
  obtain ⟨a2, e3, hf⟩ := gs_some hf
  obtain ⟨⟨hk5, hb4⟩, hf⟩ := gd_some hf
  obtain ⟨h6, rfl, hf⟩ := lt_some hf
  obtain ⟨a7, e8, hf⟩ := gs_some hf
  obtain ⟨⟨hk10, hb9⟩, hf⟩ := gd_some hf
  obtain ⟨h11, rfl, hf⟩ := lt_some hf
  exact eqz_rt (mX12_takesRead_l19 hf) hle
set_option maxRecDepth 100000 in
theorem wX12_takesRead {E : PE} {l : Launch} (hG : Gs E l) {v0 : Nat} {v1 : Int32} {h : PH} {r : PH} (hf : fX12_takesRead v0 v1 h = some r) : Ct E l 0 0 0 yX12_takesRead cX12_takesRead 3 (none) [.ref v0, .int v1] h (fun v u => v = none ∧ u = r) := by
  refine ct_of hG (by decide) (Nat.le_of_ble_eq_true rfl) ?_
  intro p e s m args below meth c X hnm
  show PW E p l e _ s m args below meth c _ 0 0 _ h 0 [(0, some (.ref v0)), (1, some (.int v1))] []
  unfold fX12_takesRead at hf
  refine p_aload_n X (dcg dc_X12_takesRead 0 rfl) rfl rfl ?_
  obtain ⟨hk1, hf⟩ := gd_some hf
  refine p_getR X fl_X12_20 rfl (by decide) (dcg dc_X12_takesRead 1 rfl) hk1 ?_
  refine p_iload_n X (dcg dc_X12_takesRead 2 rfl) rfl rfl ?_
  refine p_iconst (v := 1) X (dcg dc_X12_takesRead 3 rfl) (by decide) ?_
  obtain ⟨a2, e3, hf⟩ := gs_some hf
  first | subst e3 | (try rw [e3])
  obtain ⟨⟨hk5, hb4⟩, hf⟩ := gd_some hf
  refine p_zast X (dcg dc_X12_takesRead 4 rfl) hk5 (vp_of_inb hb4) ?_
  obtain ⟨h6, rfl, hf⟩ := lt_some hf
  refine p_aload_n X (dcg dc_X12_takesRead 5 rfl) rfl rfl ?_
  refine p_getR X fl_X12_27 rfl (by decide) (dcg dc_X12_takesRead 6 rfl) hk1 ?_
  refine p_iload_n X (dcg dc_X12_takesRead 7 rfl) rfl rfl ?_
  refine p_aload_n X (dcg dc_X12_takesRead 8 rfl) rfl rfl ?_
  refine p_getI X fl_X12_173 rfl (by decide) (dcg dc_X12_takesRead 9 rfl) hk1 ?_
  obtain ⟨a7, e8, hf⟩ := gs_some hf
  first | subst e8 | (try rw [e8])
  obtain ⟨⟨hk10, hb9⟩, hf⟩ := gd_some hf
  refine p_iast X (dcg dc_X12_takesRead 10 rfl) hk10 (vp_of_inb hb9) ?_
  obtain ⟨h11, rfl, hf⟩ := lt_some hf
  refine p_iconst (v := 0) X (dcg dc_X12_takesRead 11 rfl) (by decide) ?_
  refine p_istore_n X (dcg dc_X12_takesRead 12 rfl) rfl (by decide) rfl ?_
  refine p_pick [0, 1, 2] ?_
  exact wX12_takesRead_l19 X hG hnm hf 
theorem dc_X12_addText : decs cX12_addText [(0, .aload_n 0, 1), (1, .iconst 0, 1), (2, .putfield 1, 3), (5, .iconst 0, 1), (6, .istore_n 1, 1), (7, .iload_n 1, 1), (8, .bipush 100, 2), (10, .if_icmp .ge 18, 3), (13, .aload_n 0, 1), (14, .getfield 20, 3), (17, .iload_n 1, 1), (18, .baload, 1), (19, .ifCond .eq 9, 3), (22, .iinc 1 1, 3), (25, .goto (-18), 3), (28, .aload_n 0, 1), (29, .iload_n 1, 1), (30, .bipush 100, 2), (32, .if_icmp .ge 7, 3), (35, .iconst 1, 1), (36, .goto 4, 3), (39, .iconst 0, 1), (40, .iconst 1, 1), (41, .invokevirtual 156, 3), (44, .ifCond .ne 15, 3), (47, .aload_n 0, 1), (48, .aload_n 0, 1), (49, .invokevirtual 199, 3), (52, .iconst 2, 1), (53, .invokevirtual 156, 3), (56, .ifCond .eq 5, 3), (59, .iconst 0, 1), (60, .ireturn, 1), (61, .aload_n 0, 1), (62, .iload_n 1, 1), (63, .invokevirtual 203, 3), (66, .aload_n 0, 1), (67, .iload_n 1, 1), (68, .invokevirtual 206, 3), (71, .aload_n 0, 1), (72, .iload_n 1, 1), (73, .invokevirtual 209, 3), (76, .iload_n 1, 1), (77, .ireturn, 1)] = true := by decide +kernel
noncomputable def fX12_addText_b59  (h : PH) : Option (Int32 × PH) :=
  some (((0 : Int32), h))
set_option maxRecDepth 100000 in
theorem mX12_addText_b59  {h : PH} {r : (Int32 × PH)} (hf : fX12_addText_b59  h = some r) : eqz h (hX r.2) (hV r.2) := by
  unfold fX12_addText_b59 at hf
  have hle := eqz_rf h
  have ee := Option.some.inj hf; subst ee; exact hle
set_option maxRecDepth 100000 in
theorem wX12_addText_b59 {E : PE} {p : Program} {l : Launch} {e : Env} {s : State} {m : MethodId} {args : Array Value} {below : List Frame} {meth : Method} {c : Code} (X : Cx E p l e (rmv 6 0 0) s m args below meth c RX12 cX12_addText 2 (some .int)) (hG : Gs E l) (hnm : meth.name = yX12_addText.name)  {h : PH} {r : (Int32 × PH)} (hf : fX12_addText_b59  h = some r)  : PW E p l e (rmv 6 0 0) s m args below meth c 2 0 0 (MQ below (QG E (fun v u => v = some (.int r.1) ∧ u = r.2)) args s 0 0 (pA E)) h 59 [] [] := by
  unfold fX12_addText_b59 at hf
  refine p_iconst (v := 0) X (dcg dc_X12_addText 31 rfl) (by decide) ?_
  have er := Option.some.inj hf
  subst er
  exact p_iret X rfl (dcg dc_X12_addText 32 rfl) ⟨rfl, rfl⟩ (Nat.le_refl _) (Nat.le_refl _)
noncomputable def fX12_addText_b40 (v0 : Nat) (v1 : Int32) (t0 : Option Nat) (t1 : Int32) (h : PH) : Option (Int32 × PH) :=
  gs t0 (fun a3 =>
  gd (hK h a3 = 12) (bd (fX12_fails a3 t1 (1 : Int32) h) (fun z6 =>
  if (¬ z6.1 = 0) then (fX12_addText_b59  z6.2) else
  gd (hK z6.2 v0 = 12) (bd (fX12_readsText v0 z6.2) (fun z8 =>
  gd (hK z8.2 v0 = 12) (bd (fX12_fails v0 z8.1 (2 : Int32) z8.2) (fun z10 =>
  if (z10.1 = 0) then (gd (hK z10.2 v0 = 12) (bd (fX12_begins v0 v1 z10.2) (fun z12 =>
  gd (hK z12 v0 = 12) (bd (fX12_takesRead v0 v1 z12) (fun z14 =>
  gd (hK z14 v0 = 12) (bd (fX12_tells v0 v1 z14) (fun z16 =>
  some ((v1, z16))))))))) else
  fX12_addText_b59  z10.2)))))))
set_option maxRecDepth 100000 in
theorem mX12_addText_b40 {v0 : Nat} {v1 : Int32} {t0 : Option Nat} {t1 : Int32} {h : PH} {r : (Int32 × PH)} (hf : fX12_addText_b40 v0 v1 t0 t1 h = some r) : eqz h (hX r.2) (hV r.2) := by
  unfold fX12_addText_b40 at hf
  have hle := eqz_rf h
  obtain ⟨a3, e4, hf⟩ := gs_some hf
  obtain ⟨hk5, hf⟩ := gd_some hf
  obtain ⟨z6, hz6, hf⟩ := bd_some hf
  have hle := eqz_rt (mX12_fails hz6) hle
  rcases ite_or hf with ⟨q, hf⟩ | ⟨q, hf⟩
  · have hf := if_t q hf
    exact eqz_rt (mX12_addText_b59 hf) hle
  · have hf := if_f q hf
    obtain ⟨hk7, hf⟩ := gd_some hf
    obtain ⟨z8, hz8, hf⟩ := bd_some hf
    have hle := eqz_rt (mX12_readsText hz8) hle
    obtain ⟨hk9, hf⟩ := gd_some hf
    obtain ⟨z10, hz10, hf⟩ := bd_some hf
    have hle := eqz_rt (mX12_fails hz10) hle
    rcases ite_or hf with ⟨q, hf⟩ | ⟨q, hf⟩
    · have hf := if_t q hf
      obtain ⟨hk11, hf⟩ := gd_some hf
      obtain ⟨z12, hz12, hf⟩ := bd_some hf
      have hle := eqz_rt (mX12_begins hz12) hle
      obtain ⟨hk13, hf⟩ := gd_some hf
      obtain ⟨z14, hz14, hf⟩ := bd_some hf
      have hle := eqz_rt (mX12_takesRead hz14) hle
      obtain ⟨hk15, hf⟩ := gd_some hf
      obtain ⟨z16, hz16, hf⟩ := bd_some hf
      have hle := eqz_rt (mX12_tells hz16) hle
      have ee := Option.some.inj hf; subst ee; exact hle
    · have hf := if_f q hf
      exact eqz_rt (mX12_addText_b59 hf) hle
set_option maxRecDepth 100000 in
theorem wX12_addText_b40 {E : PE} {p : Program} {l : Launch} {e : Env} {s : State} {m : MethodId} {args : Array Value} {below : List Frame} {meth : Method} {c : Code} (X : Cx E p l e (rmv 6 0 0) s m args below meth c RX12 cX12_addText 2 (some .int)) (hG : Gs E l) (hnm : meth.name = yX12_addText.name) {v0 : Nat} {v1 : Int32} {t0 : Option Nat} {t1 : Int32} {h : PH} {r : (Int32 × PH)} (hf : fX12_addText_b40 v0 v1 t0 t1 h = some r)  : PW E p l e (rmv 6 0 0) s m args below meth c 2 0 0 (MQ below (QG E (fun v u => v = some (.int r.1) ∧ u = r.2)) args s 0 0 (pA E)) h 40 [(0, some (.ref v0)), (1, some (.int v1))] [.int t1, va_rf t0] := by
  unfold fX12_addText_b40 at hf
  refine p_iconst (v := 1) X (dcg dc_X12_addText 22 rfl) (by decide) ?_
  obtain ⟨a3, e4, hf⟩ := gs_some hf
  first | subst e4 | (try rw [e4])
  obtain ⟨hk5, hf⟩ := gd_some hf
  obtain ⟨z6, hz6, hf⟩ := bd_some hf
  refine p_callV (As := [_, _]) X ml_X12_156 (dcg dc_X12_addText 23 rfl) rfl rfl hk5 (wX12_fails hG hz6) (by decide) (room4 (Nat.le_of_ble_eq_true rfl)) (Nat.le_refl _) (Nat.le_refl _) ?_
  rintro _ u9 ⟨rfl, e9⟩; have e9 := e9.symm; subst e9
  refine p_if_ne (tgt := 59) X (dcg dc_X12_addText 24 rfl) (by decide) (fun q => ?_) (fun q => ?_)
  · have hf := if_t q hf
    refine p_pick [] ?_
    exact wX12_addText_b59 X hG hnm hf 
  · have hf := if_f q hf
    refine p_aload_n X (dcg dc_X12_addText 25 rfl) rfl rfl ?_
    refine p_aload_n X (dcg dc_X12_addText 26 rfl) rfl rfl ?_
    obtain ⟨hk7, hf⟩ := gd_some hf
    obtain ⟨z8, hz8, hf⟩ := bd_some hf
    refine p_callV (As := []) X ml_X12_199 (dcg dc_X12_addText 27 rfl) rfl rfl hk7 (wX12_readsText hG hz8) (by decide) (room4 (Nat.le_of_ble_eq_true rfl)) (Nat.le_refl _) (Nat.le_refl _) ?_
    rintro _ u9 ⟨rfl, e9⟩; have e9 := e9.symm; subst e9
    refine p_iconst (v := 2) X (dcg dc_X12_addText 28 rfl) (by decide) ?_
    obtain ⟨hk9, hf⟩ := gd_some hf
    obtain ⟨z10, hz10, hf⟩ := bd_some hf
    refine p_callV (As := [_, _]) X ml_X12_156 (dcg dc_X12_addText 29 rfl) rfl rfl hk9 (wX12_fails hG hz10) (by decide) (room4 (Nat.le_of_ble_eq_true rfl)) (Nat.le_refl _) (Nat.le_refl _) ?_
    rintro _ u9 ⟨rfl, e9⟩; have e9 := e9.symm; subst e9
    refine p_if_eq (tgt := 61) X (dcg dc_X12_addText 30 rfl) (by decide) (fun q => ?_) (fun q => ?_)
    · have hf := if_t q hf
      refine p_aload_n X (dcg dc_X12_addText 33 rfl) rfl rfl ?_
      refine p_iload_n X (dcg dc_X12_addText 34 rfl) rfl rfl ?_
      obtain ⟨hk11, hf⟩ := gd_some hf
      obtain ⟨z12, hz12, hf⟩ := bd_some hf
      refine p_callV (As := [_]) X ml_X12_203 (dcg dc_X12_addText 35 rfl) rfl rfl hk11 (wX12_begins hG hz12) (by decide) (room4 (Nat.le_of_ble_eq_true rfl)) (Nat.le_refl _) (Nat.le_refl _) ?_
      rintro _ u9 ⟨rfl, e9⟩; have e9 := e9.symm; subst e9
      refine p_aload_n X (dcg dc_X12_addText 36 rfl) rfl rfl ?_
      refine p_iload_n X (dcg dc_X12_addText 37 rfl) rfl rfl ?_
      obtain ⟨hk13, hf⟩ := gd_some hf
      obtain ⟨z14, hz14, hf⟩ := bd_some hf
      refine p_callV (As := [_]) X ml_X12_206 (dcg dc_X12_addText 38 rfl) rfl rfl hk13 (wX12_takesRead hG hz14) (by decide) (room4 (Nat.le_of_ble_eq_true rfl)) (Nat.le_refl _) (Nat.le_refl _) ?_
      rintro _ u9 ⟨rfl, e9⟩; have e9 := e9.symm; subst e9
      refine p_aload_n X (dcg dc_X12_addText 39 rfl) rfl rfl ?_
      refine p_iload_n X (dcg dc_X12_addText 40 rfl) rfl rfl ?_
      obtain ⟨hk15, hf⟩ := gd_some hf
      obtain ⟨z16, hz16, hf⟩ := bd_some hf
      refine p_callV (As := [_]) X ml_X12_209 (dcg dc_X12_addText 41 rfl) rfl rfl hk15 (wX12_tells hG hz16) (by decide) (room4 (Nat.le_of_ble_eq_true rfl)) (Nat.le_refl _) (Nat.le_refl _) ?_
      rintro _ u9 ⟨rfl, e9⟩; have e9 := e9.symm; subst e9
      refine p_iload_n X (dcg dc_X12_addText 42 rfl) rfl rfl ?_
      have er := Option.some.inj hf
      subst er
      exact p_iret X rfl (dcg dc_X12_addText 43 rfl) ⟨rfl, rfl⟩ (Nat.le_refl _) (Nat.le_refl _)
    · have hf := if_f q hf
      refine p_pick [] ?_
      exact wX12_addText_b59 X hG hnm hf 
noncomputable def fX12_addText_b28 (v0 : Nat) (v1 : Int32) (h : PH) : Option (Int32 × PH) :=
  if ((100 : Int32) ≤ v1) then (fX12_addText_b40 v0 v1 (some v0) (0 : Int32) h) else
  fX12_addText_b40 v0 v1 (some v0) (1 : Int32) h
set_option maxRecDepth 100000 in
theorem mX12_addText_b28 {v0 : Nat} {v1 : Int32} {h : PH} {r : (Int32 × PH)} (hf : fX12_addText_b28 v0 v1 h = some r) : eqz h (hX r.2) (hV r.2) := by
  unfold fX12_addText_b28 at hf
  have hle := eqz_rf h
  rcases ite_or hf with ⟨q, hf⟩ | ⟨q, hf⟩
  · have hf := if_t q hf
    exact eqz_rt (mX12_addText_b40 hf) hle
  · have hf := if_f q hf
    exact eqz_rt (mX12_addText_b40 hf) hle
set_option maxRecDepth 100000 in
theorem wX12_addText_b28 {E : PE} {p : Program} {l : Launch} {e : Env} {s : State} {m : MethodId} {args : Array Value} {below : List Frame} {meth : Method} {c : Code} (X : Cx E p l e (rmv 6 0 0) s m args below meth c RX12 cX12_addText 2 (some .int)) (hG : Gs E l) (hnm : meth.name = yX12_addText.name) {v0 : Nat} {v1 : Int32} {h : PH} {r : (Int32 × PH)} (hf : fX12_addText_b28 v0 v1 h = some r)  : PW E p l e (rmv 6 0 0) s m args below meth c 2 0 0 (MQ below (QG E (fun v u => v = some (.int r.1) ∧ u = r.2)) args s 0 0 (pA E)) h 28 [(0, some (.ref v0)), (1, some (.int v1))] [] := by
  unfold fX12_addText_b28 at hf
  refine p_aload_n X (dcg dc_X12_addText 15 rfl) rfl rfl ?_
  refine p_iload_n X (dcg dc_X12_addText 16 rfl) rfl rfl ?_
  refine p_bipush (v := 100) X (dcg dc_X12_addText 17 rfl) (by decide) ?_
  refine p_icmp_ge (tgt := 39) X (dcg dc_X12_addText 18 rfl) (by decide) (fun q => ?_) (fun q => ?_)
  · have hf := if_t q hf
    refine p_iconst (v := 0) X (dcg dc_X12_addText 21 rfl) (by decide) ?_
    refine p_pick [0, 1] ?_
    exact wX12_addText_b40 X hG hnm hf 
  · have hf := if_f q hf
    refine p_iconst (v := 1) X (dcg dc_X12_addText 19 rfl) (by decide) ?_
    refine p_goto (tgt := 40) X (dcg dc_X12_addText 20 rfl) (by decide) ?_
    refine p_pick [0, 1] ?_
    exact wX12_addText_b40 X hG hnm hf 
noncomputable def fX12_addText_c7 (v0 : Nat) (v1 : Int32) (h : PH) : Option ((Int32) ⊕ (Int32 × PH)) :=
  if ((100 : Int32) ≤ v1) then (mr (fX12_addText_b28 v0 v1 h)) else
  gd (hK h v0 = 12) (gs (hR h 12 v0 4) (fun a20 =>
  gd (hK h a20 = 21 ∧ inb v1 (hN h a20)) (if ((hI h 21 a20 (Int32.toNatClampNeg v1)) = 0) then (mr (fX12_addText_b28 v0 v1 h)) else
  some (.inl ((v1 + 1))))))
set_option maxRecDepth 100000 in
theorem mX12_addText_c7 {v0 : Nat} {v1 : Int32} {h : PH} {x : ((Int32) ⊕ (Int32 × PH))} (hf : fX12_addText_c7 v0 v1 h = some x) : (∀ w9 : (Int32 × PH), x = .inr w9 → eqz h (hX w9.2) (hV w9.2)) := by
  unfold fX12_addText_c7 at hf
  have hle := eqz_rf h
  rcases ite_or hf with ⟨q, hf⟩ | ⟨q, hf⟩
  · have hf := if_t q hf
    obtain ⟨y17, hfm, rfl⟩ := mr_some hf; have hf := hfm; clear hfm
    have cf := mX12_addText_b28 hf
    exact (fun z e => by cases e <;> exact eqz_rt cf hle)
  · have hf := if_f q hf
    obtain ⟨hk19, hf⟩ := gd_some hf
    obtain ⟨a20, e21, hf⟩ := gs_some hf
    obtain ⟨⟨hk23, hb22⟩, hf⟩ := gd_some hf
    rcases ite_or hf with ⟨q, hf⟩ | ⟨q, hf⟩
    · have hf := if_t q hf
      obtain ⟨y24, hfm, rfl⟩ := mr_some hf; have hf := hfm; clear hfm
      have cf := mX12_addText_b28 hf
      exact (fun z e => by cases e <;> exact eqz_rt cf hle)
    · have hf := if_f q hf
      have ee := Option.some.inj hf; subst ee
      exact (fun z e => nomatch e)
set_option maxRecDepth 100000 in
theorem wX12_addText_c7 {E : PE} {p : Program} {l : Launch} {e : Env} {s : State} {m : MethodId} {args : Array Value} {below : List Frame} {meth : Method} {c : Code} (X : Cx E p l e (rmv 6 0 0) s m args below meth c RX12 cX12_addText 2 (some .int)) (hG : Gs E l) (hnm : meth.name = yX12_addText.name) {v0 : Nat} {v1 : Int32} {h : PH} {r : (Int32 × PH)} {x : ((Int32) ⊕ (Int32 × PH))} (hf : fX12_addText_c7 v0 v1 h = some x) (k0 : ∀ z : (Int32), x = .inl z → PW E p l e (rmv 6 0 0) s m args below meth c 2 0 0 (MQ below (QG E (fun v u => v = some (.int r.1) ∧ u = r.2)) args s 0 0 (pA E)) h 7 [(0, some (.ref v0)), (1, some (.int (z)))] []) (kf : ∀ z : (Int32 × PH), x = .inr z → z = r) : PW E p l e (rmv 6 0 0) s m args below meth c 2 0 0 (MQ below (QG E (fun v u => v = some (.int r.1) ∧ u = r.2)) args s 0 0 (pA E)) h 7 [(0, some (.ref v0)), (1, some (.int v1))] [] := by
  unfold fX12_addText_c7 at hf
  refine p_iload_n X (dcg dc_X12_addText 5 rfl) rfl rfl ?_
  refine p_bipush (v := 100) X (dcg dc_X12_addText 6 rfl) (by decide) ?_
  refine p_icmp_ge (tgt := 28) X (dcg dc_X12_addText 7 rfl) (by decide) (fun q => ?_) (fun q => ?_)
  · have hf := if_t q hf
    obtain ⟨y17, hf, hy18⟩ := mr_some hf
    have hy18f := kf y17 hy18
    subst hy18f
    refine p_pick [0, 1] ?_
    exact wX12_addText_b28 X hG hnm hf 
  · have hf := if_f q hf
    refine p_aload_n X (dcg dc_X12_addText 8 rfl) rfl rfl ?_
    obtain ⟨hk19, hf⟩ := gd_some hf
    refine p_getR X fl_X12_20 rfl (by decide) (dcg dc_X12_addText 9 rfl) hk19 ?_
    refine p_iload_n X (dcg dc_X12_addText 10 rfl) rfl rfl ?_
    obtain ⟨a20, e21, hf⟩ := gs_some hf
    first | subst e21 | (try rw [e21])
    obtain ⟨⟨hk23, hb22⟩, hf⟩ := gd_some hf
    refine p_zald X (dcg dc_X12_addText 11 rfl) hk23 (vp_of_inb hb22) ?_
    refine p_if_eq (tgt := 28) X (dcg dc_X12_addText 12 rfl) (by decide) (fun q => ?_) (fun q => ?_)
    · have hf := if_t q hf
      obtain ⟨y24, hf, hy25⟩ := mr_some hf
      have hy25f := kf y24 hy25
      subst hy25f
      refine p_pick [0, 1] ?_
      exact wX12_addText_b28 X hG hnm hf 
    · have hf := if_f q hf
      refine p_iinc (v := 1) X (dcg dc_X12_addText 13 rfl) rfl (by decide) (by decide) rfl ?_
      refine p_goto (tgt := 7) X (dcg dc_X12_addText 14 rfl) (by decide) ?_
      refine p_pick [0, 1] ?_
      exact k0 _ (Option.some.inj hf).symm
noncomputable def fX12_addText_l7 (v0 : Nat) (v1 : Int32) (h : PH) : Option (Int32 × PH) := wh (fun z : (Int32) => fX12_addText_c7 v0 (z) h) (v1)
set_option maxRecDepth 100000 in
theorem mX12_addText_l7 {v0 : Nat} {v1 : Int32} {h : PH} {r : (Int32 × PH)} (hf : fX12_addText_l7 v0 v1 h = some r) : eqz h (hX r.2) (hV r.2) := by
  unfold fX12_addText_l7 at hf
  refine wh_ind (P := fun z => eqz h (hX r.2) (hV r.2)) (fun z x0 hs i1 i2 => ?_) _ hf
  obtain cf := mX12_addText_c7 (v0 := v0) (v1 := z) (h := h) hs
  rcases hxx : x0 with zz | zz
  · exact (i1 zz hxx)
  · have ee := i2 zz hxx; subst ee; exact cf zz hxx
set_option maxRecDepth 100000 in
theorem wX12_addText_l7 {E : PE} {p : Program} {l : Launch} {e : Env} {s : State} {m : MethodId} {args : Array Value} {below : List Frame} {meth : Method} {c : Code} (X : Cx E p l e (rmv 6 0 0) s m args below meth c RX12 cX12_addText 2 (some .int)) (hG : Gs E l) (hnm : meth.name = yX12_addText.name) {v0 : Nat} {v1 : Int32} {h : PH} {r : (Int32 × PH)} (hf : fX12_addText_l7 v0 v1 h = some r)  : PW E p l e (rmv 6 0 0) s m args below meth c 2 0 0 (MQ below (QG E (fun v u => v = some (.int r.1) ∧ u = r.2)) args s 0 0 (pA E)) h 7 [(0, some (.ref v0)), (1, some (.int v1))] [] := by
  unfold fX12_addText_l7 at hf
  refine wh_ind (P := fun z => PW E p l e (rmv 6 0 0) s m args below meth c 2 0 0 (MQ below (QG E (fun v u => v = some (.int r.1) ∧ u = r.2)) args s 0 0 (pA E)) h 7 [(0, some (.ref v0)), (1, some (.int (z)))] []) (fun z x0 hs i1 i2 => ?_) _ hf
  exact wX12_addText_c7 (r := r) (v0 := v0) (v1 := z) (h := h) X hG hnm hs i1  i2
noncomputable def fX12_addText (v0 : Nat) (h : PH) : Option (Int32 × PH) :=
  gd (hK h v0 = 12) (lt (sI h 12 v0 0 (0 : Int32)) (fun h2 =>
  fX12_addText_l7 v0 (0 : Int32) h2))
set_option maxRecDepth 100000 in
theorem mX12_addText {v0 : Nat} {h : PH} {r : (Int32 × PH)} (hf : fX12_addText v0 h = some r) : eqz h (hX r.2) (hV r.2) := by
  unfold fX12_addText at hf
  have hle := eqz_rf h
  obtain ⟨hk1, hf⟩ := gd_some hf
  obtain ⟨h2, rfl, hf⟩ := lt_some hf
  exact eqz_rt (mX12_addText_l7 hf) hle
set_option maxRecDepth 100000 in
theorem wX12_addText {E : PE} {l : Launch} (hG : Gs E l) {v0 : Nat} {h : PH} {r : (Int32 × PH)} (hf : fX12_addText v0 h = some r) : Ct E l 6 0 0 yX12_addText cX12_addText 2 (some .int) [.ref v0] h (fun v u => v = some (.int r.1) ∧ u = r.2) := by
  refine ct_of hG (by decide) (Nat.le_of_ble_eq_true rfl) ?_
  intro p e s m args below meth c X hnm
  show PW E p l e _ s m args below meth c _ 0 0 _ h 0 [(0, some (.ref v0))] []
  unfold fX12_addText at hf
  refine p_aload_n X (dcg dc_X12_addText 0 rfl) rfl rfl ?_
  refine p_iconst (v := 0) X (dcg dc_X12_addText 1 rfl) (by decide) ?_
  obtain ⟨hk1, hf⟩ := gd_some hf
  refine p_putI X fl_X12_1 rfl (by decide) (fun q hq => by cases hq; rfl) rfl rfl (dcg dc_X12_addText 2 rfl) hk1 ?_
  obtain ⟨h2, rfl, hf⟩ := lt_some hf
  refine p_iconst (v := 0) X (dcg dc_X12_addText 3 rfl) (by decide) ?_
  refine p_istore_n X (dcg dc_X12_addText 4 rfl) rfl (by decide) rfl ?_
  refine p_pick [0, 1] ?_
  exact wX12_addText_l7 X hG hnm hf 
theorem dc_X12_replaceText : decs cX12_replaceText [(0, .aload_n 0, 1), (1, .iconst 0, 1), (2, .putfield 1, 3), (5, .aload_n 0, 1), (6, .iload_n 1, 1), (7, .invokevirtual 212, 3), (10, .ifCond .ne 15, 3), (13, .aload_n 0, 1), (14, .aload_n 0, 1), (15, .invokevirtual 199, 3), (18, .iconst 2, 1), (19, .invokevirtual 156, 3), (22, .ifCond .eq 5, 3), (25, .iconst 0, 1), (26, .ireturn, 1), (27, .aload_n 0, 1), (28, .getfield 27, 3), (31, .iload_n 1, 1), (32, .iaload, 1), (33, .istore_n 2, 1), (34, .aload_n 0, 1), (35, .iload_n 1, 1), (36, .invokevirtual 203, 3), (39, .aload_n 0, 1), (40, .iload_n 1, 1), (41, .invokevirtual 206, 3), (44, .aload_n 0, 1), (45, .iload_n 1, 1), (46, .invokevirtual 209, 3), (49, .iload_n 2, 1), (50, .ireturn, 1)] = true := by decide +kernel
noncomputable def fX12_replaceText_b25  (h : PH) : Option (Int32 × PH) :=
  some (((0 : Int32), h))
set_option maxRecDepth 100000 in
theorem mX12_replaceText_b25  {h : PH} {r : (Int32 × PH)} (hf : fX12_replaceText_b25  h = some r) : eqz h (hX r.2) (hV r.2) := by
  unfold fX12_replaceText_b25 at hf
  have hle := eqz_rf h
  have ee := Option.some.inj hf; subst ee; exact hle
set_option maxRecDepth 100000 in
theorem wX12_replaceText_b25 {E : PE} {p : Program} {l : Launch} {e : Env} {s : State} {m : MethodId} {args : Array Value} {below : List Frame} {meth : Method} {c : Code} (X : Cx E p l e (rmv 6 0 0) s m args below meth c RX12 cX12_replaceText 3 (some .int)) (hG : Gs E l) (hnm : meth.name = yX12_replaceText.name)  {h : PH} {r : (Int32 × PH)} (hf : fX12_replaceText_b25  h = some r)  : PW E p l e (rmv 6 0 0) s m args below meth c 3 0 0 (MQ below (QG E (fun v u => v = some (.int r.1) ∧ u = r.2)) args s 0 0 (pA E)) h 25 [] [] := by
  unfold fX12_replaceText_b25 at hf
  refine p_iconst (v := 0) X (dcg dc_X12_replaceText 13 rfl) (by decide) ?_
  have er := Option.some.inj hf
  subst er
  exact p_iret X rfl (dcg dc_X12_replaceText 14 rfl) ⟨rfl, rfl⟩ (Nat.le_refl _) (Nat.le_refl _)
noncomputable def fX12_replaceText (v0 : Nat) (v1 : Int32) (h : PH) : Option (Int32 × PH) :=
  gd (hK h v0 = 12) (lt (sI h 12 v0 0 (0 : Int32)) (fun h2 =>
  bd (fX12_noText v0 v1 h2) (fun z3 =>
  if (¬ z3.1 = 0) then (fX12_replaceText_b25  z3.2) else
  gd (hK z3.2 v0 = 12) (bd (fX12_readsText v0 z3.2) (fun z5 =>
  gd (hK z5.2 v0 = 12) (bd (fX12_fails v0 z5.1 (2 : Int32) z5.2) (fun z7 =>
  if (z7.1 = 0) then (gd (hK z7.2 v0 = 12) (gs (hR z7.2 12 v0 6) (fun a9 =>
  gd (hK z7.2 a9 = 20 ∧ inb v1 (hN z7.2 a9)) (bd (fX12_begins v0 v1 z7.2) (fun z13 =>
  gd (hK z13 v0 = 12) (bd (fX12_takesRead v0 v1 z13) (fun z15 =>
  gd (hK z15 v0 = 12) (bd (fX12_tells v0 v1 z15) (fun z17 =>
  some (((hI z7.2 20 a9 (Int32.toNatClampNeg v1)), z17))))))))))) else
  fX12_replaceText_b25  z7.2)))))))
set_option maxRecDepth 100000 in
theorem mX12_replaceText {v0 : Nat} {v1 : Int32} {h : PH} {r : (Int32 × PH)} (hf : fX12_replaceText v0 v1 h = some r) : eqz h (hX r.2) (hV r.2) := by
  unfold fX12_replaceText at hf
  have hle := eqz_rf h
  obtain ⟨hk1, hf⟩ := gd_some hf
  obtain ⟨h2, rfl, hf⟩ := lt_some hf
  obtain ⟨z3, hz3, hf⟩ := bd_some hf
  have hle := eqz_rt (mX12_noText hz3) hle
  rcases ite_or hf with ⟨q, hf⟩ | ⟨q, hf⟩
  · have hf := if_t q hf
    exact eqz_rt (mX12_replaceText_b25 hf) hle
  · have hf := if_f q hf
    obtain ⟨hk4, hf⟩ := gd_some hf
    obtain ⟨z5, hz5, hf⟩ := bd_some hf
    have hle := eqz_rt (mX12_readsText hz5) hle
    obtain ⟨hk6, hf⟩ := gd_some hf
    obtain ⟨z7, hz7, hf⟩ := bd_some hf
    have hle := eqz_rt (mX12_fails hz7) hle
    rcases ite_or hf with ⟨q, hf⟩ | ⟨q, hf⟩
    · have hf := if_t q hf
      obtain ⟨hk8, hf⟩ := gd_some hf
      obtain ⟨a9, e10, hf⟩ := gs_some hf
      obtain ⟨⟨hk12, hb11⟩, hf⟩ := gd_some hf
      obtain ⟨z13, hz13, hf⟩ := bd_some hf
      have hle := eqz_rt (mX12_begins hz13) hle
      obtain ⟨hk14, hf⟩ := gd_some hf
      obtain ⟨z15, hz15, hf⟩ := bd_some hf
      have hle := eqz_rt (mX12_takesRead hz15) hle
      obtain ⟨hk16, hf⟩ := gd_some hf
      obtain ⟨z17, hz17, hf⟩ := bd_some hf
      have hle := eqz_rt (mX12_tells hz17) hle
      have ee := Option.some.inj hf; subst ee; exact hle
    · have hf := if_f q hf
      exact eqz_rt (mX12_replaceText_b25 hf) hle
set_option maxRecDepth 100000 in
theorem wX12_replaceText {E : PE} {l : Launch} (hG : Gs E l) {v0 : Nat} {v1 : Int32} {h : PH} {r : (Int32 × PH)} (hf : fX12_replaceText v0 v1 h = some r) : Ct E l 6 0 0 yX12_replaceText cX12_replaceText 3 (some .int) [.ref v0, .int v1] h (fun v u => v = some (.int r.1) ∧ u = r.2) := by
  refine ct_of hG (by decide) (Nat.le_of_ble_eq_true rfl) ?_
  intro p e s m args below meth c X hnm
  show PW E p l e _ s m args below meth c _ 0 0 _ h 0 [(0, some (.ref v0)), (1, some (.int v1))] []
  unfold fX12_replaceText at hf
  refine p_aload_n X (dcg dc_X12_replaceText 0 rfl) rfl rfl ?_
  refine p_iconst (v := 0) X (dcg dc_X12_replaceText 1 rfl) (by decide) ?_
  obtain ⟨hk1, hf⟩ := gd_some hf
  refine p_putI X fl_X12_1 rfl (by decide) (fun q hq => by cases hq; rfl) rfl rfl (dcg dc_X12_replaceText 2 rfl) hk1 ?_
  obtain ⟨h2, rfl, hf⟩ := lt_some hf
  refine p_aload_n X (dcg dc_X12_replaceText 3 rfl) rfl rfl ?_
  refine p_iload_n X (dcg dc_X12_replaceText 4 rfl) rfl rfl ?_
  obtain ⟨z3, hz3, hf⟩ := bd_some hf
  refine p_callV (As := [_]) X ml_X12_212 (dcg dc_X12_replaceText 5 rfl) rfl rfl hk1 (wX12_noText hG hz3) (by decide) (room4 (Nat.le_of_ble_eq_true rfl)) (Nat.le_refl _) (Nat.le_refl _) ?_
  rintro _ u9 ⟨rfl, e9⟩; have e9 := e9.symm; subst e9
  refine p_if_ne (tgt := 25) X (dcg dc_X12_replaceText 6 rfl) (by decide) (fun q => ?_) (fun q => ?_)
  · have hf := if_t q hf
    refine p_pick [] ?_
    exact wX12_replaceText_b25 X hG hnm hf 
  · have hf := if_f q hf
    refine p_aload_n X (dcg dc_X12_replaceText 7 rfl) rfl rfl ?_
    refine p_aload_n X (dcg dc_X12_replaceText 8 rfl) rfl rfl ?_
    obtain ⟨hk4, hf⟩ := gd_some hf
    obtain ⟨z5, hz5, hf⟩ := bd_some hf
    refine p_callV (As := []) X ml_X12_199 (dcg dc_X12_replaceText 9 rfl) rfl rfl hk4 (wX12_readsText hG hz5) (by decide) (room4 (Nat.le_of_ble_eq_true rfl)) (Nat.le_refl _) (Nat.le_refl _) ?_
    rintro _ u9 ⟨rfl, e9⟩; have e9 := e9.symm; subst e9
    refine p_iconst (v := 2) X (dcg dc_X12_replaceText 10 rfl) (by decide) ?_
    obtain ⟨hk6, hf⟩ := gd_some hf
    obtain ⟨z7, hz7, hf⟩ := bd_some hf
    refine p_callV (As := [_, _]) X ml_X12_156 (dcg dc_X12_replaceText 11 rfl) rfl rfl hk6 (wX12_fails hG hz7) (by decide) (room4 (Nat.le_of_ble_eq_true rfl)) (Nat.le_refl _) (Nat.le_refl _) ?_
    rintro _ u9 ⟨rfl, e9⟩; have e9 := e9.symm; subst e9
    refine p_if_eq (tgt := 27) X (dcg dc_X12_replaceText 12 rfl) (by decide) (fun q => ?_) (fun q => ?_)
    · have hf := if_t q hf
      refine p_aload_n X (dcg dc_X12_replaceText 15 rfl) rfl rfl ?_
      obtain ⟨hk8, hf⟩ := gd_some hf
      refine p_getR X fl_X12_27 rfl (by decide) (dcg dc_X12_replaceText 16 rfl) hk8 ?_
      refine p_iload_n X (dcg dc_X12_replaceText 17 rfl) rfl rfl ?_
      obtain ⟨a9, e10, hf⟩ := gs_some hf
      first | subst e10 | (try rw [e10])
      obtain ⟨⟨hk12, hb11⟩, hf⟩ := gd_some hf
      refine p_iald X (dcg dc_X12_replaceText 18 rfl) hk12 (vp_of_inb hb11) ?_
      refine p_istore_n X (dcg dc_X12_replaceText 19 rfl) rfl (by decide) rfl ?_
      refine p_aload_n X (dcg dc_X12_replaceText 20 rfl) rfl rfl ?_
      refine p_iload_n X (dcg dc_X12_replaceText 21 rfl) rfl rfl ?_
      obtain ⟨z13, hz13, hf⟩ := bd_some hf
      refine p_callV (As := [_]) X ml_X12_203 (dcg dc_X12_replaceText 22 rfl) rfl rfl hk8 (wX12_begins hG hz13) (by decide) (room4 (Nat.le_of_ble_eq_true rfl)) (Nat.le_refl _) (Nat.le_refl _) ?_
      rintro _ u9 ⟨rfl, e9⟩; have e9 := e9.symm; subst e9
      refine p_aload_n X (dcg dc_X12_replaceText 23 rfl) rfl rfl ?_
      refine p_iload_n X (dcg dc_X12_replaceText 24 rfl) rfl rfl ?_
      obtain ⟨hk14, hf⟩ := gd_some hf
      obtain ⟨z15, hz15, hf⟩ := bd_some hf
      refine p_callV (As := [_]) X ml_X12_206 (dcg dc_X12_replaceText 25 rfl) rfl rfl hk14 (wX12_takesRead hG hz15) (by decide) (room4 (Nat.le_of_ble_eq_true rfl)) (Nat.le_refl _) (Nat.le_refl _) ?_
      rintro _ u9 ⟨rfl, e9⟩; have e9 := e9.symm; subst e9
      refine p_aload_n X (dcg dc_X12_replaceText 26 rfl) rfl rfl ?_
      refine p_iload_n X (dcg dc_X12_replaceText 27 rfl) rfl rfl ?_
      obtain ⟨hk16, hf⟩ := gd_some hf
      obtain ⟨z17, hz17, hf⟩ := bd_some hf
      refine p_callV (As := [_]) X ml_X12_209 (dcg dc_X12_replaceText 28 rfl) rfl rfl hk16 (wX12_tells hG hz17) (by decide) (room4 (Nat.le_of_ble_eq_true rfl)) (Nat.le_refl _) (Nat.le_refl _) ?_
      rintro _ u9 ⟨rfl, e9⟩; have e9 := e9.symm; subst e9
      refine p_iload_n X (dcg dc_X12_replaceText 29 rfl) rfl rfl ?_
      have er := Option.some.inj hf
      subst er
      exact p_iret X rfl (dcg dc_X12_replaceText 30 rfl) ⟨rfl, rfl⟩ (Nat.le_refl _) (Nat.le_refl _)
    · have hf := if_f q hf
      refine p_pick [] ?_
      exact wX12_replaceText_b25 X hG hnm hf 
theorem dc_X12_removeText : decs cX12_removeText [(0, .aload_n 0, 1), (1, .iconst 0, 1), (2, .putfield 1, 3), (5, .aload_n 0, 1), (6, .iload_n 1, 1), (7, .invokevirtual 212, 3), (10, .ifCond .eq 5, 3), (13, .iconst 0, 1), (14, .ireturn, 1), (15, .aload_n 0, 1), (16, .iload_n 1, 1), (17, .invokevirtual 203, 3), (20, .aload_n 0, 1), (21, .getfield 20, 3), (24, .iload_n 1, 1), (25, .iconst 0, 1), (26, .bastore, 1), (27, .aload_n 0, 1), (28, .iload_n 1, 1), (29, .invokevirtual 209, 3), (32, .aload_n 0, 1), (33, .getfield 27, 3), (36, .iload_n 1, 1), (37, .iaload, 1), (38, .ireturn, 1)] = true := by decide +kernel
noncomputable def fX12_removeText (v0 : Nat) (v1 : Int32) (h : PH) : Option (Int32 × PH) :=
  gd (hK h v0 = 12) (lt (sI h 12 v0 0 (0 : Int32)) (fun h2 =>
  bd (fX12_noText v0 v1 h2) (fun z3 =>
  if (z3.1 = 0) then (gd (hK z3.2 v0 = 12) (bd (fX12_begins v0 v1 z3.2) (fun z5 =>
  gd (hK z5 v0 = 12) (gs (hR z5 12 v0 4) (fun a7 =>
  gd (hK z5 a7 = 21 ∧ inb v1 (hN z5 a7)) (lt (sI z5 21 a7 (Int32.toNatClampNeg v1) ((0 : Int32) &&& 1)) (fun h11 =>
  bd (fX12_tells v0 v1 h11) (fun z12 =>
  gd (hK z12 v0 = 12) (gs (hR z12 12 v0 6) (fun a14 =>
  gd (hK z12 a14 = 20 ∧ inb v1 (hN z12 a14)) (some (((hI z12 20 a14 (Int32.toNatClampNeg v1)), z12))))))))))))) else
  some (((0 : Int32), z3.2)))))
set_option maxRecDepth 100000 in
theorem mX12_removeText {v0 : Nat} {v1 : Int32} {h : PH} {r : (Int32 × PH)} (hf : fX12_removeText v0 v1 h = some r) : eqz h (hX r.2) (hV r.2) := by
  unfold fX12_removeText at hf
  have hle := eqz_rf h
  obtain ⟨hk1, hf⟩ := gd_some hf
  obtain ⟨h2, rfl, hf⟩ := lt_some hf
  obtain ⟨z3, hz3, hf⟩ := bd_some hf
  have hle := eqz_rt (mX12_noText hz3) hle
  rcases ite_or hf with ⟨q, hf⟩ | ⟨q, hf⟩
  · have hf := if_t q hf
    obtain ⟨hk4, hf⟩ := gd_some hf
    obtain ⟨z5, hz5, hf⟩ := bd_some hf
    have hle := eqz_rt (mX12_begins hz5) hle
    obtain ⟨hk6, hf⟩ := gd_some hf
    obtain ⟨a7, e8, hf⟩ := gs_some hf
    obtain ⟨⟨hk10, hb9⟩, hf⟩ := gd_some hf
    obtain ⟨h11, rfl, hf⟩ := lt_some hf
    obtain ⟨z12, hz12, hf⟩ := bd_some hf
    have hle := eqz_rt (mX12_tells hz12) hle
    obtain ⟨hk13, hf⟩ := gd_some hf
    obtain ⟨a14, e15, hf⟩ := gs_some hf
    obtain ⟨⟨hk17, hb16⟩, hf⟩ := gd_some hf
    have ee := Option.some.inj hf; subst ee; exact hle
  · have hf := if_f q hf
    have ee := Option.some.inj hf; subst ee; exact hle
set_option maxRecDepth 100000 in
theorem wX12_removeText {E : PE} {l : Launch} (hG : Gs E l) {v0 : Nat} {v1 : Int32} {h : PH} {r : (Int32 × PH)} (hf : fX12_removeText v0 v1 h = some r) : Ct E l 6 0 0 yX12_removeText cX12_removeText 2 (some .int) [.ref v0, .int v1] h (fun v u => v = some (.int r.1) ∧ u = r.2) := by
  refine ct_of hG (by decide) (Nat.le_of_ble_eq_true rfl) ?_
  intro p e s m args below meth c X hnm
  show PW E p l e _ s m args below meth c _ 0 0 _ h 0 [(0, some (.ref v0)), (1, some (.int v1))] []
  unfold fX12_removeText at hf
  refine p_aload_n X (dcg dc_X12_removeText 0 rfl) rfl rfl ?_
  refine p_iconst (v := 0) X (dcg dc_X12_removeText 1 rfl) (by decide) ?_
  obtain ⟨hk1, hf⟩ := gd_some hf
  refine p_putI X fl_X12_1 rfl (by decide) (fun q hq => by cases hq; rfl) rfl rfl (dcg dc_X12_removeText 2 rfl) hk1 ?_
  obtain ⟨h2, rfl, hf⟩ := lt_some hf
  refine p_aload_n X (dcg dc_X12_removeText 3 rfl) rfl rfl ?_
  refine p_iload_n X (dcg dc_X12_removeText 4 rfl) rfl rfl ?_
  obtain ⟨z3, hz3, hf⟩ := bd_some hf
  refine p_callV (As := [_]) X ml_X12_212 (dcg dc_X12_removeText 5 rfl) rfl rfl hk1 (wX12_noText hG hz3) (by decide) (room4 (Nat.le_of_ble_eq_true rfl)) (Nat.le_refl _) (Nat.le_refl _) ?_
  rintro _ u9 ⟨rfl, e9⟩; have e9 := e9.symm; subst e9
  refine p_if_eq (tgt := 15) X (dcg dc_X12_removeText 6 rfl) (by decide) (fun q => ?_) (fun q => ?_)
  · have hf := if_t q hf
    refine p_aload_n X (dcg dc_X12_removeText 9 rfl) rfl rfl ?_
    refine p_iload_n X (dcg dc_X12_removeText 10 rfl) rfl rfl ?_
    obtain ⟨hk4, hf⟩ := gd_some hf
    obtain ⟨z5, hz5, hf⟩ := bd_some hf
    refine p_callV (As := [_]) X ml_X12_203 (dcg dc_X12_removeText 11 rfl) rfl rfl hk4 (wX12_begins hG hz5) (by decide) (room4 (Nat.le_of_ble_eq_true rfl)) (Nat.le_refl _) (Nat.le_refl _) ?_
    rintro _ u9 ⟨rfl, e9⟩; have e9 := e9.symm; subst e9
    refine p_aload_n X (dcg dc_X12_removeText 12 rfl) rfl rfl ?_
    obtain ⟨hk6, hf⟩ := gd_some hf
    refine p_getR X fl_X12_20 rfl (by decide) (dcg dc_X12_removeText 13 rfl) hk6 ?_
    refine p_iload_n X (dcg dc_X12_removeText 14 rfl) rfl rfl ?_
    refine p_iconst (v := 0) X (dcg dc_X12_removeText 15 rfl) (by decide) ?_
    obtain ⟨a7, e8, hf⟩ := gs_some hf
    first | subst e8 | (try rw [e8])
    obtain ⟨⟨hk10, hb9⟩, hf⟩ := gd_some hf
    refine p_zast X (dcg dc_X12_removeText 16 rfl) hk10 (vp_of_inb hb9) ?_
    obtain ⟨h11, rfl, hf⟩ := lt_some hf
    refine p_aload_n X (dcg dc_X12_removeText 17 rfl) rfl rfl ?_
    refine p_iload_n X (dcg dc_X12_removeText 18 rfl) rfl rfl ?_
    obtain ⟨z12, hz12, hf⟩ := bd_some hf
    refine p_callV (As := [_]) X ml_X12_209 (dcg dc_X12_removeText 19 rfl) rfl rfl hk6 (wX12_tells hG hz12) (by decide) (room4 (Nat.le_of_ble_eq_true rfl)) (Nat.le_refl _) (Nat.le_refl _) ?_
    rintro _ u9 ⟨rfl, e9⟩; have e9 := e9.symm; subst e9
    refine p_aload_n X (dcg dc_X12_removeText 20 rfl) rfl rfl ?_
    obtain ⟨hk13, hf⟩ := gd_some hf
    refine p_getR X fl_X12_27 rfl (by decide) (dcg dc_X12_removeText 21 rfl) hk13 ?_
    refine p_iload_n X (dcg dc_X12_removeText 22 rfl) rfl rfl ?_
    obtain ⟨a14, e15, hf⟩ := gs_some hf
    first | subst e15 | (try rw [e15])
    obtain ⟨⟨hk17, hb16⟩, hf⟩ := gd_some hf
    refine p_iald X (dcg dc_X12_removeText 23 rfl) hk17 (vp_of_inb hb16) ?_
    have er := Option.some.inj hf
    subst er
    exact p_iret X rfl (dcg dc_X12_removeText 24 rfl) ⟨rfl, rfl⟩ (Nat.le_refl _) (Nat.le_refl _)
  · have hf := if_f q hf
    refine p_iconst (v := 0) X (dcg dc_X12_removeText 7 rfl) (by decide) ?_
    have er := Option.some.inj hf
    subst er
    exact p_iret X rfl (dcg dc_X12_removeText 8 rfl) ⟨rfl, rfl⟩ (Nat.le_refl _) (Nat.le_refl _)
theorem dc_X12_putWord : decs cX12_putWord [(0, .aload_n 0, 1), (1, .iconst 0, 1), (2, .putfield 1, 3), (5, .aload_n 0, 1), (6, .iload_n 1, 1), (7, .invokevirtual 212, 3), (10, .ifCond .ne 58, 3), (13, .aload_n 0, 1), (14, .iload_n 2, 1), (15, .iconst 0, 1), (16, .aload_n 0, 1), (17, .getfield 27, 3), (20, .iload_n 1, 1), (21, .iaload, 1), (22, .invokestatic 148, 3), (25, .iconst 1, 1), (26, .invokevirtual 156, 3), (29, .ifCond .ne 39, 3), (32, .aload_n 0, 1), (33, .iload_n 3, 1), (34, .invokestatic 152, 3), (37, .iconst 2, 1), (38, .invokevirtual 156, 3), (41, .ifCond .ne 27, 3), (44, .aload_n 0, 1), (45, .aload_n 0, 1), (46, .getfield 27, 3), (49, .iload_n 1, 1), (50, .iaload, 1), (51, .bipush 40, 2), (53, .if_icmp .ge 7, 3), (56, .iconst 1, 1), (57, .goto 4, 3), (60, .iconst 0, 1), (61, .iconst 3, 1), (62, .invokevirtual 156, 3), (65, .ifCond .eq 5, 3), (68, .iconst 0, 1), (69, .ireturn, 1), (70, .aload_n 0, 1), (71, .iload_n 1, 1), (72, .invokevirtual 203, 3), (75, .aload_n 0, 1), (76, .getfield 27, 3), (79, .iload_n 1, 1), (80, .iaload, 1), (81, .istore 4, 2), (83, .iload 4, 2), (85, .iload_n 2, 1), (86, .if_icmp .le 35, 3), (89, .aload_n 0, 1), (90, .getfield 24, 3), (93, .bipush 40, 2), (95, .iload_n 1, 1), (96, .imul, 1), (97, .iload 4, 2), (99, .iadd, 1), (100, .aload_n 0, 1), (101, .getfield 24, 3), (104, .bipush 40, 2), (106, .iload_n 1, 1), (107, .imul, 1), (108, .iload 4, 2), (110, .iadd, 1), (111, .iconst 1, 1), (112, .isub, 1), (113, .iaload, 1), (114, .iastore, 1), (115, .iinc 4 (-1), 3), (118, .goto (-35), 3), (121, .aload_n 0, 1), (122, .getfield 24, 3), (125, .bipush 40, 2), (127, .iload_n 1, 1), (128, .imul, 1), (129, .iload_n 2, 1), (130, .iadd, 1), (131, .iload_n 3, 1), (132, .iastore, 1), (133, .aload_n 0, 1), (134, .getfield 27, 3), (137, .iload_n 1, 1), (138, .dup2, 1), (139, .iaload, 1), (140, .iconst 1, 1), (141, .iadd, 1), (142, .iastore, 1), (143, .aload_n 0, 1), (144, .iload_n 1, 1), (145, .invokevirtual 209, 3), (148, .aload_n 0, 1), (149, .getfield 27, 3), (152, .iload_n 1, 1), (153, .iaload, 1), (154, .ireturn, 1)] = true := by decide +kernel
noncomputable def fX12_putWord_b68  (h : PH) : Option (Int32 × PH) :=
  some (((0 : Int32), h))
set_option maxRecDepth 100000 in
theorem mX12_putWord_b68  {h : PH} {r : (Int32 × PH)} (hf : fX12_putWord_b68  h = some r) : eqz h (hX r.2) (hV r.2) := by
  unfold fX12_putWord_b68 at hf
  have hle := eqz_rf h
  have ee := Option.some.inj hf; subst ee; exact hle
set_option maxRecDepth 100000 in
theorem wX12_putWord_b68 {E : PE} {p : Program} {l : Launch} {e : Env} {s : State} {m : MethodId} {args : Array Value} {below : List Frame} {meth : Method} {c : Code} (X : Cx E p l e (rmv 6 0 0) s m args below meth c RX12 cX12_putWord 5 (some .int)) (hG : Gs E l) (hnm : meth.name = yX12_putWord.name)  {h : PH} {r : (Int32 × PH)} (hf : fX12_putWord_b68  h = some r)  : PW E p l e (rmv 6 0 0) s m args below meth c 5 0 0 (MQ below (QG E (fun v u => v = some (.int r.1) ∧ u = r.2)) args s 0 0 (pA E)) h 68 [] [] := by
  unfold fX12_putWord_b68 at hf
  refine p_iconst (v := 0) X (dcg dc_X12_putWord 37 rfl) (by decide) ?_
  have er := Option.some.inj hf
  subst er
  exact p_iret X rfl (dcg dc_X12_putWord 38 rfl) ⟨rfl, rfl⟩ (Nat.le_refl _) (Nat.le_refl _)
noncomputable def fX12_putWord_c83 (v0 : Nat) (v1 : Int32) (v2 : Int32) (v3 : Int32) (v4 : Int32) (h : PH) : Option ((Int32 × PH) ⊕ (Int32 × PH)) :=
  if (v4 ≤ v2) then (mr (gd (hK h v0 = 12) (gs (hR h 12 v0 5) (fun a33 =>
  gd (hK h a33 = 20 ∧ inb (((40 : Int32) * v1) + v2) (hN h a33)) (lt (sI h 20 a33 (Int32.toNatClampNeg (((40 : Int32) * v1) + v2)) v3) (fun h37 =>
  gs (hR h37 12 v0 6) (fun a38 =>
  gd (hK h37 a38 = 20 ∧ inb v1 (hN h37 a38)) (gd (inb v1 (hN h37 a38)) (lt (sI h37 20 a38 (Int32.toNatClampNeg v1) ((hI h37 20 a38 (Int32.toNatClampNeg v1)) + (1 : Int32))) (fun h43 =>
  bd (fX12_tells v0 v1 h43) (fun z44 =>
  gd (hK z44 v0 = 12) (gs (hR z44 12 v0 6) (fun a46 =>
  gd (hK z44 a46 = 20 ∧ inb v1 (hN z44 a46)) (some (((hI z44 20 a46 (Int32.toNatClampNeg v1)), z44)))))))))))))))) else
  gd (hK h v0 = 12) (gs (hR h 12 v0 5) (fun a51 =>
  gd (hK h a51 = 20 ∧ inb ((((40 : Int32) * v1) + v4) - (1 : Int32)) (hN h a51)) (gd (inb (((40 : Int32) * v1) + v4) (hN h a51)) (lt (sI h 20 a51 (Int32.toNatClampNeg (((40 : Int32) * v1) + v4)) (hI h 20 a51 (Int32.toNatClampNeg ((((40 : Int32) * v1) + v4) - (1 : Int32))))) (fun h56 =>
  some (.inl ((v4 + (-1)), h56)))))))
set_option maxRecDepth 100000 in
theorem mX12_putWord_c83 {v0 : Nat} {v1 : Int32} {v2 : Int32} {v3 : Int32} {v4 : Int32} {h : PH} {x : ((Int32 × PH) ⊕ (Int32 × PH))} (hf : fX12_putWord_c83 v0 v1 v2 v3 v4 h = some x) : (∀ w9 : (Int32 × PH), x = .inl w9 → eqz h (hX (w9.2)) (hV (w9.2))) ∧ (∀ w9 : (Int32 × PH), x = .inr w9 → eqz h (hX w9.2) (hV w9.2)) := by
  unfold fX12_putWord_c83 at hf
  have hle := eqz_rf h
  rcases ite_or hf with ⟨q, hf⟩ | ⟨q, hf⟩
  · have hf := if_t q hf
    obtain ⟨y30, hfm, rfl⟩ := mr_some hf; have hf := hfm; clear hfm
    obtain ⟨hk32, hf⟩ := gd_some hf
    obtain ⟨a33, e34, hf⟩ := gs_some hf
    obtain ⟨⟨hk36, hb35⟩, hf⟩ := gd_some hf
    obtain ⟨h37, rfl, hf⟩ := lt_some hf
    obtain ⟨a38, e39, hf⟩ := gs_some hf
    obtain ⟨⟨hk41, hb40⟩, hf⟩ := gd_some hf
    obtain ⟨hb42, hf⟩ := gd_some hf
    obtain ⟨h43, rfl, hf⟩ := lt_some hf
    obtain ⟨z44, hz44, hf⟩ := bd_some hf
    have hle := eqz_rt (mX12_tells hz44) hle
    obtain ⟨hk45, hf⟩ := gd_some hf
    obtain ⟨a46, e47, hf⟩ := gs_some hf
    obtain ⟨⟨hk49, hb48⟩, hf⟩ := gd_some hf
    have ee := Option.some.inj hf; subst ee
    exact ⟨(fun z e => nomatch e), (fun z e => by have ee := Sum.inr.inj (e); subst ee; exact hle)⟩
  · have hf := if_f q hf
    obtain ⟨hk50, hf⟩ := gd_some hf
    obtain ⟨a51, e52, hf⟩ := gs_some hf
    obtain ⟨⟨hk54, hb53⟩, hf⟩ := gd_some hf
    obtain ⟨hb55, hf⟩ := gd_some hf
    obtain ⟨h56, rfl, hf⟩ := lt_some hf
    have ee := Option.some.inj hf; subst ee
    exact ⟨(fun z e => by have ee := Sum.inl.inj (e); subst ee; exact hle), (fun z e => nomatch e)⟩
set_option maxRecDepth 100000 in
theorem wX12_putWord_c83 {E : PE} {p : Program} {l : Launch} {e : Env} {s : State} {m : MethodId} {args : Array Value} {below : List Frame} {meth : Method} {c : Code} (X : Cx E p l e (rmv 6 0 0) s m args below meth c RX12 cX12_putWord 5 (some .int)) (hG : Gs E l) (hnm : meth.name = yX12_putWord.name) {v0 : Nat} {v1 : Int32} {v2 : Int32} {v3 : Int32} {v4 : Int32} {h : PH} {r : (Int32 × PH)} {x : ((Int32 × PH) ⊕ (Int32 × PH))} (hf : fX12_putWord_c83 v0 v1 v2 v3 v4 h = some x) (k0 : ∀ z : (Int32 × PH), x = .inl z → PW E p l e (rmv 6 0 0) s m args below meth c 5 0 0 (MQ below (QG E (fun v u => v = some (.int r.1) ∧ u = r.2)) args s 0 0 (pA E)) (z.2) 83 [(0, some (.ref v0)), (1, some (.int v1)), (2, some (.int v2)), (3, some (.int v3)), (4, some (.int (z.1)))] []) (kf : ∀ z : (Int32 × PH), x = .inr z → z = r) : PW E p l e (rmv 6 0 0) s m args below meth c 5 0 0 (MQ below (QG E (fun v u => v = some (.int r.1) ∧ u = r.2)) args s 0 0 (pA E)) h 83 [(0, some (.ref v0)), (1, some (.int v1)), (2, some (.int v2)), (3, some (.int v3)), (4, some (.int v4))] [] := by
  unfold fX12_putWord_c83 at hf
  refine p_iload X (dcg dc_X12_putWord 47 rfl) rfl ?_
  refine p_iload_n X (dcg dc_X12_putWord 48 rfl) rfl rfl ?_
  refine p_icmp_le (tgt := 121) X (dcg dc_X12_putWord 49 rfl) (by decide) (fun q => ?_) (fun q => ?_)
  · have hf := if_t q hf
    obtain ⟨y30, hf, hy31⟩ := mr_some hf
    have hy31f := kf y30 hy31
    subst hy31f
    refine p_aload_n X (dcg dc_X12_putWord 70 rfl) rfl rfl ?_
    obtain ⟨hk32, hf⟩ := gd_some hf
    refine p_getR X fl_X12_24 rfl (by decide) (dcg dc_X12_putWord 71 rfl) hk32 ?_
    refine p_bipush (v := 40) X (dcg dc_X12_putWord 72 rfl) (by decide) ?_
    refine p_iload_n X (dcg dc_X12_putWord 73 rfl) rfl rfl ?_
    refine p_imul X (dcg dc_X12_putWord 74 rfl) ?_
    refine p_iload_n X (dcg dc_X12_putWord 75 rfl) rfl rfl ?_
    refine p_iadd X (dcg dc_X12_putWord 76 rfl) ?_
    refine p_iload_n X (dcg dc_X12_putWord 77 rfl) rfl rfl ?_
    obtain ⟨a33, e34, hf⟩ := gs_some hf
    first | subst e34 | (try rw [e34])
    obtain ⟨⟨hk36, hb35⟩, hf⟩ := gd_some hf
    refine p_iast X (dcg dc_X12_putWord 78 rfl) hk36 (vp_of_inb hb35) ?_
    obtain ⟨h37, rfl, hf⟩ := lt_some hf
    refine p_aload_n X (dcg dc_X12_putWord 79 rfl) rfl rfl ?_
    refine p_getR X fl_X12_27 rfl (by decide) (dcg dc_X12_putWord 80 rfl) hk32 ?_
    refine p_iload_n X (dcg dc_X12_putWord 81 rfl) rfl rfl ?_
    refine p_dup2 X (dcg dc_X12_putWord 82 rfl) rfl (cat_rf _) ?_
    obtain ⟨a38, e39, hf⟩ := gs_some hf
    first | subst e39 | (try rw [e39])
    obtain ⟨⟨hk41, hb40⟩, hf⟩ := gd_some hf
    refine p_iald X (dcg dc_X12_putWord 83 rfl) hk41 (vp_of_inb hb40) ?_
    refine p_iconst (v := 1) X (dcg dc_X12_putWord 84 rfl) (by decide) ?_
    refine p_iadd X (dcg dc_X12_putWord 85 rfl) ?_
    obtain ⟨hb42, hf⟩ := gd_some hf
    refine p_iast X (dcg dc_X12_putWord 86 rfl) hk41 (vp_of_inb hb42) ?_
    obtain ⟨h43, rfl, hf⟩ := lt_some hf
    refine p_aload_n X (dcg dc_X12_putWord 87 rfl) rfl rfl ?_
    refine p_iload_n X (dcg dc_X12_putWord 88 rfl) rfl rfl ?_
    obtain ⟨z44, hz44, hf⟩ := bd_some hf
    refine p_callV (As := [_]) X ml_X12_209 (dcg dc_X12_putWord 89 rfl) rfl rfl hk32 (wX12_tells hG hz44) (by decide) (room4 (Nat.le_of_ble_eq_true rfl)) (Nat.le_refl _) (Nat.le_refl _) ?_
    rintro _ u9 ⟨rfl, e9⟩; have e9 := e9.symm; subst e9
    refine p_aload_n X (dcg dc_X12_putWord 90 rfl) rfl rfl ?_
    obtain ⟨hk45, hf⟩ := gd_some hf
    refine p_getR X fl_X12_27 rfl (by decide) (dcg dc_X12_putWord 91 rfl) hk45 ?_
    refine p_iload_n X (dcg dc_X12_putWord 92 rfl) rfl rfl ?_
    obtain ⟨a46, e47, hf⟩ := gs_some hf
    first | subst e47 | (try rw [e47])
    obtain ⟨⟨hk49, hb48⟩, hf⟩ := gd_some hf
    refine p_iald X (dcg dc_X12_putWord 93 rfl) hk49 (vp_of_inb hb48) ?_
    have er := Option.some.inj hf
    subst er
    exact p_iret X rfl (dcg dc_X12_putWord 94 rfl) ⟨rfl, rfl⟩ (Nat.le_refl _) (Nat.le_refl _)
  · have hf := if_f q hf
    refine p_aload_n X (dcg dc_X12_putWord 50 rfl) rfl rfl ?_
    obtain ⟨hk50, hf⟩ := gd_some hf
    refine p_getR X fl_X12_24 rfl (by decide) (dcg dc_X12_putWord 51 rfl) hk50 ?_
    refine p_bipush (v := 40) X (dcg dc_X12_putWord 52 rfl) (by decide) ?_
    refine p_iload_n X (dcg dc_X12_putWord 53 rfl) rfl rfl ?_
    refine p_imul X (dcg dc_X12_putWord 54 rfl) ?_
    refine p_iload X (dcg dc_X12_putWord 55 rfl) rfl ?_
    refine p_iadd X (dcg dc_X12_putWord 56 rfl) ?_
    refine p_aload_n X (dcg dc_X12_putWord 57 rfl) rfl rfl ?_
    refine p_getR X fl_X12_24 rfl (by decide) (dcg dc_X12_putWord 58 rfl) hk50 ?_
    refine p_bipush (v := 40) X (dcg dc_X12_putWord 59 rfl) (by decide) ?_
    refine p_iload_n X (dcg dc_X12_putWord 60 rfl) rfl rfl ?_
    refine p_imul X (dcg dc_X12_putWord 61 rfl) ?_
    refine p_iload X (dcg dc_X12_putWord 62 rfl) rfl ?_
    refine p_iadd X (dcg dc_X12_putWord 63 rfl) ?_
    refine p_iconst (v := 1) X (dcg dc_X12_putWord 64 rfl) (by decide) ?_
    refine p_isub X (dcg dc_X12_putWord 65 rfl) ?_
    obtain ⟨a51, e52, hf⟩ := gs_some hf
    first | subst e52 | (try rw [e52])
    obtain ⟨⟨hk54, hb53⟩, hf⟩ := gd_some hf
    refine p_iald X (dcg dc_X12_putWord 66 rfl) hk54 (vp_of_inb hb53) ?_
    obtain ⟨hb55, hf⟩ := gd_some hf
    refine p_iast X (dcg dc_X12_putWord 67 rfl) hk54 (vp_of_inb hb55) ?_
    obtain ⟨h56, rfl, hf⟩ := lt_some hf
    refine p_iinc (v := -1) X (dcg dc_X12_putWord 68 rfl) rfl (by decide) (by decide) rfl ?_
    refine p_goto (tgt := 83) X (dcg dc_X12_putWord 69 rfl) (by decide) ?_
    refine p_pick [0, 1, 2, 3, 4] ?_
    exact k0 _ (Option.some.inj hf).symm
noncomputable def fX12_putWord_l83 (v0 : Nat) (v1 : Int32) (v2 : Int32) (v3 : Int32) (v4 : Int32) (h : PH) : Option (Int32 × PH) := wh (fun z : (Int32 × PH) => fX12_putWord_c83 v0 v1 v2 v3 (z.1) (z.2)) (v4, h)
set_option maxRecDepth 100000 in
theorem mX12_putWord_l83 {v0 : Nat} {v1 : Int32} {v2 : Int32} {v3 : Int32} {v4 : Int32} {h : PH} {r : (Int32 × PH)} (hf : fX12_putWord_l83 v0 v1 v2 v3 v4 h = some r) : eqz h (hX r.2) (hV r.2) := by
  unfold fX12_putWord_l83 at hf
  refine wh_ind (P := fun z => eqz (z.2) (hX r.2) (hV r.2)) (fun z x0 hs i1 i2 => ?_) _ hf
  obtain ⟨c0, cf⟩ := mX12_putWord_c83 (v0 := v0) (v1 := v1) (v2 := v2) (v3 := v3) (v4 := z.1) (h := z.2) hs
  rcases hxx : x0 with zz | zz
  · exact eqz_tr (c0 zz hxx) (i1 zz hxx)
  · have ee := i2 zz hxx; subst ee; exact cf zz hxx
set_option maxRecDepth 100000 in
theorem wX12_putWord_l83 {E : PE} {p : Program} {l : Launch} {e : Env} {s : State} {m : MethodId} {args : Array Value} {below : List Frame} {meth : Method} {c : Code} (X : Cx E p l e (rmv 6 0 0) s m args below meth c RX12 cX12_putWord 5 (some .int)) (hG : Gs E l) (hnm : meth.name = yX12_putWord.name) {v0 : Nat} {v1 : Int32} {v2 : Int32} {v3 : Int32} {v4 : Int32} {h : PH} {r : (Int32 × PH)} (hf : fX12_putWord_l83 v0 v1 v2 v3 v4 h = some r)  : PW E p l e (rmv 6 0 0) s m args below meth c 5 0 0 (MQ below (QG E (fun v u => v = some (.int r.1) ∧ u = r.2)) args s 0 0 (pA E)) h 83 [(0, some (.ref v0)), (1, some (.int v1)), (2, some (.int v2)), (3, some (.int v3)), (4, some (.int v4))] [] := by
  unfold fX12_putWord_l83 at hf
  refine wh_ind (P := fun z => PW E p l e (rmv 6 0 0) s m args below meth c 5 0 0 (MQ below (QG E (fun v u => v = some (.int r.1) ∧ u = r.2)) args s 0 0 (pA E)) (z.2) 83 [(0, some (.ref v0)), (1, some (.int v1)), (2, some (.int v2)), (3, some (.int v3)), (4, some (.int (z.1)))] []) (fun z x0 hs i1 i2 => ?_) _ hf
  exact wX12_putWord_c83 (r := r) (v0 := v0) (v1 := v1) (v2 := v2) (v3 := v3) (v4 := z.1) (h := z.2) X hG hnm hs i1  i2
noncomputable def fX12_putWord_b61 (v0 : Nat) (v1 : Int32) (v2 : Int32) (v3 : Int32) (t0 : Option Nat) (t1 : Int32) (h : PH) : Option (Int32 × PH) :=
  gs t0 (fun a19 =>
  gd (hK h a19 = 12) (bd (fX12_fails a19 t1 (3 : Int32) h) (fun z22 =>
  if (z22.1 = 0) then (gd (hK z22.2 v0 = 12) (bd (fX12_begins v0 v1 z22.2) (fun z24 =>
  gd (hK z24 v0 = 12) (gs (hR z24 12 v0 6) (fun a26 =>
  gd (hK z24 a26 = 20 ∧ inb v1 (hN z24 a26)) (fX12_putWord_l83 v0 v1 v2 v3 (hI z24 20 a26 (Int32.toNatClampNeg v1)) z24)))))) else
  fX12_putWord_b68  z22.2)))
set_option maxRecDepth 100000 in
theorem mX12_putWord_b61 {v0 : Nat} {v1 : Int32} {v2 : Int32} {v3 : Int32} {t0 : Option Nat} {t1 : Int32} {h : PH} {r : (Int32 × PH)} (hf : fX12_putWord_b61 v0 v1 v2 v3 t0 t1 h = some r) : eqz h (hX r.2) (hV r.2) := by
  unfold fX12_putWord_b61 at hf
  have hle := eqz_rf h
  obtain ⟨a19, e20, hf⟩ := gs_some hf
  obtain ⟨hk21, hf⟩ := gd_some hf
  obtain ⟨z22, hz22, hf⟩ := bd_some hf
  have hle := eqz_rt (mX12_fails hz22) hle
  rcases ite_or hf with ⟨q, hf⟩ | ⟨q, hf⟩
  · have hf := if_t q hf
    obtain ⟨hk23, hf⟩ := gd_some hf
    obtain ⟨z24, hz24, hf⟩ := bd_some hf
    have hle := eqz_rt (mX12_begins hz24) hle
    obtain ⟨hk25, hf⟩ := gd_some hf
    obtain ⟨a26, e27, hf⟩ := gs_some hf
    obtain ⟨⟨hk29, hb28⟩, hf⟩ := gd_some hf
    exact eqz_rt (mX12_putWord_l83 hf) hle
  · have hf := if_f q hf
    exact eqz_rt (mX12_putWord_b68 hf) hle
set_option maxRecDepth 100000 in
theorem wX12_putWord_b61 {E : PE} {p : Program} {l : Launch} {e : Env} {s : State} {m : MethodId} {args : Array Value} {below : List Frame} {meth : Method} {c : Code} (X : Cx E p l e (rmv 6 0 0) s m args below meth c RX12 cX12_putWord 5 (some .int)) (hG : Gs E l) (hnm : meth.name = yX12_putWord.name) {v0 : Nat} {v1 : Int32} {v2 : Int32} {v3 : Int32} {t0 : Option Nat} {t1 : Int32} {h : PH} {r : (Int32 × PH)} (hf : fX12_putWord_b61 v0 v1 v2 v3 t0 t1 h = some r)  : PW E p l e (rmv 6 0 0) s m args below meth c 5 0 0 (MQ below (QG E (fun v u => v = some (.int r.1) ∧ u = r.2)) args s 0 0 (pA E)) h 61 [(0, some (.ref v0)), (1, some (.int v1)), (2, some (.int v2)), (3, some (.int v3))] [.int t1, va_rf t0] := by
  unfold fX12_putWord_b61 at hf
  refine p_iconst (v := 3) X (dcg dc_X12_putWord 34 rfl) (by decide) ?_
  obtain ⟨a19, e20, hf⟩ := gs_some hf
  first | subst e20 | (try rw [e20])
  obtain ⟨hk21, hf⟩ := gd_some hf
  obtain ⟨z22, hz22, hf⟩ := bd_some hf
  refine p_callV (As := [_, _]) X ml_X12_156 (dcg dc_X12_putWord 35 rfl) rfl rfl hk21 (wX12_fails hG hz22) (by decide) (room4 (Nat.le_of_ble_eq_true rfl)) (Nat.le_refl _) (Nat.le_refl _) ?_
  rintro _ u9 ⟨rfl, e9⟩; have e9 := e9.symm; subst e9
  refine p_if_eq (tgt := 70) X (dcg dc_X12_putWord 36 rfl) (by decide) (fun q => ?_) (fun q => ?_)
  · have hf := if_t q hf
    refine p_aload_n X (dcg dc_X12_putWord 39 rfl) rfl rfl ?_
    refine p_iload_n X (dcg dc_X12_putWord 40 rfl) rfl rfl ?_
    obtain ⟨hk23, hf⟩ := gd_some hf
    obtain ⟨z24, hz24, hf⟩ := bd_some hf
    refine p_callV (As := [_]) X ml_X12_203 (dcg dc_X12_putWord 41 rfl) rfl rfl hk23 (wX12_begins hG hz24) (by decide) (room4 (Nat.le_of_ble_eq_true rfl)) (Nat.le_refl _) (Nat.le_refl _) ?_
    rintro _ u9 ⟨rfl, e9⟩; have e9 := e9.symm; subst e9
    refine p_aload_n X (dcg dc_X12_putWord 42 rfl) rfl rfl ?_
    obtain ⟨hk25, hf⟩ := gd_some hf
    refine p_getR X fl_X12_27 rfl (by decide) (dcg dc_X12_putWord 43 rfl) hk25 ?_
    refine p_iload_n X (dcg dc_X12_putWord 44 rfl) rfl rfl ?_
    obtain ⟨a26, e27, hf⟩ := gs_some hf
    first | subst e27 | (try rw [e27])
    obtain ⟨⟨hk29, hb28⟩, hf⟩ := gd_some hf
    refine p_iald X (dcg dc_X12_putWord 45 rfl) hk29 (vp_of_inb hb28) ?_
    refine p_istore X (dcg dc_X12_putWord 46 rfl) (by decide) rfl ?_
    refine p_pick [0, 1, 2, 3, 4] ?_
    exact wX12_putWord_l83 X hG hnm hf 
  · have hf := if_f q hf
    refine p_pick [] ?_
    exact wX12_putWord_b68 X hG hnm hf 
noncomputable def fX12_putWord (v0 : Nat) (v1 : Int32) (v2 : Int32) (v3 : Int32) (h : PH) : Option (Int32 × PH) :=
  gd (hK h v0 = 12) (lt (sI h 12 v0 0 (0 : Int32)) (fun h2 =>
  bd (fX12_noText v0 v1 h2) (fun z3 =>
  if (¬ z3.1 = 0) then (fX12_putWord_b68  z3.2) else
  gd (hK z3.2 v0 = 12) (gs (hR z3.2 12 v0 6) (fun a5 =>
  gd (hK z3.2 a5 = 20 ∧ inb v1 (hN z3.2 a5)) (bd (fX12_in v2 (0 : Int32) (hI z3.2 20 a5 (Int32.toNatClampNeg v1))) (fun z9 =>
  bd (fX12_fails v0 z9 (1 : Int32) z3.2) (fun z10 =>
  if (¬ z10.1 = 0) then (fX12_putWord_b68  z10.2) else
  bd (fX12_isWord v3) (fun z11 =>
  gd (hK z10.2 v0 = 12) (bd (fX12_fails v0 z11 (2 : Int32) z10.2) (fun z13 =>
  if (¬ z13.1 = 0) then (fX12_putWord_b68  z13.2) else
  gd (hK z13.2 v0 = 12) (gs (hR z13.2 12 v0 6) (fun a15 =>
  gd (hK z13.2 a15 = 20 ∧ inb v1 (hN z13.2 a15)) (if ((40 : Int32) ≤ (hI z13.2 20 a15 (Int32.toNatClampNeg v1))) then (fX12_putWord_b61 v0 v1 v2 v3 (some v0) (0 : Int32) z13.2) else
  fX12_putWord_b61 v0 v1 v2 v3 (some v0) (1 : Int32) z13.2))))))))))))))
set_option maxRecDepth 100000 in
theorem mX12_putWord {v0 : Nat} {v1 : Int32} {v2 : Int32} {v3 : Int32} {h : PH} {r : (Int32 × PH)} (hf : fX12_putWord v0 v1 v2 v3 h = some r) : eqz h (hX r.2) (hV r.2) := by
  unfold fX12_putWord at hf
  have hle := eqz_rf h
  obtain ⟨hk1, hf⟩ := gd_some hf
  obtain ⟨h2, rfl, hf⟩ := lt_some hf
  obtain ⟨z3, hz3, hf⟩ := bd_some hf
  have hle := eqz_rt (mX12_noText hz3) hle
  rcases ite_or hf with ⟨q, hf⟩ | ⟨q, hf⟩
  · have hf := if_t q hf
    exact eqz_rt (mX12_putWord_b68 hf) hle
  · have hf := if_f q hf
    obtain ⟨hk4, hf⟩ := gd_some hf
    obtain ⟨a5, e6, hf⟩ := gs_some hf
    obtain ⟨⟨hk8, hb7⟩, hf⟩ := gd_some hf
    obtain ⟨z9, hz9, hf⟩ := bd_some hf
    obtain ⟨z10, hz10, hf⟩ := bd_some hf
    have hle := eqz_rt (mX12_fails hz10) hle
    rcases ite_or hf with ⟨q, hf⟩ | ⟨q, hf⟩
    · have hf := if_t q hf
      exact eqz_rt (mX12_putWord_b68 hf) hle
    · have hf := if_f q hf
      obtain ⟨z11, hz11, hf⟩ := bd_some hf
      obtain ⟨hk12, hf⟩ := gd_some hf
      obtain ⟨z13, hz13, hf⟩ := bd_some hf
      have hle := eqz_rt (mX12_fails hz13) hle
      rcases ite_or hf with ⟨q, hf⟩ | ⟨q, hf⟩
      · have hf := if_t q hf
        exact eqz_rt (mX12_putWord_b68 hf) hle
      · have hf := if_f q hf
        obtain ⟨hk14, hf⟩ := gd_some hf
        obtain ⟨a15, e16, hf⟩ := gs_some hf
        obtain ⟨⟨hk18, hb17⟩, hf⟩ := gd_some hf
        rcases ite_or hf with ⟨q, hf⟩ | ⟨q, hf⟩
        · have hf := if_t q hf
          exact eqz_rt (mX12_putWord_b61 hf) hle
        · have hf := if_f q hf
          exact eqz_rt (mX12_putWord_b61 hf) hle
set_option maxRecDepth 100000 in
theorem wX12_putWord {E : PE} {l : Launch} (hG : Gs E l) {v0 : Nat} {v1 : Int32} {v2 : Int32} {v3 : Int32} {h : PH} {r : (Int32 × PH)} (hf : fX12_putWord v0 v1 v2 v3 h = some r) : Ct E l 6 0 0 yX12_putWord cX12_putWord 5 (some .int) [.ref v0, .int v1, .int v2, .int v3] h (fun v u => v = some (.int r.1) ∧ u = r.2) := by
  refine ct_of hG (by decide) (Nat.le_of_ble_eq_true rfl) ?_
  intro p e s m args below meth c X hnm
  show PW E p l e _ s m args below meth c _ 0 0 _ h 0 [(0, some (.ref v0)), (1, some (.int v1)), (2, some (.int v2)), (3, some (.int v3))] []
  unfold fX12_putWord at hf
  refine p_aload_n X (dcg dc_X12_putWord 0 rfl) rfl rfl ?_
  refine p_iconst (v := 0) X (dcg dc_X12_putWord 1 rfl) (by decide) ?_
  obtain ⟨hk1, hf⟩ := gd_some hf
  refine p_putI X fl_X12_1 rfl (by decide) (fun q hq => by cases hq; rfl) rfl rfl (dcg dc_X12_putWord 2 rfl) hk1 ?_
  obtain ⟨h2, rfl, hf⟩ := lt_some hf
  refine p_aload_n X (dcg dc_X12_putWord 3 rfl) rfl rfl ?_
  refine p_iload_n X (dcg dc_X12_putWord 4 rfl) rfl rfl ?_
  obtain ⟨z3, hz3, hf⟩ := bd_some hf
  refine p_callV (As := [_]) X ml_X12_212 (dcg dc_X12_putWord 5 rfl) rfl rfl hk1 (wX12_noText hG hz3) (by decide) (room4 (Nat.le_of_ble_eq_true rfl)) (Nat.le_refl _) (Nat.le_refl _) ?_
  rintro _ u9 ⟨rfl, e9⟩; have e9 := e9.symm; subst e9
  refine p_if_ne (tgt := 68) X (dcg dc_X12_putWord 6 rfl) (by decide) (fun q => ?_) (fun q => ?_)
  · have hf := if_t q hf
    refine p_pick [] ?_
    exact wX12_putWord_b68 X hG hnm hf 
  · have hf := if_f q hf
    refine p_aload_n X (dcg dc_X12_putWord 7 rfl) rfl rfl ?_
    refine p_iload_n X (dcg dc_X12_putWord 8 rfl) rfl rfl ?_
    refine p_iconst (v := 0) X (dcg dc_X12_putWord 9 rfl) (by decide) ?_
    refine p_aload_n X (dcg dc_X12_putWord 10 rfl) rfl rfl ?_
    obtain ⟨hk4, hf⟩ := gd_some hf
    refine p_getR X fl_X12_27 rfl (by decide) (dcg dc_X12_putWord 11 rfl) hk4 ?_
    refine p_iload_n X (dcg dc_X12_putWord 12 rfl) rfl rfl ?_
    obtain ⟨a5, e6, hf⟩ := gs_some hf
    first | subst e6 | (try rw [e6])
    obtain ⟨⟨hk8, hb7⟩, hf⟩ := gd_some hf
    refine p_iald X (dcg dc_X12_putWord 13 rfl) hk8 (vp_of_inb hb7) ?_
    obtain ⟨z9, hz9, hf⟩ := bd_some hf
    refine p_callS (As := [_, _, _]) X ml_X12_148 (dcg dc_X12_putWord 14 rfl) rfl rfl  (wX12_in hG hz9) (by decide) (room4 (Nat.le_of_ble_eq_true rfl)) (Nat.le_refl _) (Nat.le_refl _) ?_
    rintro _ u9 ⟨rfl, e9⟩; have e9 := e9.symm; subst e9
    refine p_iconst (v := 1) X (dcg dc_X12_putWord 15 rfl) (by decide) ?_
    obtain ⟨z10, hz10, hf⟩ := bd_some hf
    refine p_callV (As := [_, _]) X ml_X12_156 (dcg dc_X12_putWord 16 rfl) rfl rfl hk4 (wX12_fails hG hz10) (by decide) (room4 (Nat.le_of_ble_eq_true rfl)) (Nat.le_refl _) (Nat.le_refl _) ?_
    rintro _ u9 ⟨rfl, e9⟩; have e9 := e9.symm; subst e9
    refine p_if_ne (tgt := 68) X (dcg dc_X12_putWord 17 rfl) (by decide) (fun q => ?_) (fun q => ?_)
    · have hf := if_t q hf
      refine p_pick [] ?_
      exact wX12_putWord_b68 X hG hnm hf 
    · have hf := if_f q hf
      refine p_aload_n X (dcg dc_X12_putWord 18 rfl) rfl rfl ?_
      refine p_iload_n X (dcg dc_X12_putWord 19 rfl) rfl rfl ?_
      obtain ⟨z11, hz11, hf⟩ := bd_some hf
      refine p_callS (As := [_]) X ml_X12_152 (dcg dc_X12_putWord 20 rfl) rfl rfl  (wX12_isWord hG hz11) (by decide) (room4 (Nat.le_of_ble_eq_true rfl)) (Nat.le_refl _) (Nat.le_refl _) ?_
      rintro _ u9 ⟨rfl, e9⟩; have e9 := e9.symm; subst e9
      refine p_iconst (v := 2) X (dcg dc_X12_putWord 21 rfl) (by decide) ?_
      obtain ⟨hk12, hf⟩ := gd_some hf
      obtain ⟨z13, hz13, hf⟩ := bd_some hf
      refine p_callV (As := [_, _]) X ml_X12_156 (dcg dc_X12_putWord 22 rfl) rfl rfl hk12 (wX12_fails hG hz13) (by decide) (room4 (Nat.le_of_ble_eq_true rfl)) (Nat.le_refl _) (Nat.le_refl _) ?_
      rintro _ u9 ⟨rfl, e9⟩; have e9 := e9.symm; subst e9
      refine p_if_ne (tgt := 68) X (dcg dc_X12_putWord 23 rfl) (by decide) (fun q => ?_) (fun q => ?_)
      · have hf := if_t q hf
        refine p_pick [] ?_
        exact wX12_putWord_b68 X hG hnm hf 
      · have hf := if_f q hf
        refine p_aload_n X (dcg dc_X12_putWord 24 rfl) rfl rfl ?_
        refine p_aload_n X (dcg dc_X12_putWord 25 rfl) rfl rfl ?_
        obtain ⟨hk14, hf⟩ := gd_some hf
        refine p_getR X fl_X12_27 rfl (by decide) (dcg dc_X12_putWord 26 rfl) hk14 ?_
        refine p_iload_n X (dcg dc_X12_putWord 27 rfl) rfl rfl ?_
        obtain ⟨a15, e16, hf⟩ := gs_some hf
        first | subst e16 | (try rw [e16])
        obtain ⟨⟨hk18, hb17⟩, hf⟩ := gd_some hf
        refine p_iald X (dcg dc_X12_putWord 28 rfl) hk18 (vp_of_inb hb17) ?_
        refine p_bipush (v := 40) X (dcg dc_X12_putWord 29 rfl) (by decide) ?_
        refine p_icmp_ge (tgt := 60) X (dcg dc_X12_putWord 30 rfl) (by decide) (fun q => ?_) (fun q => ?_)
        · have hf := if_t q hf
          refine p_iconst (v := 0) X (dcg dc_X12_putWord 33 rfl) (by decide) ?_
          refine p_pick [0, 1, 2, 3] ?_
          exact wX12_putWord_b61 X hG hnm hf 
        · have hf := if_f q hf
          refine p_iconst (v := 1) X (dcg dc_X12_putWord 31 rfl) (by decide) ?_
          refine p_goto (tgt := 61) X (dcg dc_X12_putWord 32 rfl) (by decide) ?_
          refine p_pick [0, 1, 2, 3] ?_
          exact wX12_putWord_b61 X hG hnm hf 
