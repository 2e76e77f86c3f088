/-! methods of the program (by program: wip/whole/gen2.py) -/
theorem dc_X12_noPlace : decs cX12_noPlace [(0, .aload_n 0, 1), (1, .iload_n 1, 1), (2, .invokevirtual 212, 3), (5, .ifCond .ne 24, 3), (8, .aload_n 0, 1), (9, .iload_n 2, 1), (10, .iconst 0, 1), (11, .aload_n 0, 1), (12, .getfield 27, 3), (15, .iload_n 1, 1), (16, .iaload, 1), (17, .iconst 1, 1), (18, .isub, 1), (19, .invokestatic 148, 3), (22, .iconst 1, 1), (23, .invokevirtual 156, 3), (26, .ifCond .eq 7, 3), (29, .iconst 1, 1), (30, .goto 4, 3), (33, .iconst 0, 1), (34, .ireturn, 1)] = true := by decide +kernel
noncomputable def fX12_noPlace_b34 (t0 : Int32) (h : PH) : Option (Int32 × PH) :=
  gd (t0 &&& 1 = t0) (some ((t0, h)))
set_option maxRecDepth 100000 in
theorem mX12_noPlace_b34 {t0 : Int32} {h : PH} {r : (Int32 × PH)} (hf : fX12_noPlace_b34 t0 h = some r) : eqz h (hX r.2) (hV r.2) := by
  unfold fX12_noPlace_b34 at hf
  have hle := eqz_rf h
  obtain ⟨hg3, hf⟩ := gd_some hf
  have ee := Option.some.inj hf; subst ee; exact hle
set_option maxRecDepth 100000 in
theorem wX12_noPlace_b34 {E : PE} {p : Program} {l : Launch} {e : Env} {s : State} {m : MethodId} {args : Array Value} {below : List Frame} {meth : Method} {c : Code} (X : Cx E p l e (rmv 2 0 0) s m args below meth c RX12 cX12_noPlace 3 (some .boolean)) (hG : Gs E l) (hnm : meth.name = yX12_noPlace.name) {t0 : Int32} {h : PH} {r : (Int32 × PH)} (hf : fX12_noPlace_b34 t0 h = some r)  : PW E p l e (rmv 2 0 0) s m args below meth c 3 0 0 (MQ below (QG E (fun v u => v = some (.int r.1) ∧ u = r.2)) args s 0 0 (pA E)) h 34 [] [.int t0] := by
  unfold fX12_noPlace_b34 at hf
  obtain ⟨hg3, hf⟩ := gd_some hf
  have er := Option.some.inj hf
  subst er
  exact p_zret X rfl (congrArg Value.int hg3) (dcg dc_X12_noPlace 20 rfl) ⟨rfl, rfl⟩ (Nat.le_refl _) (Nat.le_refl _)
noncomputable def fX12_noPlace_b29  (h : PH) : Option (Int32 × PH) :=
  fX12_noPlace_b34 (1 : Int32) h
set_option maxRecDepth 100000 in
theorem mX12_noPlace_b29  {h : PH} {r : (Int32 × PH)} (hf : fX12_noPlace_b29  h = some r) : eqz h (hX r.2) (hV r.2) := by
  unfold fX12_noPlace_b29 at hf
  have hle := eqz_rf h
  exact eqz_rt (mX12_noPlace_b34 hf) hle
set_option maxRecDepth 100000 in
theorem wX12_noPlace_b29 {E : PE} {p : Program} {l : Launch} {e : Env} {s : State} {m : MethodId} {args : Array Value} {below : List Frame} {meth : Method} {c : Code} (X : Cx E p l e (rmv 2 0 0) s m args below meth c RX12 cX12_noPlace 3 (some .boolean)) (hG : Gs E l) (hnm : meth.name = yX12_noPlace.name)  {h : PH} {r : (Int32 × PH)} (hf : fX12_noPlace_b29  h = some r)  : PW E p l e (rmv 2 0 0) s m args below meth c 3 0 0 (MQ below (QG E (fun v u => v = some (.int r.1) ∧ u = r.2)) args s 0 0 (pA E)) h 29 [] [] := by
  unfold fX12_noPlace_b29 at hf
  refine p_iconst (v := 1) X (dcg dc_X12_noPlace 17 rfl) (by decide) ?_
  refine p_goto (tgt := 34) X (dcg dc_X12_noPlace 18 rfl) (by decide) ?_
  refine p_pick [] ?_
  exact wX12_noPlace_b34 X hG hnm hf 
noncomputable def fX12_noPlace (v0 : Nat) (v1 : Int32) (v2 : Int32) (h : PH) : Option (Int32 × PH) :=
  gd (hK h v0 = 12) (bd (fX12_noText v0 v1 h) (fun z2 =>
  if (¬ z2.1 = 0) then (fX12_noPlace_b29  z2.2) else
  gd (hK z2.2 v0 = 12) (gs (hR z2.2 12 v0 6) (fun a5 =>
  gd (hK z2.2 a5 = 20 ∧ inb v1 (hN z2.2 a5)) (bd (fX12_in v2 (0 : Int32) ((hI z2.2 20 a5 (Int32.toNatClampNeg v1)) - (1 : Int32))) (fun z9 =>
  bd (fX12_fails v0 z9 (1 : Int32) z2.2) (fun z10 =>
  if (z10.1 = 0) then (fX12_noPlace_b34 (0 : Int32) z10.2) else
  fX12_noPlace_b29  z10.2)))))))
set_option maxRecDepth 100000 in
theorem mX12_noPlace {v0 : Nat} {v1 : Int32} {v2 : Int32} {h : PH} {r : (Int32 × PH)} (hf : fX12_noPlace v0 v1 v2 h = some r) : eqz h (hX r.2) (hV r.2) := by
  unfold fX12_noPlace at hf
  have hle := eqz_rf h
  obtain ⟨hk1, hf⟩ := gd_some hf
  obtain ⟨z2, hz2, hf⟩ := bd_some hf
  have hle := eqz_rt (mX12_noText hz2) hle
  rcases ite_or hf with ⟨q, hf⟩ | ⟨q, hf⟩
  · have hf := if_t q hf
    exact eqz_rt (mX12_noPlace_b29 hf) hle
  · have hf := if_f q hf
    obtain ⟨hk4, hf⟩ := gd_some hf
    obtain ⟨a5, e6, hf⟩ := gs_some hf
    obtain ⟨⟨hk8, hb7⟩, hf⟩ := gd_some hf
    obtain ⟨z9, hz9, hf⟩ := bd_some hf
    obtain ⟨z10, hz10, hf⟩ := bd_some hf
    have hle := eqz_rt (mX12_fails hz10) hle
    rcases ite_or hf with ⟨q, hf⟩ | ⟨q, hf⟩
    · have hf := if_t q hf
      exact eqz_rt (mX12_noPlace_b34 hf) hle
    · have hf := if_f q hf
      exact eqz_rt (mX12_noPlace_b29 hf) hle
set_option maxRecDepth 100000 in
theorem wX12_noPlace {E : PE} {l : Launch} (hG : Gs E l) {v0 : Nat} {v1 : Int32} {v2 : Int32} {h : PH} {r : (Int32 × PH)} (hf : fX12_noPlace v0 v1 v2 h = some r) : Ct E l 2 0 0 yX12_noPlace cX12_noPlace 3 (some .boolean) [.ref v0, .int v1, .int v2] h (fun v u => v = some (.int r.1) ∧ u = r.2) := by
  refine ct_of hG (by decide) (Nat.le_of_ble_eq_true rfl) ?_
  intro p e s m args below meth c X hnm
  show PW E p l e _ s m args below meth c _ 0 0 _ h 0 [(0, some (.ref v0)), (1, some (.int v1)), (2, some (.int v2))] []
  unfold fX12_noPlace at hf
  refine p_aload_n X (dcg dc_X12_noPlace 0 rfl) rfl rfl ?_
  refine p_iload_n X (dcg dc_X12_noPlace 1 rfl) rfl rfl ?_
  obtain ⟨hk1, hf⟩ := gd_some hf
  obtain ⟨z2, hz2, hf⟩ := bd_some hf
  refine p_callV (As := [_]) X ml_X12_212 (dcg dc_X12_noPlace 2 rfl) rfl rfl hk1 (wX12_noText hG hz2) (by decide) (room4 (Nat.le_of_ble_eq_true rfl)) (Nat.le_refl _) (Nat.le_refl _) ?_
  rintro _ u9 ⟨rfl, e9⟩; have e9 := e9.symm; subst e9
  refine p_if_ne (tgt := 29) X (dcg dc_X12_noPlace 3 rfl) (by decide) (fun q => ?_) (fun q => ?_)
  · have hf := if_t q hf
    refine p_pick [] ?_
    exact wX12_noPlace_b29 X hG hnm hf 
  · have hf := if_f q hf
    refine p_aload_n X (dcg dc_X12_noPlace 4 rfl) rfl rfl ?_
    refine p_iload_n X (dcg dc_X12_noPlace 5 rfl) rfl rfl ?_
    refine p_iconst (v := 0) X (dcg dc_X12_noPlace 6 rfl) (by decide) ?_
    refine p_aload_n X (dcg dc_X12_noPlace 7 rfl) rfl rfl ?_
    obtain ⟨hk4, hf⟩ := gd_some hf
    refine p_getR X fl_X12_27 rfl (by decide) (dcg dc_X12_noPlace 8 rfl) hk4 ?_
    refine p_iload_n X (dcg dc_X12_noPlace 9 rfl) rfl rfl ?_
    obtain ⟨a5, e6, hf⟩ := gs_some hf
    first | subst e6 | (try rw [e6])
    obtain ⟨⟨hk8, hb7⟩, hf⟩ := gd_some hf
    refine p_iald X (dcg dc_X12_noPlace 10 rfl) hk8 (vp_of_inb hb7) ?_
    refine p_iconst (v := 1) X (dcg dc_X12_noPlace 11 rfl) (by decide) ?_
    refine p_isub X (dcg dc_X12_noPlace 12 rfl) ?_
    obtain ⟨z9, hz9, hf⟩ := bd_some hf
    refine p_callS (As := [_, _, _]) X ml_X12_148 (dcg dc_X12_noPlace 13 rfl) rfl rfl  (wX12_in hG hz9) (by decide) (room4 (Nat.le_of_ble_eq_true rfl)) (Nat.le_refl _) (Nat.le_refl _) ?_
    rintro _ u9 ⟨rfl, e9⟩; have e9 := e9.symm; subst e9
    refine p_iconst (v := 1) X (dcg dc_X12_noPlace 14 rfl) (by decide) ?_
    obtain ⟨z10, hz10, hf⟩ := bd_some hf
    refine p_callV (As := [_, _]) X ml_X12_156 (dcg dc_X12_noPlace 15 rfl) rfl rfl hk4 (wX12_fails hG hz10) (by decide) (room4 (Nat.le_of_ble_eq_true rfl)) (Nat.le_refl _) (Nat.le_refl _) ?_
    rintro _ u9 ⟨rfl, e9⟩; have e9 := e9.symm; subst e9
    refine p_if_eq (tgt := 33) X (dcg dc_X12_noPlace 16 rfl) (by decide) (fun q => ?_) (fun q => ?_)
    · have hf := if_t q hf
      refine p_iconst (v := 0) X (dcg dc_X12_noPlace 19 rfl) (by decide) ?_
      refine p_pick [] ?_
      exact wX12_noPlace_b34 X hG hnm hf 
    · have hf := if_f q hf
      refine p_pick [] ?_
      exact wX12_noPlace_b29 X hG hnm hf 
theorem dc_X12_takeWord : decs cX12_takeWord [(0, .aload_n 0, 1), (1, .iconst 0, 1), (2, .putfield 1, 3), (5, .aload_n 0, 1), (6, .iload_n 1, 1), (7, .iload_n 2, 1), (8, .invokevirtual 215, 3), (11, .ifCond .eq 5, 3), (14, .iconst 0, 1), (15, .ireturn, 1), (16, .aload_n 0, 1), (17, .iload_n 1, 1), (18, .iload_n 2, 1), (19, .invokevirtual 186, 3), (22, .istore_n 3, 1), (23, .aload_n 0, 1), (24, .iload_n 1, 1), (25, .invokevirtual 203, 3), (28, .aload_n 0, 1), (29, .getfield 27, 3), (32, .iload_n 1, 1), (33, .dup2, 1), (34, .iaload, 1), (35, .iconst 1, 1), (36, .isub, 1), (37, .iastore, 1), (38, .iload_n 2, 1), (39, .istore 4, 2), (41, .iload 4, 2), (43, .aload_n 0, 1), (44, .getfield 27, 3), (47, .iload_n 1, 1), (48, .iaload, 1), (49, .if_icmp .ge 35, 3), (52, .aload_n 0, 1), (53, .getfield 24, 3), (56, .bipush 40, 2), (58, .iload_n 1, 1), (59, .imul, 1), (60, .iload 4, 2), (62, .iadd, 1), (63, .aload_n 0, 1), (64, .getfield 24, 3), (67, .bipush 40, 2), (69, .iload_n 1, 1), (70, .imul, 1), (71, .iload 4, 2), (73, .iadd, 1), (74, .iconst 1, 1), (75, .iadd, 1), (76, .iaload, 1), (77, .iastore, 1), (78, .iinc 4 1, 3), (81, .goto (-40), 3), (84, .aload_n 0, 1), (85, .iload_n 1, 1), (86, .invokevirtual 209, 3), (89, .iload_n 3, 1), (90, .ireturn, 1)] = true := by decide +kernel
noncomputable def fX12_takeWord_c41 (v0 : Nat) (v1 : Int32) (v3 : Int32) (v4 : Int32) (h : PH) : Option ((Int32 × PH) ⊕ (Int32 × PH)) :=
  gd (hK h v0 = 12) (gs (hR h 12 v0 6) (fun a15 =>
  gd (hK h a15 = 20 ∧ inb v1 (hN h a15)) (if ((hI h 20 a15 (Int32.toNatClampNeg v1)) ≤ v4) then (mr (bd (fX12_tells v0 v1 h) (fun z21 =>
  some ((v3, z21))))) else
  gs (hR h 12 v0 5) (fun a22 =>
  gd (hK h a22 = 20 ∧ inb ((((40 : Int32) * v1) + v4) + (1 : Int32)) (hN h a22)) (gd (inb (((40 : Int32) * v1) + v4) (hN h a22)) (lt (sI h 20 a22 (Int32.toNatClampNeg (((40 : Int32) * v1) + v4)) (hI h 20 a22 (Int32.toNatClampNeg ((((40 : Int32) * v1) + v4) + (1 : Int32))))) (fun h27 =>
  some (.inl ((v4 + 1), h27)))))))))
set_option maxRecDepth 100000 in
theorem mX12_takeWord_c41 {v0 : Nat} {v1 : Int32} {v3 : Int32} {v4 : Int32} {h : PH} {x : ((Int32 × PH) ⊕ (Int32 × PH))} (hf : fX12_takeWord_c41 v0 v1 v3 v4 h = some x) : (∀ w9 : (Int32 × PH), x = .inl w9 → eqz h (hX (w9.2)) (hV (w9.2))) ∧ (∀ w9 : (Int32 × PH), x = .inr w9 → eqz h (hX w9.2) (hV w9.2)) := by
  unfold fX12_takeWord_c41 at hf
  have hle := eqz_rf h
  obtain ⟨hk14, hf⟩ := gd_some hf
  obtain ⟨a15, e16, hf⟩ := gs_some hf
  obtain ⟨⟨hk18, hb17⟩, hf⟩ := gd_some hf
  rcases ite_or hf with ⟨q, hf⟩ | ⟨q, hf⟩
  · have hf := if_t q hf
    obtain ⟨y19, hfm, rfl⟩ := mr_some hf; have hf := hfm; clear hfm
    obtain ⟨z21, hz21, hf⟩ := bd_some hf
    have hle := eqz_rt (mX12_tells hz21) hle
    have ee := Option.some.inj hf; subst ee
    exact ⟨(fun z e => nomatch e), (fun z e => by have ee := Sum.inr.inj (e); subst ee; exact hle)⟩
  · have hf := if_f q hf
    obtain ⟨a22, e23, hf⟩ := gs_some hf
    obtain ⟨⟨hk25, hb24⟩, hf⟩ := gd_some hf
    obtain ⟨hb26, hf⟩ := gd_some hf
    obtain ⟨h27, rfl, hf⟩ := lt_some hf
    have ee := Option.some.inj hf; subst ee
    exact ⟨(fun z e => by have ee := Sum.inl.inj (e); subst ee; exact hle), (fun z e => nomatch e)⟩
set_option maxRecDepth 100000 in
theorem wX12_takeWord_c41 {E : PE} {p : Program} {l : Launch} {e : Env} {s : State} {m : MethodId} {args : Array Value} {below : List Frame} {meth : Method} {c : Code} (X : Cx E p l e (rmv 6 0 0) s m args below meth c RX12 cX12_takeWord 5 (some .int)) (hG : Gs E l) (hnm : meth.name = yX12_takeWord.name) {v0 : Nat} {v1 : Int32} {v3 : Int32} {v4 : Int32} {h : PH} {r : (Int32 × PH)} {x : ((Int32 × PH) ⊕ (Int32 × PH))} (hf : fX12_takeWord_c41 v0 v1 v3 v4 h = some x) (k0 : ∀ z : (Int32 × PH), x = .inl z → PW E p l e (rmv 6 0 0) s m args below meth c 5 0 0 (MQ below (QG E (fun v u => v = some (.int r.1) ∧ u = r.2)) args s 0 0 (pA E)) (z.2) 41 [(0, some (.ref v0)), (1, some (.int v1)), (3, some (.int v3)), (4, some (.int (z.1)))] []) (kf : ∀ z : (Int32 × PH), x = .inr z → z = r) : PW E p l e (rmv 6 0 0) s m args below meth c 5 0 0 (MQ below (QG E (fun v u => v = some (.int r.1) ∧ u = r.2)) args s 0 0 (pA E)) h 41 [(0, some (.ref v0)), (1, some (.int v1)), (3, some (.int v3)), (4, some (.int v4))] [] := by
  unfold fX12_takeWord_c41 at hf
  refine p_iload X (dcg dc_X12_takeWord 28 rfl) rfl ?_
  refine p_aload_n X (dcg dc_X12_takeWord 29 rfl) rfl rfl ?_
  obtain ⟨hk14, hf⟩ := gd_some hf
  refine p_getR X fl_X12_27 rfl (by decide) (dcg dc_X12_takeWord 30 rfl) hk14 ?_
  refine p_iload_n X (dcg dc_X12_takeWord 31 rfl) rfl rfl ?_
  obtain ⟨a15, e16, hf⟩ := gs_some hf
  first | subst e16 | (try rw [e16])
  obtain ⟨⟨hk18, hb17⟩, hf⟩ := gd_some hf
  refine p_iald X (dcg dc_X12_takeWord 32 rfl) hk18 (vp_of_inb hb17) ?_
  refine p_icmp_ge (tgt := 84) X (dcg dc_X12_takeWord 33 rfl) (by decide) (fun q => ?_) (fun q => ?_)
  · have hf := if_t q hf
    obtain ⟨y19, hf, hy20⟩ := mr_some hf
    have hy20f := kf y19 hy20
    subst hy20f
    refine p_aload_n X (dcg dc_X12_takeWord 54 rfl) rfl rfl ?_
    refine p_iload_n X (dcg dc_X12_takeWord 55 rfl) rfl rfl ?_
    obtain ⟨z21, hz21, hf⟩ := bd_some hf
    refine p_callV (As := [_]) X ml_X12_209 (dcg dc_X12_takeWord 56 rfl) rfl rfl hk14 (wX12_tells hG hz21) (by decide) (room4 (Nat.le_of_ble_eq_true rfl)) (Nat.le_refl _) (Nat.le_refl _) ?_
    rintro _ u9 ⟨rfl, e9⟩; have e9 := e9.symm; subst e9
    refine p_iload_n X (dcg dc_X12_takeWord 57 rfl) rfl rfl ?_
    have er := Option.some.inj hf
    subst er
    exact p_iret X rfl (dcg dc_X12_takeWord 58 rfl) ⟨rfl, rfl⟩ (Nat.le_refl _) (Nat.le_refl _)
  · have hf := if_f q hf
    refine p_aload_n X (dcg dc_X12_takeWord 34 rfl) rfl rfl ?_
    refine p_getR X fl_X12_24 rfl (by decide) (dcg dc_X12_takeWord 35 rfl) hk14 ?_
    refine p_bipush (v := 40) X (dcg dc_X12_takeWord 36 rfl) (by decide) ?_
    refine p_iload_n X (dcg dc_X12_takeWord 37 rfl) rfl rfl ?_
    refine p_imul X (dcg dc_X12_takeWord 38 rfl) ?_
    refine p_iload X (dcg dc_X12_takeWord 39 rfl) rfl ?_
    refine p_iadd X (dcg dc_X12_takeWord 40 rfl) ?_
    refine p_aload_n X (dcg dc_X12_takeWord 41 rfl) rfl rfl ?_
    refine p_getR X fl_X12_24 rfl (by decide) (dcg dc_X12_takeWord 42 rfl) hk14 ?_
    refine p_bipush (v := 40) X (dcg dc_X12_takeWord 43 rfl) (by decide) ?_
    refine p_iload_n X (dcg dc_X12_takeWord 44 rfl) rfl rfl ?_
    refine p_imul X (dcg dc_X12_takeWord 45 rfl) ?_
    refine p_iload X (dcg dc_X12_takeWord 46 rfl) rfl ?_
    refine p_iadd X (dcg dc_X12_takeWord 47 rfl) ?_
    refine p_iconst (v := 1) X (dcg dc_X12_takeWord 48 rfl) (by decide) ?_
    refine p_iadd X (dcg dc_X12_takeWord 49 rfl) ?_
    obtain ⟨a22, e23, hf⟩ := gs_some hf
    first | subst e23 | (try rw [e23])
    obtain ⟨⟨hk25, hb24⟩, hf⟩ := gd_some hf
    refine p_iald X (dcg dc_X12_takeWord 50 rfl) hk25 (vp_of_inb hb24) ?_
    obtain ⟨hb26, hf⟩ := gd_some hf
    refine p_iast X (dcg dc_X12_takeWord 51 rfl) hk25 (vp_of_inb hb26) ?_
    obtain ⟨h27, rfl, hf⟩ := lt_some hf
    refine p_iinc (v := 1) X (dcg dc_X12_takeWord 52 rfl) rfl (by decide) (by decide) rfl ?_
    refine p_goto (tgt := 41) X (dcg dc_X12_takeWord 53 rfl) (by decide) ?_
    refine p_pick [0, 1, 3, 4] ?_
    exact k0 _ (Option.some.inj hf).symm
noncomputable def fX12_takeWord_l41 (v0 : Nat) (v1 : Int32) (v3 : Int32) (v4 : Int32) (h : PH) : Option (Int32 × PH) := wh (fun z : (Int32 × PH) => fX12_takeWord_c41 v0 v1 v3 (z.1) (z.2)) (v4, h)
set_option maxRecDepth 100000 in
theorem mX12_takeWord_l41 {v0 : Nat} {v1 : Int32} {v3 : Int32} {v4 : Int32} {h : PH} {r : (Int32 × PH)} (hf : fX12_takeWord_l41 v0 v1 v3 v4 h = some r) : eqz h (hX r.2) (hV r.2) := by
  unfold fX12_takeWord_l41 at hf
  refine wh_ind (P := fun z => eqz (z.2) (hX r.2) (hV r.2)) (fun z x0 hs i1 i2 => ?_) _ hf
  obtain ⟨c0, cf⟩ := mX12_takeWord_c41 (v0 := v0) (v1 := v1) (v3 := v3) (v4 := z.1) (h := z.2) hs
  rcases hxx : x0 with zz | zz
  · exact eqz_tr (c0 zz hxx) (i1 zz hxx)
  · have ee := i2 zz hxx; subst ee; exact cf zz hxx
set_option maxRecDepth 100000 in
theorem wX12_takeWord_l41 {E : PE} {p : Program} {l : Launch} {e : Env} {s : State} {m : MethodId} {args : Array Value} {below : List Frame} {meth : Method} {c : Code} (X : Cx E p l e (rmv 6 0 0) s m args below meth c RX12 cX12_takeWord 5 (some .int)) (hG : Gs E l) (hnm : meth.name = yX12_takeWord.name) {v0 : Nat} {v1 : Int32} {v3 : Int32} {v4 : Int32} {h : PH} {r : (Int32 × PH)} (hf : fX12_takeWord_l41 v0 v1 v3 v4 h = some r)  : PW E p l e (rmv 6 0 0) s m args below meth c 5 0 0 (MQ below (QG E (fun v u => v = some (.int r.1) ∧ u = r.2)) args s 0 0 (pA E)) h 41 [(0, some (.ref v0)), (1, some (.int v1)), (3, some (.int v3)), (4, some (.int v4))] [] := by
  unfold fX12_takeWord_l41 at hf
  refine wh_ind (P := fun z => PW E p l e (rmv 6 0 0) s m args below meth c 5 0 0 (MQ below (QG E (fun v u => v = some (.int r.1) ∧ u = r.2)) args s 0 0 (pA E)) (z.2) 41 [(0, some (.ref v0)), (1, some (.int v1)), (3, some (.int v3)), (4, some (.int (z.1)))] []) (fun z x0 hs i1 i2 => ?_) _ hf
  exact wX12_takeWord_c41 (r := r) (v0 := v0) (v1 := v1) (v3 := v3) (v4 := z.1) (h := z.2) X hG hnm hs i1  i2
noncomputable def fX12_takeWord (v0 : Nat) (v1 : Int32) (v2 : Int32) (h : PH) : Option (Int32 × PH) :=
  gd (hK h v0 = 12) (lt (sI h 12 v0 0 (0 : Int32)) (fun h2 =>
  bd (fX12_noPlace v0 v1 v2 h2) (fun z3 =>
  if (z3.1 = 0) then (gd (hK z3.2 v0 = 12) (bd (fX12_wordIn v0 v1 v2 z3.2) (fun z5 =>
  bd (fX12_begins v0 v1 z3.2) (fun z6 =>
  gd (hK z6 v0 = 12) (gs (hR z6 12 v0 6) (fun a8 =>
  gd (hK z6 a8 = 20 ∧ inb v1 (hN z6 a8)) (gd (inb v1 (hN z6 a8)) (lt (sI z6 20 a8 (Int32.toNatClampNeg v1) ((hI z6 20 a8 (Int32.toNatClampNeg v1)) - (1 : Int32))) (fun h13 =>
  fX12_takeWord_l41 v0 v1 z5 v2 h13))))))))) else
  some (((0 : Int32), z3.2)))))
set_option maxRecDepth 100000 in
theorem mX12_takeWord {v0 : Nat} {v1 : Int32} {v2 : Int32} {h : PH} {r : (Int32 × PH)} (hf : fX12_takeWord v0 v1 v2 h = some r) : eqz h (hX r.2) (hV r.2) := by
  unfold fX12_takeWord at hf
  have hle := eqz_rf h
  obtain ⟨hk1, hf⟩ := gd_some hf
  obtain ⟨h2, rfl, hf⟩ := lt_some hf
  obtain ⟨z3, hz3, hf⟩ := bd_some hf
  have hle := eqz_rt (mX12_noPlace hz3) hle
  rcases ite_or hf with ⟨q, hf⟩ | ⟨q, hf⟩
  · have hf := if_t q hf
    obtain ⟨hk4, hf⟩ := gd_some hf
    obtain ⟨z5, hz5, hf⟩ := bd_some hf
    obtain ⟨z6, hz6, hf⟩ := bd_some hf
    have hle := eqz_rt (mX12_begins hz6) hle
    obtain ⟨hk7, hf⟩ := gd_some hf
    obtain ⟨a8, e9, hf⟩ := gs_some hf
    obtain ⟨⟨hk11, hb10⟩, hf⟩ := gd_some hf
    obtain ⟨hb12, hf⟩ := gd_some hf
    obtain ⟨h13, rfl, hf⟩ := lt_some hf
    exact eqz_rt (mX12_takeWord_l41 hf) hle
  · have hf := if_f q hf
    have ee := Option.some.inj hf; subst ee; exact hle
set_option maxRecDepth 100000 in
theorem wX12_takeWord {E : PE} {l : Launch} (hG : Gs E l) {v0 : Nat} {v1 : Int32} {v2 : Int32} {h : PH} {r : (Int32 × PH)} (hf : fX12_takeWord v0 v1 v2 h = some r) : Ct E l 6 0 0 yX12_takeWord cX12_takeWord 5 (some .int) [.ref v0, .int v1, .int v2] h (fun v u => v = some (.int r.1) ∧ u = r.2) := by
  refine ct_of hG (by decide) (Nat.le_of_ble_eq_true rfl) ?_
  intro p e s m args below meth c X hnm
  show PW E p l e _ s m args below meth c _ 0 0 _ h 0 [(0, some (.ref v0)), (1, some (.int v1)), (2, some (.int v2))] []
  unfold fX12_takeWord at hf
  refine p_aload_n X (dcg dc_X12_takeWord 0 rfl) rfl rfl ?_
  refine p_iconst (v := 0) X (dcg dc_X12_takeWord 1 rfl) (by decide) ?_
  obtain ⟨hk1, hf⟩ := gd_some hf
  refine p_putI X fl_X12_1 rfl (by decide) (fun q hq => by cases hq; rfl) rfl rfl (dcg dc_X12_takeWord 2 rfl) hk1 ?_
  obtain ⟨h2, rfl, hf⟩ := lt_some hf
  refine p_aload_n X (dcg dc_X12_takeWord 3 rfl) rfl rfl ?_
  refine p_iload_n X (dcg dc_X12_takeWord 4 rfl) rfl rfl ?_
  refine p_iload_n X (dcg dc_X12_takeWord 5 rfl) rfl rfl ?_
  obtain ⟨z3, hz3, hf⟩ := bd_some hf
  refine p_callV (As := [_, _]) X ml_X12_215 (dcg dc_X12_takeWord 6 rfl) rfl rfl hk1 (wX12_noPlace hG hz3) (by decide) (room4 (Nat.le_of_ble_eq_true rfl)) (Nat.le_refl _) (Nat.le_refl _) ?_
  rintro _ u9 ⟨rfl, e9⟩; have e9 := e9.symm; subst e9
  refine p_if_eq (tgt := 16) X (dcg dc_X12_takeWord 7 rfl) (by decide) (fun q => ?_) (fun q => ?_)
  · have hf := if_t q hf
    refine p_aload_n X (dcg dc_X12_takeWord 10 rfl) rfl rfl ?_
    refine p_iload_n X (dcg dc_X12_takeWord 11 rfl) rfl rfl ?_
    refine p_iload_n X (dcg dc_X12_takeWord 12 rfl) rfl rfl ?_
    obtain ⟨hk4, hf⟩ := gd_some hf
    obtain ⟨z5, hz5, hf⟩ := bd_some hf
    refine p_callV (As := [_, _]) X ml_X12_186 (dcg dc_X12_takeWord 13 rfl) rfl rfl hk4 (wX12_wordIn hG hz5) (by decide) (room4 (Nat.le_of_ble_eq_true rfl)) (Nat.le_refl _) (Nat.le_refl _) ?_
    rintro _ u9 ⟨rfl, e9⟩; have e9 := e9.symm; subst e9
    refine p_istore_n X (dcg dc_X12_takeWord 14 rfl) rfl (by decide) rfl ?_
    refine p_aload_n X (dcg dc_X12_takeWord 15 rfl) rfl rfl ?_
    refine p_iload_n X (dcg dc_X12_takeWord 16 rfl) rfl rfl ?_
    obtain ⟨z6, hz6, hf⟩ := bd_some hf
    refine p_callV (As := [_]) X ml_X12_203 (dcg dc_X12_takeWord 17 rfl) rfl rfl hk4 (wX12_begins hG hz6) (by decide) (room4 (Nat.le_of_ble_eq_true rfl)) (Nat.le_refl _) (Nat.le_refl _) ?_
    rintro _ u9 ⟨rfl, e9⟩; have e9 := e9.symm; subst e9
    refine p_aload_n X (dcg dc_X12_takeWord 18 rfl) rfl rfl ?_
    obtain ⟨hk7, hf⟩ := gd_some hf
    refine p_getR X fl_X12_27 rfl (by decide) (dcg dc_X12_takeWord 19 rfl) hk7 ?_
    refine p_iload_n X (dcg dc_X12_takeWord 20 rfl) rfl rfl ?_
    refine p_dup2 X (dcg dc_X12_takeWord 21 rfl) rfl (cat_rf _) ?_
    obtain ⟨a8, e9, hf⟩ := gs_some hf
    first | subst e9 | (try rw [e9])
    obtain ⟨⟨hk11, hb10⟩, hf⟩ := gd_some hf
    refine p_iald X (dcg dc_X12_takeWord 22 rfl) hk11 (vp_of_inb hb10) ?_
    refine p_iconst (v := 1) X (dcg dc_X12_takeWord 23 rfl) (by decide) ?_
    refine p_isub X (dcg dc_X12_takeWord 24 rfl) ?_
    obtain ⟨hb12, hf⟩ := gd_some hf
    refine p_iast X (dcg dc_X12_takeWord 25 rfl) hk11 (vp_of_inb hb12) ?_
    obtain ⟨h13, rfl, hf⟩ := lt_some hf
    refine p_iload_n X (dcg dc_X12_takeWord 26 rfl) rfl rfl ?_
    refine p_istore X (dcg dc_X12_takeWord 27 rfl) (by decide) rfl ?_
    refine p_pick [0, 1, 3, 4] ?_
    exact wX12_takeWord_l41 X hG hnm hf 
  · have hf := if_f q hf
    refine p_iconst (v := 0) X (dcg dc_X12_takeWord 8 rfl) (by decide) ?_
    have er := Option.some.inj hf
    subst er
    exact p_iret X rfl (dcg dc_X12_takeWord 9 rfl) ⟨rfl, rfl⟩ (Nat.le_refl _) (Nat.le_refl _)
theorem dc_X12_setWord : decs cX12_setWord [(0, .aload_n 0, 1), (1, .iconst 0, 1), (2, .putfield 1, 3), (5, .aload_n 0, 1), (6, .iload_n 1, 1), (7, .iload_n 2, 1), (8, .invokevirtual 215, 3), (11, .ifCond .ne 15, 3), (14, .aload_n 0, 1), (15, .iload_n 3, 1), (16, .invokestatic 152, 3), (19, .iconst 2, 1), (20, .invokevirtual 156, 3), (23, .ifCond .eq 5, 3), (26, .iconst 0, 1), (27, .ireturn, 1), (28, .aload_n 0, 1), (29, .iload_n 1, 1), (30, .iload_n 2, 1), (31, .invokevirtual 186, 3), (34, .istore 4, 2), (36, .aload_n 0, 1), (37, .iload_n 1, 1), (38, .invokevirtual 203, 3), (41, .aload_n 0, 1), (42, .getfield 24, 3), (45, .bipush 40, 2), (47, .iload_n 1, 1), (48, .imul, 1), (49, .iload_n 2, 1), (50, .iadd, 1), (51, .iload_n 3, 1), (52, .iastore, 1), (53, .aload_n 0, 1), (54, .iload_n 1, 1), (55, .invokevirtual 209, 3), (58, .iload 4, 2), (60, .ireturn, 1)] = true := by decide +kernel
noncomputable def fX12_setWord_b26  (h : PH) : Option (Int32 × PH) :=
  some (((0 : Int32), h))
set_option maxRecDepth 100000 in
theorem mX12_setWord_b26  {h : PH} {r : (Int32 × PH)} (hf : fX12_setWord_b26  h = some r) : eqz h (hX r.2) (hV r.2) := by
  unfold fX12_setWord_b26 at hf
  have hle := eqz_rf h
  have ee := Option.some.inj hf; subst ee; exact hle
set_option maxRecDepth 100000 in
theorem wX12_setWord_b26 {E : PE} {p : Program} {l : Launch} {e : Env} {s : State} {m : MethodId} {args : Array Value} {below : List Frame} {meth : Method} {c : Code} (X : Cx E p l e (rmv 6 0 0) s m args below meth c RX12 cX12_setWord 5 (some .int)) (hG : Gs E l) (hnm : meth.name = yX12_setWord.name)  {h : PH} {r : (Int32 × PH)} (hf : fX12_setWord_b26  h = some r)  : PW E p l e (rmv 6 0 0) s m args below meth c 5 0 0 (MQ below (QG E (fun v u => v = some (.int r.1) ∧ u = r.2)) args s 0 0 (pA E)) h 26 [] [] := by
  unfold fX12_setWord_b26 at hf
  refine p_iconst (v := 0) X (dcg dc_X12_setWord 14 rfl) (by decide) ?_
  have er := Option.some.inj hf
  subst er
  exact p_iret X rfl (dcg dc_X12_setWord 15 rfl) ⟨rfl, rfl⟩ (Nat.le_refl _) (Nat.le_refl _)
noncomputable def fX12_setWord (v0 : Nat) (v1 : Int32) (v2 : Int32) (v3 : Int32) (h : PH) : Option (Int32 × PH) :=
  gd (hK h v0 = 12) (lt (sI h 12 v0 0 (0 : Int32)) (fun h2 =>
  bd (fX12_noPlace v0 v1 v2 h2) (fun z3 =>
  if (¬ z3.1 = 0) then (fX12_setWord_b26  z3.2) else
  bd (fX12_isWord v3) (fun z4 =>
  gd (hK z3.2 v0 = 12) (bd (fX12_fails v0 z4 (2 : Int32) z3.2) (fun z6 =>
  if (z6.1 = 0) then (gd (hK z6.2 v0 = 12) (bd (fX12_wordIn v0 v1 v2 z6.2) (fun z8 =>
  bd (fX12_begins v0 v1 z6.2) (fun z9 =>
  gd (hK z9 v0 = 12) (gs (hR z9 12 v0 5) (fun a11 =>
  gd (hK z9 a11 = 20 ∧ inb (((40 : Int32) * v1) + v2) (hN z9 a11)) (lt (sI z9 20 a11 (Int32.toNatClampNeg (((40 : Int32) * v1) + v2)) v3) (fun h15 =>
  bd (fX12_tells v0 v1 h15) (fun z16 =>
  some ((z8, z16))))))))))) else
  fX12_setWord_b26  z6.2))))))
set_option maxRecDepth 100000 in
theorem mX12_setWord {v0 : Nat} {v1 : Int32} {v2 : Int32} {v3 : Int32} {h : PH} {r : (Int32 × PH)} (hf : fX12_setWord v0 v1 v2 v3 h = some r) : eqz h (hX r.2) (hV r.2) := by
  unfold fX12_setWord at hf
  have hle := eqz_rf h
  obtain ⟨hk1, hf⟩ := gd_some hf
  obtain ⟨h2, rfl, hf⟩ := lt_some hf
  obtain ⟨z3, hz3, hf⟩ := bd_some hf
  have hle := eqz_rt (mX12_noPlace hz3) hle
  rcases ite_or hf with ⟨q, hf⟩ | ⟨q, hf⟩
  · have hf := if_t q hf
    exact eqz_rt (mX12_setWord_b26 hf) hle
  · have hf := if_f q hf
    obtain ⟨z4, hz4, hf⟩ := bd_some hf
    obtain ⟨hk5, hf⟩ := gd_some hf
    obtain ⟨z6, hz6, hf⟩ := bd_some hf
    have hle := eqz_rt (mX12_fails hz6) hle
    rcases ite_or hf with ⟨q, hf⟩ | ⟨q, hf⟩
    · have hf := if_t q hf
      obtain ⟨hk7, hf⟩ := gd_some hf
      obtain ⟨z8, hz8, hf⟩ := bd_some hf
      obtain ⟨z9, hz9, hf⟩ := bd_some hf
      have hle := eqz_rt (mX12_begins hz9) hle
      obtain ⟨hk10, hf⟩ := gd_some hf
      obtain ⟨a11, e12, hf⟩ := gs_some hf
      obtain ⟨⟨hk14, hb13⟩, hf⟩ := gd_some hf
      obtain ⟨h15, rfl, hf⟩ := lt_some hf
      obtain ⟨z16, hz16, hf⟩ := bd_some hf
      have hle := eqz_rt (mX12_tells hz16) hle
      have ee := Option.some.inj hf; subst ee; exact hle
    · have hf := if_f q hf
      exact eqz_rt (mX12_setWord_b26 hf) hle
set_option maxRecDepth 100000 in
theorem wX12_setWord {E : PE} {l : Launch} (hG : Gs E l) {v0 : Nat} {v1 : Int32} {v2 : Int32} {v3 : Int32} {h : PH} {r : (Int32 × PH)} (hf : fX12_setWord v0 v1 v2 v3 h = some r) : Ct E l 6 0 0 yX12_setWord cX12_setWord 5 (some .int) [.ref v0, .int v1, .int v2, .int v3] h (fun v u => v = some (.int r.1) ∧ u = r.2) := by
  refine ct_of hG (by decide) (Nat.le_of_ble_eq_true rfl) ?_
  intro p e s m args below meth c X hnm
  show PW E p l e _ s m args below meth c _ 0 0 _ h 0 [(0, some (.ref v0)), (1, some (.int v1)), (2, some (.int v2)), (3, some (.int v3))] []
  unfold fX12_setWord at hf
  refine p_aload_n X (dcg dc_X12_setWord 0 rfl) rfl rfl ?_
  refine p_iconst (v := 0) X (dcg dc_X12_setWord 1 rfl) (by decide) ?_
  obtain ⟨hk1, hf⟩ := gd_some hf
  refine p_putI X fl_X12_1 rfl (by decide) (fun q hq => by cases hq; rfl) rfl rfl (dcg dc_X12_setWord 2 rfl) hk1 ?_
  obtain ⟨h2, rfl, hf⟩ := lt_some hf
  refine p_aload_n X (dcg dc_X12_setWord 3 rfl) rfl rfl ?_
  refine p_iload_n X (dcg dc_X12_setWord 4 rfl) rfl rfl ?_
  refine p_iload_n X (dcg dc_X12_setWord 5 rfl) rfl rfl ?_
  obtain ⟨z3, hz3, hf⟩ := bd_some hf
  refine p_callV (As := [_, _]) X ml_X12_215 (dcg dc_X12_setWord 6 rfl) rfl rfl hk1 (wX12_noPlace hG hz3) (by decide) (room4 (Nat.le_of_ble_eq_true rfl)) (Nat.le_refl _) (Nat.le_refl _) ?_
  rintro _ u9 ⟨rfl, e9⟩; have e9 := e9.symm; subst e9
  refine p_if_ne (tgt := 26) X (dcg dc_X12_setWord 7 rfl) (by decide) (fun q => ?_) (fun q => ?_)
  · have hf := if_t q hf
    refine p_pick [] ?_
    exact wX12_setWord_b26 X hG hnm hf 
  · have hf := if_f q hf
    refine p_aload_n X (dcg dc_X12_setWord 8 rfl) rfl rfl ?_
    refine p_iload_n X (dcg dc_X12_setWord 9 rfl) rfl rfl ?_
    obtain ⟨z4, hz4, hf⟩ := bd_some hf
    refine p_callS (As := [_]) X ml_X12_152 (dcg dc_X12_setWord 10 rfl) rfl rfl  (wX12_isWord hG hz4) (by decide) (room4 (Nat.le_of_ble_eq_true rfl)) (Nat.le_refl _) (Nat.le_refl _) ?_
    rintro _ u9 ⟨rfl, e9⟩; have e9 := e9.symm; subst e9
    refine p_iconst (v := 2) X (dcg dc_X12_setWord 11 rfl) (by decide) ?_
    obtain ⟨hk5, hf⟩ := gd_some hf
    obtain ⟨z6, hz6, hf⟩ := bd_some hf
    refine p_callV (As := [_, _]) X ml_X12_156 (dcg dc_X12_setWord 12 rfl) rfl rfl hk5 (wX12_fails hG hz6) (by decide) (room4 (Nat.le_of_ble_eq_true rfl)) (Nat.le_refl _) (Nat.le_refl _) ?_
    rintro _ u9 ⟨rfl, e9⟩; have e9 := e9.symm; subst e9
    refine p_if_eq (tgt := 28) X (dcg dc_X12_setWord 13 rfl) (by decide) (fun q => ?_) (fun q => ?_)
    · have hf := if_t q hf
      refine p_aload_n X (dcg dc_X12_setWord 16 rfl) rfl rfl ?_
      refine p_iload_n X (dcg dc_X12_setWord 17 rfl) rfl rfl ?_
      refine p_iload_n X (dcg dc_X12_setWord 18 rfl) rfl rfl ?_
      obtain ⟨hk7, hf⟩ := gd_some hf
      obtain ⟨z8, hz8, hf⟩ := bd_some hf
      refine p_callV (As := [_, _]) X ml_X12_186 (dcg dc_X12_setWord 19 rfl) rfl rfl hk7 (wX12_wordIn hG hz8) (by decide) (room4 (Nat.le_of_ble_eq_true rfl)) (Nat.le_refl _) (Nat.le_refl _) ?_
      rintro _ u9 ⟨rfl, e9⟩; have e9 := e9.symm; subst e9
      refine p_istore X (dcg dc_X12_setWord 20 rfl) (by decide) rfl ?_
      refine p_aload_n X (dcg dc_X12_setWord 21 rfl) rfl rfl ?_
      refine p_iload_n X (dcg dc_X12_setWord 22 rfl) rfl rfl ?_
      obtain ⟨z9, hz9, hf⟩ := bd_some hf
      refine p_callV (As := [_]) X ml_X12_203 (dcg dc_X12_setWord 23 rfl) rfl rfl hk7 (wX12_begins hG hz9) (by decide) (room4 (Nat.le_of_ble_eq_true rfl)) (Nat.le_refl _) (Nat.le_refl _) ?_
      rintro _ u9 ⟨rfl, e9⟩; have e9 := e9.symm; subst e9
      refine p_aload_n X (dcg dc_X12_setWord 24 rfl) rfl rfl ?_
      obtain ⟨hk10, hf⟩ := gd_some hf
      refine p_getR X fl_X12_24 rfl (by decide) (dcg dc_X12_setWord 25 rfl) hk10 ?_
      refine p_bipush (v := 40) X (dcg dc_X12_setWord 26 rfl) (by decide) ?_
      refine p_iload_n X (dcg dc_X12_setWord 27 rfl) rfl rfl ?_
      refine p_imul X (dcg dc_X12_setWord 28 rfl) ?_
      refine p_iload_n X (dcg dc_X12_setWord 29 rfl) rfl rfl ?_
      refine p_iadd X (dcg dc_X12_setWord 30 rfl) ?_
      refine p_iload_n X (dcg dc_X12_setWord 31 rfl) rfl rfl ?_
      obtain ⟨a11, e12, hf⟩ := gs_some hf
      first | subst e12 | (try rw [e12])
      obtain ⟨⟨hk14, hb13⟩, hf⟩ := gd_some hf
      refine p_iast X (dcg dc_X12_setWord 32 rfl) hk14 (vp_of_inb hb13) ?_
      obtain ⟨h15, rfl, hf⟩ := lt_some hf
      refine p_aload_n X (dcg dc_X12_setWord 33 rfl) rfl rfl ?_
      refine p_iload_n X (dcg dc_X12_setWord 34 rfl) rfl rfl ?_
      obtain ⟨z16, hz16, hf⟩ := bd_some hf
      refine p_callV (As := [_]) X ml_X12_209 (dcg dc_X12_setWord 35 rfl) rfl rfl hk10 (wX12_tells hG hz16) (by decide) (room4 (Nat.le_of_ble_eq_true rfl)) (Nat.le_refl _) (Nat.le_refl _) ?_
      rintro _ u9 ⟨rfl, e9⟩; have e9 := e9.symm; subst e9
      refine p_iload X (dcg dc_X12_setWord 36 rfl) rfl ?_
      have er := Option.some.inj hf
      subst er
      exact p_iret X rfl (dcg dc_X12_setWord 37 rfl) ⟨rfl, rfl⟩ (Nat.le_refl _) (Nat.le_refl _)
    · have hf := if_f q hf
      refine p_pick [] ?_
      exact wX12_setWord_b26 X hG hnm hf 
theorem dc_X12_undo : decs cX12_undo [(0, .aload_n 0, 1), (1, .iconst 0, 1), (2, .putfield 1, 3), (5, .aload_n 0, 1), (6, .getfield 183, 3), (9, .ifCond .ne 5, 3), (12, .iconst (-1), 1), (13, .ireturn, 1), (14, .aload_n 0, 1), (15, .dup, 1), (16, .getfield 183, 3), (19, .iconst 1, 1), (20, .isub, 1), (21, .putfield 183, 3), (24, .aload_n 0, 1), (25, .getfield 33, 3), (28, .aload_n 0, 1), (29, .getfield 183, 3), (32, .iaload, 1), (33, .istore_n 1, 1), (34, .aload_n 0, 1), (35, .iload_n 1, 1), (36, .invokevirtual 190, 3), (39, .aload_n 0, 1), (40, .getfield 20, 3), (43, .iload_n 1, 1), (44, .aload_n 0, 1), (45, .getfield 42, 3), (48, .aload_n 0, 1), (49, .getfield 183, 3), (52, .baload, 1), (53, .bastore, 1), (54, .aload_n 0, 1), (55, .getfield 27, 3), (58, .iload_n 1, 1), (59, .aload_n 0, 1), (60, .getfield 36, 3), (63, .aload_n 0, 1), (64, .getfield 183, 3), (67, .iaload, 1), (68, .iastore, 1), (69, .iconst 0, 1), (70, .istore_n 2, 1), (71, .iload_n 2, 1), (72, .bipush 40, 2), (74, .if_icmp .ge 34, 3), (77, .aload_n 0, 1), (78, .getfield 24, 3), (81, .bipush 40, 2), (83, .iload_n 1, 1), (84, .imul, 1), (85, .iload_n 2, 1), (86, .iadd, 1), (87, .aload_n 0, 1), (88, .getfield 39, 3), (91, .bipush 40, 2), (93, .aload_n 0, 1), (94, .getfield 183, 3), (97, .imul, 1), (98, .iload_n 2, 1), (99, .iadd, 1), (100, .iaload, 1), (101, .iastore, 1), (102, .iinc 2 1, 3), (105, .goto (-34), 3), (108, .aload_n 0, 1), (109, .iload_n 1, 1), (110, .invokevirtual 209, 3), (113, .iload_n 1, 1), (114, .ireturn, 1)] = true := by decide +kernel
noncomputable def fX12_undo_c71 (v0 : Nat) (v1 : Int32) (v2 : Int32) (h : PH) : Option ((Int32 × PH) ⊕ (Int32 × PH)) :=
  if ((40 : Int32) ≤ v2) then (mr (gd (hK h v0 = 12) (bd (fX12_tells v0 v1 h) (fun z31 =>
  some ((v1, z31)))))) else
  gd (hK h v0 = 12) (gs (hR h 12 v0 11) (fun a33 =>
  gd (hK h a33 = 20 ∧ inb (((40 : Int32) * (hI h 12 v0 14)) + v2) (hN h a33)) (gs (hR h 12 v0 5) (fun a37 =>
  gd (hK h a37 = 20 ∧ inb (((40 : Int32) * v1) + v2) (hN h a37)) (lt (sI h 20 a37 (Int32.toNatClampNeg (((40 : Int32) * v1) + v2)) (hI h 20 a33 (Int32.toNatClampNeg (((40 : Int32) * (hI h 12 v0 14)) + v2)))) (fun h41 =>
  some (.inl ((v2 + 1), h41))))))))
set_option maxRecDepth 100000 in
theorem mX12_undo_c71 {v0 : Nat} {v1 : Int32} {v2 : Int32} {h : PH} {x : ((Int32 × PH) ⊕ (Int32 × PH))} (hf : fX12_undo_c71 v0 v1 v2 h = some x) : (∀ w9 : (Int32 × PH), x = .inl w9 → eqz h (hX (w9.2)) (hV (w9.2))) ∧ (∀ w9 : (Int32 × PH), x = .inr w9 → eqz h (hX w9.2) (hV w9.2)) := by
  unfold fX12_undo_c71 at hf
  have hle := eqz_rf h
  rcases ite_or hf with ⟨q, hf⟩ | ⟨q, hf⟩
  · have hf := if_t q hf
    obtain ⟨y28, hfm, rfl⟩ := mr_some hf; have hf := hfm; clear hfm
    obtain ⟨hk30, hf⟩ := gd_some hf
    obtain ⟨z31, hz31, hf⟩ := bd_some hf
    have hle := eqz_rt (mX12_tells hz31) hle
    have ee := Option.some.inj hf; subst ee
    exact ⟨(fun z e => nomatch e), (fun z e => by have ee := Sum.inr.inj (e); subst ee; exact hle)⟩
  · have hf := if_f q hf
    obtain ⟨hk32, hf⟩ := gd_some hf
    obtain ⟨a33, e34, hf⟩ := gs_some hf
    obtain ⟨⟨hk36, hb35⟩, hf⟩ := gd_some hf
    obtain ⟨a37, e38, hf⟩ := gs_some hf
    obtain ⟨⟨hk40, hb39⟩, hf⟩ := gd_some hf
    obtain ⟨h41, rfl, hf⟩ := lt_some hf
    have ee := Option.some.inj hf; subst ee
    exact ⟨(fun z e => by have ee := Sum.inl.inj (e); subst ee; exact hle), (fun z e => nomatch e)⟩
set_option maxRecDepth 100000 in
theorem wX12_undo_c71 {E : PE} {p : Program} {l : Launch} {e : Env} {s : State} {m : MethodId} {args : Array Value} {below : List Frame} {meth : Method} {c : Code} (X : Cx E p l e (rmv 5 0 0) s m args below meth c RX12 cX12_undo 3 (some .int)) (hG : Gs E l) (hnm : meth.name = yX12_undo.name) {v0 : Nat} {v1 : Int32} {v2 : Int32} {h : PH} {r : (Int32 × PH)} {x : ((Int32 × PH) ⊕ (Int32 × PH))} (hf : fX12_undo_c71 v0 v1 v2 h = some x) (k0 : ∀ z : (Int32 × PH), x = .inl z → PW E p l e (rmv 5 0 0) s m args below meth c 3 0 0 (MQ below (QG E (fun v u => v = some (.int r.1) ∧ u = r.2)) args s 0 0 (pA E)) (z.2) 71 [(0, some (.ref v0)), (1, some (.int v1)), (2, some (.int (z.1)))] []) (kf : ∀ z : (Int32 × PH), x = .inr z → z = r) : PW E p l e (rmv 5 0 0) s m args below meth c 3 0 0 (MQ below (QG E (fun v u => v = some (.int r.1) ∧ u = r.2)) args s 0 0 (pA E)) h 71 [(0, some (.ref v0)), (1, some (.int v1)), (2, some (.int v2))] [] := by
  unfold fX12_undo_c71 at hf
  refine p_iload_n X (dcg dc_X12_undo 43 rfl) rfl rfl ?_
  refine p_bipush (v := 40) X (dcg dc_X12_undo 44 rfl) (by decide) ?_
  refine p_icmp_ge (tgt := 108) X (dcg dc_X12_undo 45 rfl) (by decide) (fun q => ?_) (fun q => ?_)
  · have hf := if_t q hf
    obtain ⟨y28, hf, hy29⟩ := mr_some hf
    have hy29f := kf y28 hy29
    subst hy29f
    refine p_aload_n X (dcg dc_X12_undo 65 rfl) rfl rfl ?_
    refine p_iload_n X (dcg dc_X12_undo 66 rfl) rfl rfl ?_
    obtain ⟨hk30, hf⟩ := gd_some hf
    obtain ⟨z31, hz31, hf⟩ := bd_some hf
    refine p_callV (As := [_]) X ml_X12_209 (dcg dc_X12_undo 67 rfl) rfl rfl hk30 (wX12_tells hG hz31) (by decide) (room4 (Nat.le_of_ble_eq_true rfl)) (Nat.le_refl _) (Nat.le_refl _) ?_
    rintro _ u9 ⟨rfl, e9⟩; have e9 := e9.symm; subst e9
    refine p_iload_n X (dcg dc_X12_undo 68 rfl) rfl rfl ?_
    have er := Option.some.inj hf
    subst er
    exact p_iret X rfl (dcg dc_X12_undo 69 rfl) ⟨rfl, rfl⟩ (Nat.le_refl _) (Nat.le_refl _)
  · have hf := if_f q hf
    refine p_aload_n X (dcg dc_X12_undo 46 rfl) rfl rfl ?_
    obtain ⟨hk32, hf⟩ := gd_some hf
    refine p_getR X fl_X12_24 rfl (by decide) (dcg dc_X12_undo 47 rfl) hk32 ?_
    refine p_bipush (v := 40) X (dcg dc_X12_undo 48 rfl) (by decide) ?_
    refine p_iload_n X (dcg dc_X12_undo 49 rfl) rfl rfl ?_
    refine p_imul X (dcg dc_X12_undo 50 rfl) ?_
    refine p_iload_n X (dcg dc_X12_undo 51 rfl) rfl rfl ?_
    refine p_iadd X (dcg dc_X12_undo 52 rfl) ?_
    refine p_aload_n X (dcg dc_X12_undo 53 rfl) rfl rfl ?_
    refine p_getR X fl_X12_39 rfl (by decide) (dcg dc_X12_undo 54 rfl) hk32 ?_
    refine p_bipush (v := 40) X (dcg dc_X12_undo 55 rfl) (by decide) ?_
    refine p_aload_n X (dcg dc_X12_undo 56 rfl) rfl rfl ?_
    refine p_getI X fl_X12_183 rfl (by decide) (dcg dc_X12_undo 57 rfl) hk32 ?_
    refine p_imul X (dcg dc_X12_undo 58 rfl) ?_
    refine p_iload_n X (dcg dc_X12_undo 59 rfl) rfl rfl ?_
    refine p_iadd X (dcg dc_X12_undo 60 rfl) ?_
    obtain ⟨a33, e34, hf⟩ := gs_some hf
    first | subst e34 | (try rw [e34])
    obtain ⟨⟨hk36, hb35⟩, hf⟩ := gd_some hf
    refine p_iald X (dcg dc_X12_undo 61 rfl) hk36 (vp_of_inb hb35) ?_
    obtain ⟨a37, e38, hf⟩ := gs_some hf
    first | subst e38 | (try rw [e38])
    obtain ⟨⟨hk40, hb39⟩, hf⟩ := gd_some hf
    refine p_iast X (dcg dc_X12_undo 62 rfl) hk40 (vp_of_inb hb39) ?_
    obtain ⟨h41, rfl, hf⟩ := lt_some hf
    refine p_iinc (v := 1) X (dcg dc_X12_undo 63 rfl) rfl (by decide) (by decide) rfl ?_
    refine p_goto (tgt := 71) X (dcg dc_X12_undo 64 rfl) (by decide) ?_
    refine p_pick [0, 1, 2] ?_
    exact k0 _ (Option.some.inj hf).symm
noncomputable def fX12_undo_l71 (v0 : Nat) (v1 : Int32) (v2 : Int32) (h : PH) : Option (Int32 × PH) := wh (fun z : (Int32 × PH) => fX12_undo_c71 v0 v1 (z.1) (z.2)) (v2, h)
set_option maxRecDepth 100000 in
theorem mX12_undo_l71 {v0 : Nat} {v1 : Int32} {v2 : Int32} {h : PH} {r : (Int32 × PH)} (hf : fX12_undo_l71 v0 v1 v2 h = some r) : eqz h (hX r.2) (hV r.2) := by
  unfold fX12_undo_l71 at hf
  refine wh_ind (P := fun z => eqz (z.2) (hX r.2) (hV r.2)) (fun z x0 hs i1 i2 => ?_) _ hf
  obtain ⟨c0, cf⟩ := mX12_undo_c71 (v0 := v0) (v1 := v1) (v2 := z.1) (h := z.2) hs
  rcases hxx : x0 with zz | zz
  · exact eqz_tr (c0 zz hxx) (i1 zz hxx)
  · have ee := i2 zz hxx; subst ee; exact cf zz hxx
set_option maxRecDepth 100000 in
theorem wX12_undo_l71 {E : PE} {p : Program} {l : Launch} {e : Env} {s : State} {m : MethodId} {args : Array Value} {below : List Frame} {meth : Method} {c : Code} (X : Cx E p l e (rmv 5 0 0) s m args below meth c RX12 cX12_undo 3 (some .int)) (hG : Gs E l) (hnm : meth.name = yX12_undo.name) {v0 : Nat} {v1 : Int32} {v2 : Int32} {h : PH} {r : (Int32 × PH)} (hf : fX12_undo_l71 v0 v1 v2 h = some r)  : PW E p l e (rmv 5 0 0) s m args below meth c 3 0 0 (MQ below (QG E (fun v u => v = some (.int r.1) ∧ u = r.2)) args s 0 0 (pA E)) h 71 [(0, some (.ref v0)), (1, some (.int v1)), (2, some (.int v2))] [] := by
  unfold fX12_undo_l71 at hf
  refine wh_ind (P := fun z => PW E p l e (rmv 5 0 0) s m args below meth c 3 0 0 (MQ below (QG E (fun v u => v = some (.int r.1) ∧ u = r.2)) args s 0 0 (pA E)) (z.2) 71 [(0, some (.ref v0)), (1, some (.int v1)), (2, some (.int (z.1)))] []) (fun z x0 hs i1 i2 => ?_) _ hf
  exact wX12_undo_c71 (r := r) (v0 := v0) (v1 := v1) (v2 := z.1) (h := z.2) X hG hnm hs i1  i2
noncomputable def fX12_undo (v0 : Nat) (h : PH) : Option (Int32 × PH) :=
  gd (hK h v0 = 12) (lt (sI h 12 v0 0 (0 : Int32)) (fun h2 =>
  if (¬ (hI h2 12 v0 14) = 0) then (lt (sI h2 12 v0 14 ((hI h2 12 v0 14) - (1 : Int32))) (fun h3 =>
  gs (hR h3 12 v0 9) (fun a4 =>
  gd (hK h3 a4 = 20 ∧ inb (hI h3 12 v0 14) (hN h3 a4)) (bd (fX12_notes v0 (hI h3 20 a4 (Int32.toNatClampNeg (hI h3 12 v0 14))) h3) (fun z8 =>
  gd (hK z8 v0 = 12) (gs (hR z8 12 v0 12) (fun a10 =>
  gd (hK z8 a10 = 21 ∧ inb (hI z8 12 v0 14) (hN z8 a10)) (gs (hR z8 12 v0 4) (fun a14 =>
  gd (hK z8 a14 = 21 ∧ inb (hI h3 20 a4 (Int32.toNatClampNeg (hI h3 12 v0 14))) (hN z8 a14)) (lt (sI z8 21 a14 (Int32.toNatClampNeg (hI h3 20 a4 (Int32.toNatClampNeg (hI h3 12 v0 14)))) ((hI z8 21 a10 (Int32.toNatClampNeg (hI z8 12 v0 14))) &&& 1)) (fun h18 =>
  gs (hR h18 12 v0 10) (fun a19 =>
  gd (hK h18 a19 = 20 ∧ inb (hI h18 12 v0 14) (hN h18 a19)) (gs (hR h18 12 v0 6) (fun a23 =>
  gd (hK h18 a23 = 20 ∧ inb (hI h3 20 a4 (Int32.toNatClampNeg (hI h3 12 v0 14))) (hN h18 a23)) (lt (sI h18 20 a23 (Int32.toNatClampNeg (hI h3 20 a4 (Int32.toNatClampNeg (hI h3 12 v0 14)))) (hI h18 20 a19 (Int32.toNatClampNeg (hI h18 12 v0 14)))) (fun h27 =>
  fX12_undo_l71 v0 (hI h3 20 a4 (Int32.toNatClampNeg (hI h3 12 v0 14))) (0 : Int32) h27)))))))))))))))) else
  some (((-1 : Int32), h2))))
set_option maxRecDepth 100000 in
theorem mX12_undo {v0 : Nat} {h : PH} {r : (Int32 × PH)} (hf : fX12_undo v0 h = some r) : eqz h (hX r.2) (hV r.2) := by
  unfold fX12_undo at hf
  have hle := eqz_rf h
  obtain ⟨hk1, hf⟩ := gd_some hf
  obtain ⟨h2, rfl, hf⟩ := lt_some hf
  rcases ite_or hf with ⟨q, hf⟩ | ⟨q, hf⟩
  · have hf := if_t q hf
    obtain ⟨h3, rfl, hf⟩ := lt_some hf
    obtain ⟨a4, e5, hf⟩ := gs_some hf
    obtain ⟨⟨hk7, hb6⟩, hf⟩ := gd_some hf
    obtain ⟨z8, hz8, hf⟩ := bd_some hf
    have hle := eqz_rt (mX12_notes hz8) hle
    obtain ⟨hk9, hf⟩ := gd_some hf
    obtain ⟨a10, e11, hf⟩ := gs_some hf
    obtain ⟨⟨hk13, hb12⟩, hf⟩ := gd_some hf
    obtain ⟨a14, e15, hf⟩ := gs_some hf
    obtain ⟨⟨hk17, hb16⟩, hf⟩ := gd_some hf
    obtain ⟨h18, rfl, hf⟩ := lt_some hf
    obtain ⟨a19, e20, hf⟩ := gs_some hf
    obtain ⟨⟨hk22, hb21⟩, hf⟩ := gd_some hf
    obtain ⟨a23, e24, hf⟩ := gs_some hf
    obtain ⟨⟨hk26, hb25⟩, hf⟩ := gd_some hf
    obtain ⟨h27, rfl, hf⟩ := lt_some hf
    exact eqz_rt (mX12_undo_l71 hf) hle
  · have hf := if_f q hf
    have ee := Option.some.inj hf; subst ee; exact hle
set_option maxRecDepth 100000 in
theorem wX12_undo {E : PE} {l : Launch} (hG : Gs E l) {v0 : Nat} {h : PH} {r : (Int32 × PH)} (hf : fX12_undo v0 h = some r) : Ct E l 5 0 0 yX12_undo cX12_undo 3 (some .int) [.ref v0] h (fun v u => v = some (.int r.1) ∧ u = r.2) := by
  refine ct_of hG (by decide) (Nat.le_of_ble_eq_true rfl) ?_
  intro p e s m args below meth c X hnm
  show PW E p l e _ s m args below meth c _ 0 0 _ h 0 [(0, some (.ref v0))] []
  unfold fX12_undo at hf
  refine p_aload_n X (dcg dc_X12_undo 0 rfl) rfl rfl ?_
  refine p_iconst (v := 0) X (dcg dc_X12_undo 1 rfl) (by decide) ?_
  obtain ⟨hk1, hf⟩ := gd_some hf
  refine p_putI X fl_X12_1 rfl (by decide) (fun q hq => by cases hq; rfl) rfl rfl (dcg dc_X12_undo 2 rfl) hk1 ?_
  obtain ⟨h2, rfl, hf⟩ := lt_some hf
  refine p_aload_n X (dcg dc_X12_undo 3 rfl) rfl rfl ?_
  refine p_getI X fl_X12_183 rfl (by decide) (dcg dc_X12_undo 4 rfl) hk1 ?_
  refine p_if_ne (tgt := 14) X (dcg dc_X12_undo 5 rfl) (by decide) (fun q => ?_) (fun q => ?_)
  · have hf := if_t q hf
    refine p_aload_n X (dcg dc_X12_undo 8 rfl) rfl rfl ?_
    refine p_dup X (dcg dc_X12_undo 9 rfl) rfl ?_
    refine p_getI X fl_X12_183 rfl (by decide) (dcg dc_X12_undo 10 rfl) hk1 ?_
    refine p_iconst (v := 1) X (dcg dc_X12_undo 11 rfl) (by decide) ?_
    refine p_isub X (dcg dc_X12_undo 12 rfl) ?_
    refine p_putI X fl_X12_183 rfl (by decide) (fun q hq => by cases hq; rfl) rfl rfl (dcg dc_X12_undo 13 rfl) hk1 ?_
    obtain ⟨h3, rfl, hf⟩ := lt_some hf
    refine p_aload_n X (dcg dc_X12_undo 14 rfl) rfl rfl ?_
    refine p_getR X fl_X12_33 rfl (by decide) (dcg dc_X12_undo 15 rfl) hk1 ?_
    refine p_aload_n X (dcg dc_X12_undo 16 rfl) rfl rfl ?_
    refine p_getI X fl_X12_183 rfl (by decide) (dcg dc_X12_undo 17 rfl) hk1 ?_
    obtain ⟨a4, e5, hf⟩ := gs_some hf
    first | subst e5 | (try rw [e5])
    obtain ⟨⟨hk7, hb6⟩, hf⟩ := gd_some hf
    refine p_iald X (dcg dc_X12_undo 18 rfl) hk7 (vp_of_inb hb6) ?_
    refine p_istore_n X (dcg dc_X12_undo 19 rfl) rfl (by decide) rfl ?_
    refine p_aload_n X (dcg dc_X12_undo 20 rfl) rfl rfl ?_
    refine p_iload_n X (dcg dc_X12_undo 21 rfl) rfl rfl ?_
    obtain ⟨z8, hz8, hf⟩ := bd_some hf
    refine p_callV (As := [_]) X ml_X12_190 (dcg dc_X12_undo 22 rfl) rfl rfl hk1 (wX12_notes hG hz8) (by decide) (room4 (Nat.le_of_ble_eq_true rfl)) (Nat.le_refl _) (Nat.le_refl _) ?_
    rintro _ u9 ⟨rfl, e9⟩; have e9 := e9.symm; subst e9
    refine p_aload_n X (dcg dc_X12_undo 23 rfl) rfl rfl ?_
    obtain ⟨hk9, hf⟩ := gd_some hf
    refine p_getR X fl_X12_20 rfl (by decide) (dcg dc_X12_undo 24 rfl) hk9 ?_
    refine p_iload_n X (dcg dc_X12_undo 25 rfl) rfl rfl ?_
    refine p_aload_n X (dcg dc_X12_undo 26 rfl) rfl rfl ?_
    refine p_getR X fl_X12_42 rfl (by decide) (dcg dc_X12_undo 27 rfl) hk9 ?_
    refine p_aload_n X (dcg dc_X12_undo 28 rfl) rfl rfl ?_
    refine p_getI X fl_X12_183 rfl (by decide) (dcg dc_X12_undo 29 rfl) hk9 ?_
    obtain ⟨a10, e11, hf⟩ := gs_some hf
    first | subst e11 | (try rw [e11])
    obtain ⟨⟨hk13, hb12⟩, hf⟩ := gd_some hf
    refine p_zald X (dcg dc_X12_undo 30 rfl) hk13 (vp_of_inb hb12) ?_
    obtain ⟨a14, e15, hf⟩ := gs_some hf
    first | subst e15 | (try rw [e15])
    obtain ⟨⟨hk17, hb16⟩, hf⟩ := gd_some hf
    refine p_zast X (dcg dc_X12_undo 31 rfl) hk17 (vp_of_inb hb16) ?_
    obtain ⟨h18, rfl, hf⟩ := lt_some hf
    refine p_aload_n X (dcg dc_X12_undo 32 rfl) rfl rfl ?_
    refine p_getR X fl_X12_27 rfl (by decide) (dcg dc_X12_undo 33 rfl) hk9 ?_
    refine p_iload_n X (dcg dc_X12_undo 34 rfl) rfl rfl ?_
    refine p_aload_n X (dcg dc_X12_undo 35 rfl) rfl rfl ?_
    refine p_getR X fl_X12_36 rfl (by decide) (dcg dc_X12_undo 36 rfl) hk9 ?_
    refine p_aload_n X (dcg dc_X12_undo 37 rfl) rfl rfl ?_
    refine p_getI X fl_X12_183 rfl (by decide) (dcg dc_X12_undo 38 rfl) hk9 ?_
    obtain ⟨a19, e20, hf⟩ := gs_some hf
    first | subst e20 | (try rw [e20])
    obtain ⟨⟨hk22, hb21⟩, hf⟩ := gd_some hf
    refine p_iald X (dcg dc_X12_undo 39 rfl) hk22 (vp_of_inb hb21) ?_
    obtain ⟨a23, e24, hf⟩ := gs_some hf
    first | subst e24 | (try rw [e24])
    obtain ⟨⟨hk26, hb25⟩, hf⟩ := gd_some hf
    refine p_iast X (dcg dc_X12_undo 40 rfl) hk26 (vp_of_inb hb25) ?_
    obtain ⟨h27, rfl, hf⟩ := lt_some hf
    refine p_iconst (v := 0) X (dcg dc_X12_undo 41 rfl) (by decide) ?_
    refine p_istore_n X (dcg dc_X12_undo 42 rfl) rfl (by decide) rfl ?_
    refine p_pick [0, 1, 2] ?_
    exact wX12_undo_l71 X hG hnm hf 
  · have hf := if_f q hf
    refine p_iconst (v := -1) X (dcg dc_X12_undo 6 rfl) (by decide) ?_
    have er := Option.some.inj hf
    subst er
    exact p_iret X rfl (dcg dc_X12_undo 7 rfl) ⟨rfl, rfl⟩ (Nat.le_refl _) (Nat.le_refl _)
theorem dc_X12_undoable : decs cX12_undoable [(0, .aload_n 0, 1), (1, .iconst 0, 1), (2, .putfield 1, 3), (5, .aload_n 0, 1), (6, .getfield 183, 3), (9, .ireturn, 1)] = true := by decide +kernel
noncomputable def fX12_undoable (v0 : Nat) (h : PH) : Option (Int32 × PH) :=
  gd (hK h v0 = 12) (lt (sI h 12 v0 0 (0 : Int32)) (fun h2 =>
  some (((hI h2 12 v0 14), h2))))
set_option maxRecDepth 100000 in
theorem mX12_undoable {v0 : Nat} {h : PH} {r : (Int32 × PH)} (hf : fX12_undoable v0 h = some r) : eqz h (hX r.2) (hV r.2) := by
  unfold fX12_undoable at hf
  have hle := eqz_rf h
  obtain ⟨hk1, hf⟩ := gd_some hf
  obtain ⟨h2, rfl, hf⟩ := lt_some hf
  have ee := Option.some.inj hf; subst ee; exact hle
set_option maxRecDepth 100000 in
theorem wX12_undoable {E : PE} {l : Launch} (hG : Gs E l) {v0 : Nat} {h : PH} {r : (Int32 × PH)} (hf : fX12_undoable v0 h = some r) : Ct E l 0 0 0 yX12_undoable cX12_undoable 1 (some .int) [.ref v0] h (fun v u => v = some (.int r.1) ∧ u = r.2) := by
  refine ct_of hG (by decide) (Nat.le_of_ble_eq_true rfl) ?_
  intro p e s m args below meth c X hnm
  show PW E p l e _ s m args below meth c _ 0 0 _ h 0 [(0, some (.ref v0))] []
  unfold fX12_undoable at hf
  refine p_aload_n X (dcg dc_X12_undoable 0 rfl) rfl rfl ?_
  refine p_iconst (v := 0) X (dcg dc_X12_undoable 1 rfl) (by decide) ?_
  obtain ⟨hk1, hf⟩ := gd_some hf
  refine p_putI X fl_X12_1 rfl (by decide) (fun q hq => by cases hq; rfl) rfl rfl (dcg dc_X12_undoable 2 rfl) hk1 ?_
  obtain ⟨h2, rfl, hf⟩ := lt_some hf
  refine p_aload_n X (dcg dc_X12_undoable 3 rfl) rfl rfl ?_
  refine p_getI X fl_X12_183 rfl (by decide) (dcg dc_X12_undoable 4 rfl) hk1 ?_
  have er := Option.some.inj hf
  subst er
  exact p_iret X rfl (dcg dc_X12_undoable 5 rfl) ⟨rfl, rfl⟩ (Nat.le_refl _) (Nat.le_refl _)
theorem dc_X12_texts : decs cX12_texts [(0, .aload_n 0, 1), (1, .iconst 0, 1), (2, .putfield 1, 3), (5, .aload_n 0, 1), (6, .invokevirtual 218, 3), (9, .ireturn, 1)] = true := by decide +kernel
noncomputable def fX12_texts (v0 : Nat) (h : PH) : Option (Int32 × PH) :=
  gd (hK h v0 = 12) (lt (sI h 12 v0 0 (0 : Int32)) (fun h2 =>
  bd (fX12_countTexts v0 h2) (fun z3 =>
  some ((z3, h2)))))
set_option maxRecDepth 100000 in
theorem mX12_texts {v0 : Nat} {h : PH} {r : (Int32 × PH)} (hf : fX12_texts v0 h = some r) : eqz h (hX r.2) (hV r.2) := by
  unfold fX12_texts at hf
  have hle := eqz_rf h
  obtain ⟨hk1, hf⟩ := gd_some hf
  obtain ⟨h2, rfl, hf⟩ := lt_some hf
  obtain ⟨z3, hz3, hf⟩ := bd_some hf
  have ee := Option.some.inj hf; subst ee; exact hle
set_option maxRecDepth 100000 in
theorem wX12_texts {E : PE} {l : Launch} (hG : Gs E l) {v0 : Nat} {h : PH} {r : (Int32 × PH)} (hf : fX12_texts v0 h = some r) : Ct E l 1 0 0 yX12_texts cX12_texts 1 (some .int) [.ref v0] h (fun v u => v = some (.int r.1) ∧ u = r.2) := by
  refine ct_of hG (by decide) (Nat.le_of_ble_eq_true rfl) ?_
  intro p e s m args below meth c X hnm
  show PW E p l e _ s m args below meth c _ 0 0 _ h 0 [(0, some (.ref v0))] []
  unfold fX12_texts at hf
  refine p_aload_n X (dcg dc_X12_texts 0 rfl) rfl rfl ?_
  refine p_iconst (v := 0) X (dcg dc_X12_texts 1 rfl) (by decide) ?_
  obtain ⟨hk1, hf⟩ := gd_some hf
  refine p_putI X fl_X12_1 rfl (by decide) (fun q hq => by cases hq; rfl) rfl rfl (dcg dc_X12_texts 2 rfl) hk1 ?_
  obtain ⟨h2, rfl, hf⟩ := lt_some hf
  refine p_aload_n X (dcg dc_X12_texts 3 rfl) rfl rfl ?_
  obtain ⟨z3, hz3, hf⟩ := bd_some hf
  refine p_callV (As := []) X ml_X12_218 (dcg dc_X12_texts 4 rfl) rfl rfl hk1 (wX12_countTexts hG hz3) (by decide) (room4 (Nat.le_of_ble_eq_true rfl)) (Nat.le_refl _) (Nat.le_refl _) ?_
  rintro _ u9 ⟨rfl, e9⟩; have e9 := e9.symm; subst e9
  have er := Option.some.inj hf
  subst er
  exact p_iret X rfl (dcg dc_X12_texts 5 rfl) ⟨rfl, rfl⟩ (Nat.le_refl _) (Nat.le_refl _)
theorem dc_X12_nextText : decs cX12_nextText [(0, .aload_n 0, 1), (1, .iconst 0, 1), (2, .putfield 1, 3), (5, .iconst 0, 1), (6, .istore_n 2, 1), (7, .iload_n 2, 1), (8, .bipush 100, 2), (10, .if_icmp .ge 25, 3), (13, .aload_n 0, 1), (14, .getfield 20, 3), (17, .iload_n 2, 1), (18, .baload, 1), (19, .ifCond .eq 10, 3), (22, .iload_n 2, 1), (23, .iload_n 1, 1), (24, .if_icmp .lt 5, 3), (27, .iload_n 2, 1), (28, .ireturn, 1), (29, .iinc 2 1, 3), (32, .goto (-25), 3), (35, .iconst (-1), 1), (36, .ireturn, 1)] = true := by decide +kernel
noncomputable def fX12_nextText_b29 (v0 : Nat) (v1 : Int32) (v2 : Int32) (h : PH) : Option ((Int32) ⊕ (Int32 × PH)) :=
  some (.inl ((v2 + 1)))
set_option maxRecDepth 100000 in
theorem mX12_nextText_b29 {v0 : Nat} {v1 : Int32} {v2 : Int32} {h : PH} {x : ((Int32) ⊕ (Int32 × PH))} (hf : fX12_nextText_b29 v0 v1 v2 h = some x) : (∀ w9 : (Int32 × PH), x = .inr w9 → eqz h (hX w9.2) (hV w9.2)) := by
  unfold fX12_nextText_b29 at hf
  have hle := eqz_rf h
  have ee := Option.some.inj hf; subst ee
  exact (fun z e => nomatch e)
set_option maxRecDepth 100000 in
theorem wX12_nextText_b29 {E : PE} {p : Program} {l : Launch} {e : Env} {s : State} {m : MethodId} {args : Array Value} {below : List Frame} {meth : Method} {c : Code} (X : Cx E p l e (rmv 0 0 0) s m args below meth c RX12 cX12_nextText 3 (some .int)) (hG : Gs E l) (hnm : meth.name = yX12_nextText.name) {v0 : Nat} {v1 : Int32} {v2 : Int32} {h : PH} {r : (Int32 × PH)} {x : ((Int32) ⊕ (Int32 × PH))} (hf : fX12_nextText_b29 v0 v1 v2 h = some x) (k0 : ∀ z : (Int32), x = .inl z → PW E p l e (rmv 0 0 0) s m args below meth c 3 0 0 (MQ below (QG E (fun v u => v = some (.int r.1) ∧ u = r.2)) args s 0 0 (pA E)) h 7 [(0, some (.ref v0)), (1, some (.int v1)), (2, some (.int (z)))] []) (kf : ∀ z : (Int32 × PH), x = .inr z → z = r) : PW E p l e (rmv 0 0 0) s m args below meth c 3 0 0 (MQ below (QG E (fun v u => v = some (.int r.1) ∧ u = r.2)) args s 0 0 (pA E)) h 29 [(0, some (.ref v0)), (1, some (.int v1)), (2, some (.int v2))] [] := by
  unfold fX12_nextText_b29 at hf
  refine p_iinc (v := 1) X (dcg dc_X12_nextText 18 rfl) rfl (by decide) (by decide) rfl ?_
  refine p_goto (tgt := 7) X (dcg dc_X12_nextText 19 rfl) (by decide) ?_
  refine p_pick [0, 1, 2] ?_
  exact k0 _ (Option.some.inj hf).symm
noncomputable def fX12_nextText_c7 (v0 : Nat) (v1 : Int32) (v2 : Int32) (h : PH) : Option ((Int32) ⊕ (Int32 × PH)) :=
  if ((100 : Int32) ≤ v2) then (mr (some (((-1 : Int32), h)))) else
  gd (hK h v0 = 12) (gs (hR h 12 v0 4) (fun a6 =>
  gd (hK h a6 = 21 ∧ inb v2 (hN h a6)) (if ((hI h 21 a6 (Int32.toNatClampNeg v2)) = 0) then (fX12_nextText_b29 v0 v1 v2 h) else
  if (v2 < v1) then (fX12_nextText_b29 v0 v1 v2 h) else
  mr (some ((v2, h))))))
set_option maxRecDepth 100000 in
theorem mX12_nextText_c7 {v0 : Nat} {v1 : Int32} {v2 : Int32} {h : PH} {x : ((Int32) ⊕ (Int32 × PH))} (hf : fX12_nextText_c7 v0 v1 v2 h = some x) : (∀ w9 : (Int32 × PH), x = .inr w9 → eqz h (hX w9.2) (hV w9.2)) := by
  unfold fX12_nextText_c7 at hf
  have hle := eqz_rf h
  rcases ite_or hf with ⟨q, hf⟩ | ⟨q, hf⟩
  · have hf := if_t q hf
    obtain ⟨y3, hfm, rfl⟩ := mr_some hf; have hf := hfm; clear hfm
    have ee := Option.some.inj hf; subst ee
    exact (fun z e => by have ee := Sum.inr.inj (e); subst ee; exact hle)
  · have hf := if_f q hf
    obtain ⟨hk5, hf⟩ := gd_some hf
    obtain ⟨a6, e7, hf⟩ := gs_some hf
    obtain ⟨⟨hk9, hb8⟩, hf⟩ := gd_some hf
    rcases ite_or hf with ⟨q, hf⟩ | ⟨q, hf⟩
    · have hf := if_t q hf
      obtain cf := mX12_nextText_b29 hf
      exact fun z e => eqz_rt (cf z (e)) hle
    · have hf := if_f q hf
      rcases ite_or hf with ⟨q, hf⟩ | ⟨q, hf⟩
      · have hf := if_t q hf
        obtain cf := mX12_nextText_b29 hf
        exact fun z e => eqz_rt (cf z (e)) hle
      · have hf := if_f q hf
        obtain ⟨y10, hfm, rfl⟩ := mr_some hf; have hf := hfm; clear hfm
        have ee := Option.some.inj hf; subst ee
        exact (fun z e => by have ee := Sum.inr.inj (e); subst ee; exact hle)
set_option maxRecDepth 100000 in
theorem wX12_nextText_c7 {E : PE} {p : Program} {l : Launch} {e : Env} {s : State} {m : MethodId} {args : Array Value} {below : List Frame} {meth : Method} {c : Code} (X : Cx E p l e (rmv 0 0 0) s m args below meth c RX12 cX12_nextText 3 (some .int)) (hG : Gs E l) (hnm : meth.name = yX12_nextText.name) {v0 : Nat} {v1 : Int32} {v2 : Int32} {h : PH} {r : (Int32 × PH)} {x : ((Int32) ⊕ (Int32 × PH))} (hf : fX12_nextText_c7 v0 v1 v2 h = some x) (k0 : ∀ z : (Int32), x = .inl z → PW E p l e (rmv 0 0 0) s m args below meth c 3 0 0 (MQ below (QG E (fun v u => v = some (.int r.1) ∧ u = r.2)) args s 0 0 (pA E)) h 7 [(0, some (.ref v0)), (1, some (.int v1)), (2, some (.int (z)))] []) (kf : ∀ z : (Int32 × PH), x = .inr z → z = r) : PW E p l e (rmv 0 0 0) s m args below meth c 3 0 0 (MQ below (QG E (fun v u => v = some (.int r.1) ∧ u = r.2)) args s 0 0 (pA E)) h 7 [(0, some (.ref v0)), (1, some (.int v1)), (2, some (.int v2))] [] := by
  unfold fX12_nextText_c7 at hf
  refine p_iload_n X (dcg dc_X12_nextText 5 rfl) rfl rfl ?_
  refine p_bipush (v := 100) X (dcg dc_X12_nextText 6 rfl) (by decide) ?_
  refine p_icmp_ge (tgt := 35) X (dcg dc_X12_nextText 7 rfl) (by decide) (fun q => ?_) (fun q => ?_)
  · have hf := if_t q hf
    obtain ⟨y3, hf, hy4⟩ := mr_some hf
    have hy4f := kf y3 hy4
    subst hy4f
    refine p_iconst (v := -1) X (dcg dc_X12_nextText 20 rfl) (by decide) ?_
    have er := Option.some.inj hf
    subst er
    exact p_iret X rfl (dcg dc_X12_nextText 21 rfl) ⟨rfl, rfl⟩ (Nat.le_refl _) (Nat.le_refl _)
  · have hf := if_f q hf
    refine p_aload_n X (dcg dc_X12_nextText 8 rfl) rfl rfl ?_
    obtain ⟨hk5, hf⟩ := gd_some hf
    refine p_getR X fl_X12_20 rfl (by decide) (dcg dc_X12_nextText 9 rfl) hk5 ?_
    refine p_iload_n X (dcg dc_X12_nextText 10 rfl) rfl rfl ?_
    obtain ⟨a6, e7, hf⟩ := gs_some hf
    first | subst e7 | (try rw [e7])
    obtain ⟨⟨hk9, hb8⟩, hf⟩ := gd_some hf
    refine p_zald X (dcg dc_X12_nextText 11 rfl) hk9 (vp_of_inb hb8) ?_
    refine p_if_eq (tgt := 29) X (dcg dc_X12_nextText 12 rfl) (by decide) (fun q => ?_) (fun q => ?_)
    · have hf := if_t q hf
      refine p_pick [0, 1, 2] ?_
      exact wX12_nextText_b29 X hG hnm hf k0 kf
    · have hf := if_f q hf
      refine p_iload_n X (dcg dc_X12_nextText 13 rfl) rfl rfl ?_
      refine p_iload_n X (dcg dc_X12_nextText 14 rfl) rfl rfl ?_
      refine p_icmp_lt (tgt := 29) X (dcg dc_X12_nextText 15 rfl) (by decide) (fun q => ?_) (fun q => ?_)
      · have hf := if_t q hf
        refine p_pick [0, 1, 2] ?_
        exact wX12_nextText_b29 X hG hnm hf k0 kf
      · have hf := if_f q hf
        obtain ⟨y10, hf, hy11⟩ := mr_some hf
        have hy11f := kf y10 hy11
        subst hy11f
        refine p_iload_n X (dcg dc_X12_nextText 16 rfl) rfl rfl ?_
        have er := Option.some.inj hf
        subst er
        exact p_iret X rfl (dcg dc_X12_nextText 17 rfl) ⟨rfl, rfl⟩ (Nat.le_refl _) (Nat.le_refl _)
noncomputable def fX12_nextText_l7 (v0 : Nat) (v1 : Int32) (v2 : Int32) (h : PH) : Option (Int32 × PH) := wh (fun z : (Int32) => fX12_nextText_c7 v0 v1 (z) h) (v2)
set_option maxRecDepth 100000 in
theorem mX12_nextText_l7 {v0 : Nat} {v1 : Int32} {v2 : Int32} {h : PH} {r : (Int32 × PH)} (hf : fX12_nextText_l7 v0 v1 v2 h = some r) : eqz h (hX r.2) (hV r.2) := by
  unfold fX12_nextText_l7 at hf
  refine wh_ind (P := fun z => eqz h (hX r.2) (hV r.2)) (fun z x0 hs i1 i2 => ?_) _ hf
  obtain cf := mX12_nextText_c7 (v0 := v0) (v1 := v1) (v2 := z) (h := h) hs
  rcases hxx : x0 with zz | zz
  · exact (i1 zz hxx)
  · have ee := i2 zz hxx; subst ee; exact cf zz hxx
set_option maxRecDepth 100000 in
theorem wX12_nextText_l7 {E : PE} {p : Program} {l : Launch} {e : Env} {s : State} {m : MethodId} {args : Array Value} {below : List Frame} {meth : Method} {c : Code} (X : Cx E p l e (rmv 0 0 0) s m args below meth c RX12 cX12_nextText 3 (some .int)) (hG : Gs E l) (hnm : meth.name = yX12_nextText.name) {v0 : Nat} {v1 : Int32} {v2 : Int32} {h : PH} {r : (Int32 × PH)} (hf : fX12_nextText_l7 v0 v1 v2 h = some r)  : PW E p l e (rmv 0 0 0) s m args below meth c 3 0 0 (MQ below (QG E (fun v u => v = some (.int r.1) ∧ u = r.2)) args s 0 0 (pA E)) h 7 [(0, some (.ref v0)), (1, some (.int v1)), (2, some (.int v2))] [] := by
  unfold fX12_nextText_l7 at hf
  refine wh_ind (P := fun z => PW E p l e (rmv 0 0 0) s m args below meth c 3 0 0 (MQ below (QG E (fun v u => v = some (.int r.1) ∧ u = r.2)) args s 0 0 (pA E)) h 7 [(0, some (.ref v0)), (1, some (.int v1)), (2, some (.int (z)))] []) (fun z x0 hs i1 i2 => ?_) _ hf
  exact wX12_nextText_c7 (r := r) (v0 := v0) (v1 := v1) (v2 := z) (h := h) X hG hnm hs i1  i2
noncomputable def fX12_nextText (v0 : Nat) (v1 : Int32) (h : PH) : Option (Int32 × PH) :=
  gd (hK h v0 = 12) (lt (sI h 12 v0 0 (0 : Int32)) (fun h2 =>
  fX12_nextText_l7 v0 v1 (0 : Int32) h2))
set_option maxRecDepth 100000 in
theorem mX12_nextText {v0 : Nat} {v1 : Int32} {h : PH} {r : (Int32 × PH)} (hf : fX12_nextText v0 v1 h = some r) : eqz h (hX r.2) (hV r.2) := by
  unfold fX12_nextText at hf
  have hle := eqz_rf h
  obtain ⟨hk1, hf⟩ := gd_some hf
  obtain ⟨h2, rfl, hf⟩ := lt_some hf
  exact eqz_rt (mX12_nextText_l7 hf) hle
set_option maxRecDepth 100000 in
theorem wX12_nextText {E : PE} {l : Launch} (hG : Gs E l) {v0 : Nat} {v1 : Int32} {h : PH} {r : (Int32 × PH)} (hf : fX12_nextText v0 v1 h = some r) : Ct E l 0 0 0 yX12_nextText cX12_nextText 3 (some .int) [.ref v0, .int v1] h (fun v u => v = some (.int r.1) ∧ u = r.2) := by
  refine ct_of hG (by decide) (Nat.le_of_ble_eq_true rfl) ?_
  intro p e s m args below meth c X hnm
  show PW E p l e _ s m args below meth c _ 0 0 _ h 0 [(0, some (.ref v0)), (1, some (.int v1))] []
  unfold fX12_nextText at hf
  refine p_aload_n X (dcg dc_X12_nextText 0 rfl) rfl rfl ?_
  refine p_iconst (v := 0) X (dcg dc_X12_nextText 1 rfl) (by decide) ?_
  obtain ⟨hk1, hf⟩ := gd_some hf
  refine p_putI X fl_X12_1 rfl (by decide) (fun q hq => by cases hq; rfl) rfl rfl (dcg dc_X12_nextText 2 rfl) hk1 ?_
  obtain ⟨h2, rfl, hf⟩ := lt_some hf
  refine p_iconst (v := 0) X (dcg dc_X12_nextText 3 rfl) (by decide) ?_
  refine p_istore_n X (dcg dc_X12_nextText 4 rfl) rfl (by decide) rfl ?_
  refine p_pick [0, 1, 2] ?_
  exact wX12_nextText_l7 X hG hnm hf 
theorem dc_X12_length : decs cX12_length [(0, .aload_n 0, 1), (1, .iconst 0, 1), (2, .putfield 1, 3), (5, .aload_n 0, 1), (6, .iload_n 1, 1), (7, .invokevirtual 212, 3), (10, .ifCond .eq 7, 3), (13, .iconst 0, 1), (14, .goto 9, 3), (17, .aload_n 0, 1), (18, .getfield 27, 3), (21, .iload_n 1, 1), (22, .iaload, 1), (23, .ireturn, 1)] = true := by decide +kernel
noncomputable def fX12_length_b23 (t0 : Int32) (h : PH) : Option (Int32 × PH) :=
  some ((t0, h))
set_option maxRecDepth 100000 in
theorem mX12_length_b23 {t0 : Int32} {h : PH} {r : (Int32 × PH)} (hf : fX12_length_b23 t0 h = some r) : eqz h (hX r.2) (hV r.2) := by
  unfold fX12_length_b23 at hf
  have hle := eqz_rf h
  have ee := Option.some.inj hf; subst ee; exact hle
set_option maxRecDepth 100000 in
theorem wX12_length_b23 {E : PE} {p : Program} {l : Launch} {e : Env} {s : State} {m : MethodId} {args : Array Value} {below : List Frame} {meth : Method} {c : Code} (X : Cx E p l e (rmv 2 0 0) s m args below meth c RX12 cX12_length 2 (some .int)) (hG : Gs E l) (hnm : meth.name = yX12_length.name) {t0 : Int32} {h : PH} {r : (Int32 × PH)} (hf : fX12_length_b23 t0 h = some r)  : PW E p l e (rmv 2 0 0) s m args below meth c 2 0 0 (MQ below (QG E (fun v u => v = some (.int r.1) ∧ u = r.2)) args s 0 0 (pA E)) h 23 [] [.int t0] := by
  unfold fX12_length_b23 at hf
  have er := Option.some.inj hf
  subst er
  exact p_iret X rfl (dcg dc_X12_length 13 rfl) ⟨rfl, rfl⟩ (Nat.le_refl _) (Nat.le_refl _)
noncomputable def fX12_length (v0 : Nat) (v1 : Int32) (h : PH) : Option (Int32 × PH) :=
  gd (hK h v0 = 12) (lt (sI h 12 v0 0 (0 : Int32)) (fun h2 =>
  bd (fX12_noText v0 v1 h2) (fun z3 =>
  if (z3.1 = 0) then (gd (hK z3.2 v0 = 12) (gs (hR z3.2 12 v0 6) (fun a5 =>
  gd (hK z3.2 a5 = 20 ∧ inb v1 (hN z3.2 a5)) (fX12_length_b23 (hI z3.2 20 a5 (Int32.toNatClampNeg v1)) z3.2)))) else
  fX12_length_b23 (0 : Int32) z3.2)))
set_option maxRecDepth 100000 in
theorem mX12_length {v0 : Nat} {v1 : Int32} {h : PH} {r : (Int32 × PH)} (hf : fX12_length v0 v1 h = some r) : eqz h (hX r.2) (hV r.2) := by
  unfold fX12_length at hf
  have hle := eqz_rf h
  obtain ⟨hk1, hf⟩ := gd_some hf
  obtain ⟨h2, rfl, hf⟩ := lt_some hf
  obtain ⟨z3, hz3, hf⟩ := bd_some hf
  have hle := eqz_rt (mX12_noText hz3) hle
  rcases ite_or hf with ⟨q, hf⟩ | ⟨q, hf⟩
  · have hf := if_t q hf
    obtain ⟨hk4, hf⟩ := gd_some hf
    obtain ⟨a5, e6, hf⟩ := gs_some hf
    obtain ⟨⟨hk8, hb7⟩, hf⟩ := gd_some hf
    exact eqz_rt (mX12_length_b23 hf) hle
  · have hf := if_f q hf
    exact eqz_rt (mX12_length_b23 hf) hle
set_option maxRecDepth 100000 in
theorem wX12_length {E : PE} {l : Launch} (hG : Gs E l) {v0 : Nat} {v1 : Int32} {h : PH} {r : (Int32 × PH)} (hf : fX12_length v0 v1 h = some r) : Ct E l 2 0 0 yX12_length cX12_length 2 (some .int) [.ref v0, .int v1] h (fun v u => v = some (.int r.1) ∧ u = r.2) := by
  refine ct_of hG (by decide) (Nat.le_of_ble_eq_true rfl) ?_
  intro p e s m args below meth c X hnm
  show PW E p l e _ s m args below meth c _ 0 0 _ h 0 [(0, some (.ref v0)), (1, some (.int v1))] []
  unfold fX12_length at hf
  refine p_aload_n X (dcg dc_X12_length 0 rfl) rfl rfl ?_
  refine p_iconst (v := 0) X (dcg dc_X12_length 1 rfl) (by decide) ?_
  obtain ⟨hk1, hf⟩ := gd_some hf
  refine p_putI X fl_X12_1 rfl (by decide) (fun q hq => by cases hq; rfl) rfl rfl (dcg dc_X12_length 2 rfl) hk1 ?_
  obtain ⟨h2, rfl, hf⟩ := lt_some hf
  refine p_aload_n X (dcg dc_X12_length 3 rfl) rfl rfl ?_
  refine p_iload_n X (dcg dc_X12_length 4 rfl) rfl rfl ?_
  obtain ⟨z3, hz3, hf⟩ := bd_some hf
  refine p_callV (As := [_]) X ml_X12_212 (dcg dc_X12_length 5 rfl) rfl rfl hk1 (wX12_noText hG hz3) (by decide) (room4 (Nat.le_of_ble_eq_true rfl)) (Nat.le_refl _) (Nat.le_refl _) ?_
  rintro _ u9 ⟨rfl, e9⟩; have e9 := e9.symm; subst e9
  refine p_if_eq (tgt := 17) X (dcg dc_X12_length 6 rfl) (by decide) (fun q => ?_) (fun q => ?_)
  · have hf := if_t q hf
    refine p_aload_n X (dcg dc_X12_length 9 rfl) rfl rfl ?_
    obtain ⟨hk4, hf⟩ := gd_some hf
    refine p_getR X fl_X12_27 rfl (by decide) (dcg dc_X12_length 10 rfl) hk4 ?_
    refine p_iload_n X (dcg dc_X12_length 11 rfl) rfl rfl ?_
    obtain ⟨a5, e6, hf⟩ := gs_some hf
    first | subst e6 | (try rw [e6])
    obtain ⟨⟨hk8, hb7⟩, hf⟩ := gd_some hf
    refine p_iald X (dcg dc_X12_length 12 rfl) hk8 (vp_of_inb hb7) ?_
    refine p_pick [] ?_
    exact wX12_length_b23 X hG hnm hf 
  · have hf := if_f q hf
    refine p_iconst (v := 0) X (dcg dc_X12_length 7 rfl) (by decide) ?_
    refine p_goto (tgt := 23) X (dcg dc_X12_length 8 rfl) (by decide) ?_
    refine p_pick [] ?_
    exact wX12_length_b23 X hG hnm hf 
theorem dc_X12_wordAt : decs cX12_wordAt [(0, .aload_n 0, 1), (1, .iconst 0, 1), (2, .putfield 1, 3), (5, .aload_n 0, 1), (6, .iload_n 1, 1), (7, .iload_n 2, 1), (8, .invokevirtual 215, 3), (11, .ifCond .eq 7, 3), (14, .iconst 0, 1), (15, .goto 9, 3), (18, .aload_n 0, 1), (19, .iload_n 1, 1), (20, .iload_n 2, 1), (21, .invokevirtual 186, 3), (24, .ireturn, 1)] = true := by decide +kernel
noncomputable def fX12_wordAt_b24 (t0 : Int32) (h : PH) : Option (Int32 × PH) :=
  some ((t0, h))
set_option maxRecDepth 100000 in
theorem mX12_wordAt_b24 {t0 : Int32} {h : PH} {r : (Int32 × PH)} (hf : fX12_wordAt_b24 t0 h = some r) : eqz h (hX r.2) (hV r.2) := by
  unfold fX12_wordAt_b24 at hf
  have hle := eqz_rf h
  have ee := Option.some.inj hf; subst ee; exact hle
set_option maxRecDepth 100000 in
theorem wX12_wordAt_b24 {E : PE} {p : Program} {l : Launch} {e : Env} {s : State} {m : MethodId} {args : Array Value} {below : List Frame} {meth : Method} {c : Code} (X : Cx E p l e (rmv 3 0 0) s m args below meth c RX12 cX12_wordAt 3 (some .int)) (hG : Gs E l) (hnm : meth.name = yX12_wordAt.name) {t0 : Int32} {h : PH} {r : (Int32 × PH)} (hf : fX12_wordAt_b24 t0 h = some r)  : PW E p l e (rmv 3 0 0) s m args below meth c 3 0 0 (MQ below (QG E (fun v u => v = some (.int r.1) ∧ u = r.2)) args s 0 0 (pA E)) h 24 [] [.int t0] := by
  unfold fX12_wordAt_b24 at hf
  have er := Option.some.inj hf
  subst er
  exact p_iret X rfl (dcg dc_X12_wordAt 14 rfl) ⟨rfl, rfl⟩ (Nat.le_refl _) (Nat.le_refl _)
noncomputable def fX12_wordAt (v0 : Nat) (v1 : Int32) (v2 : Int32) (h : PH) : Option (Int32 × PH) :=
  gd (hK h v0 = 12) (lt (sI h 12 v0 0 (0 : Int32)) (fun h2 =>
  bd (fX12_noPlace v0 v1 v2 h2) (fun z3 =>
  if (z3.1 = 0) then (gd (hK z3.2 v0 = 12) (bd (fX12_wordIn v0 v1 v2 z3.2) (fun z5 =>
  fX12_wordAt_b24 z5 z3.2))) else
  fX12_wordAt_b24 (0 : Int32) z3.2)))
set_option maxRecDepth 100000 in
theorem mX12_wordAt {v0 : Nat} {v1 : Int32} {v2 : Int32} {h : PH} {r : (Int32 × PH)} (hf : fX12_wordAt v0 v1 v2 h = some r) : eqz h (hX r.2) (hV r.2) := by
  unfold fX12_wordAt at hf
  have hle := eqz_rf h
  obtain ⟨hk1, hf⟩ := gd_some hf
  obtain ⟨h2, rfl, hf⟩ := lt_some hf
  obtain ⟨z3, hz3, hf⟩ := bd_some hf
  have hle := eqz_rt (mX12_noPlace hz3) hle
  rcases ite_or hf with ⟨q, hf⟩ | ⟨q, hf⟩
  · have hf := if_t q hf
    obtain ⟨hk4, hf⟩ := gd_some hf
    obtain ⟨z5, hz5, hf⟩ := bd_some hf
    exact eqz_rt (mX12_wordAt_b24 hf) hle
  · have hf := if_f q hf
    exact eqz_rt (mX12_wordAt_b24 hf) hle
set_option maxRecDepth 100000 in
theorem wX12_wordAt {E : PE} {l : Launch} (hG : Gs E l) {v0 : Nat} {v1 : Int32} {v2 : Int32} {h : PH} {r : (Int32 × PH)} (hf : fX12_wordAt v0 v1 v2 h = some r) : Ct E l 3 0 0 yX12_wordAt cX12_wordAt 3 (some .int) [.ref v0, .int v1, .int v2] h (fun v u => v = some (.int r.1) ∧ u = r.2) := by
  refine ct_of hG (by decide) (Nat.le_of_ble_eq_true rfl) ?_
  intro p e s m args below meth c X hnm
  show PW E p l e _ s m args below meth c _ 0 0 _ h 0 [(0, some (.ref v0)), (1, some (.int v1)), (2, some (.int v2))] []
  unfold fX12_wordAt at hf
  refine p_aload_n X (dcg dc_X12_wordAt 0 rfl) rfl rfl ?_
  refine p_iconst (v := 0) X (dcg dc_X12_wordAt 1 rfl) (by decide) ?_
  obtain ⟨hk1, hf⟩ := gd_some hf
  refine p_putI X fl_X12_1 rfl (by decide) (fun q hq => by cases hq; rfl) rfl rfl (dcg dc_X12_wordAt 2 rfl) hk1 ?_
  obtain ⟨h2, rfl, hf⟩ := lt_some hf
  refine p_aload_n X (dcg dc_X12_wordAt 3 rfl) rfl rfl ?_
  refine p_iload_n X (dcg dc_X12_wordAt 4 rfl) rfl rfl ?_
  refine p_iload_n X (dcg dc_X12_wordAt 5 rfl) rfl rfl ?_
  obtain ⟨z3, hz3, hf⟩ := bd_some hf
  refine p_callV (As := [_, _]) X ml_X12_215 (dcg dc_X12_wordAt 6 rfl) rfl rfl hk1 (wX12_noPlace hG hz3) (by decide) (room4 (Nat.le_of_ble_eq_true rfl)) (Nat.le_refl _) (Nat.le_refl _) ?_
  rintro _ u9 ⟨rfl, e9⟩; have e9 := e9.symm; subst e9
  refine p_if_eq (tgt := 18) X (dcg dc_X12_wordAt 7 rfl) (by decide) (fun q => ?_) (fun q => ?_)
  · have hf := if_t q hf
    refine p_aload_n X (dcg dc_X12_wordAt 10 rfl) rfl rfl ?_
    refine p_iload_n X (dcg dc_X12_wordAt 11 rfl) rfl rfl ?_
    refine p_iload_n X (dcg dc_X12_wordAt 12 rfl) rfl rfl ?_
    obtain ⟨hk4, hf⟩ := gd_some hf
    obtain ⟨z5, hz5, hf⟩ := bd_some hf
    refine p_callV (As := [_, _]) X ml_X12_186 (dcg dc_X12_wordAt 13 rfl) rfl rfl hk4 (wX12_wordIn hG hz5) (by decide) (room4 (Nat.le_of_ble_eq_true rfl)) (Nat.le_refl _) (Nat.le_refl _) ?_
    rintro _ u9 ⟨rfl, e9⟩; have e9 := e9.symm; subst e9
    refine p_pick [] ?_
    exact wX12_wordAt_b24 X hG hnm hf 
  · have hf := if_f q hf
    refine p_iconst (v := 0) X (dcg dc_X12_wordAt 8 rfl) (by decide) ?_
    refine p_goto (tgt := 24) X (dcg dc_X12_wordAt 9 rfl) (by decide) ?_
    refine p_pick [] ?_
    exact wX12_wordAt_b24 X hG hnm hf 
theorem dc_X12_letterAt : decs cX12_letterAt [(0, .aload_n 0, 1), (1, .iconst 0, 1), (2, .putfield 1, 3), (5, .aload_n 0, 1), (6, .iload_n 1, 1), (7, .iload_n 2, 1), (8, .invokevirtual 215, 3), (11, .ifCond .ne 27, 3), (14, .aload_n 0, 1), (15, .iload_n 3, 1), (16, .iconst 0, 1), (17, .aload_n 0, 1), (18, .iload_n 1, 1), (19, .iload_n 2, 1), (20, .invokevirtual 186, 3), (23, .invokestatic 144, 3), (26, .iconst 1, 1), (27, .isub, 1), (28, .invokestatic 148, 3), (31, .iconst 1, 1), (32, .invokevirtual 156, 3), (35, .ifCond .eq 6, 3), (38, .bipush 32, 2), (40, .ireturn, 1), (41, .bipush 96, 2), (43, .aload_n 0, 1), (44, .iload_n 1, 1), (45, .iload_n 2, 1), (46, .invokevirtual 186, 3), (49, .iload_n 3, 1), (50, .invokestatic 222, 3), (53, .iadd, 1), (54, .i2c, 1), (55, .ireturn, 1)] = true := by decide +kernel
noncomputable def fX12_letterAt_b38  (h : PH) : Option (Int32 × PH) :=
  gd ((((Int32.toUInt32 (32 : Int32)).toUInt16).toUInt32).toInt32 = (32 : Int32)) (some (((32 : Int32), h)))
set_option maxRecDepth 100000 in
theorem mX12_letterAt_b38  {h : PH} {r : (Int32 × PH)} (hf : fX12_letterAt_b38  h = some r) : eqz h (hX r.2) (hV r.2) := by
  unfold fX12_letterAt_b38 at hf
  have hle := eqz_rf h
  obtain ⟨hg4, hf⟩ := gd_some hf
  have ee := Option.some.inj hf; subst ee; exact hle
set_option maxRecDepth 100000 in
theorem wX12_letterAt_b38 {E : PE} {p : Program} {l : Launch} {e : Env} {s : State} {m : MethodId} {args : Array Value} {below : List Frame} {meth : Method} {c : Code} (X : Cx E p l e (rmv 3 0 0) s m args below meth c RX12 cX12_letterAt 4 (some .char)) (hG : Gs E l) (hnm : meth.name = yX12_letterAt.name)  {h : PH} {r : (Int32 × PH)} (hf : fX12_letterAt_b38  h = some r)  : PW E p l e (rmv 3 0 0) s m args below meth c 4 0 0 (MQ below (QG E (fun v u => v = some (.int r.1) ∧ u = r.2)) args s 0 0 (pA E)) h 38 [] [] := by
  unfold fX12_letterAt_b38 at hf
  refine p_bipush (v := 32) X (dcg dc_X12_letterAt 22 rfl) (by decide) ?_
  obtain ⟨hg4, hf⟩ := gd_some hf
  have er := Option.some.inj hf
  subst er
  exact p_zret X rfl (congrArg Value.int hg4) (dcg dc_X12_letterAt 23 rfl) ⟨rfl, rfl⟩ (Nat.le_refl _) (Nat.le_refl _)
noncomputable def fX12_letterAt (v0 : Nat) (v1 : Int32) (v2 : Int32) (v3 : Int32) (h : PH) : Option (Int32 × PH) :=
  gd (hK h v0 = 12) (lt (sI h 12 v0 0 (0 : Int32)) (fun h2 =>
  bd (fX12_noPlace v0 v1 v2 h2) (fun z3 =>
  if (¬ z3.1 = 0) then (fX12_letterAt_b38  z3.2) else
  gd (hK z3.2 v0 = 12) (bd (fX12_wordIn v0 v1 v2 z3.2) (fun z6 =>
  bd (fX12_letters z6) (fun z7 =>
  bd (fX12_in v3 (0 : Int32) (z7 - (1 : Int32))) (fun z8 =>
  bd (fX12_fails v0 z8 (1 : Int32) z3.2) (fun z9 =>
  if (z9.1 = 0) then (gd (hK z9.2 v0 = 12) (bd (fX12_wordIn v0 v1 v2 z9.2) (fun z11 =>
  bd (fX12_letterOf z11 v3) (fun z12 =>
  gd ((((Int32.toUInt32 (((Int32.toUInt32 ((96 : Int32) + z12)) % 65536).toInt32)).toUInt16).toUInt32).toInt32 = (((Int32.toUInt32 ((96 : Int32) + z12)) % 65536).toInt32)) (some (((((Int32.toUInt32 ((96 : Int32) + z12)) % 65536).toInt32), z9.2))))))) else
  fX12_letterAt_b38  z9.2))))))))
set_option maxRecDepth 100000 in
theorem mX12_letterAt {v0 : Nat} {v1 : Int32} {v2 : Int32} {v3 : Int32} {h : PH} {r : (Int32 × PH)} (hf : fX12_letterAt v0 v1 v2 v3 h = some r) : eqz h (hX r.2) (hV r.2) := by
  unfold fX12_letterAt at hf
  have hle := eqz_rf h
  obtain ⟨hk1, hf⟩ := gd_some hf
  obtain ⟨h2, rfl, hf⟩ := lt_some hf
  obtain ⟨z3, hz3, hf⟩ := bd_some hf
  have hle := eqz_rt (mX12_noPlace hz3) hle
  rcases ite_or hf with ⟨q, hf⟩ | ⟨q, hf⟩
  · have hf := if_t q hf
    exact eqz_rt (mX12_letterAt_b38 hf) hle
  · have hf := if_f q hf
    obtain ⟨hk5, hf⟩ := gd_some hf
    obtain ⟨z6, hz6, hf⟩ := bd_some hf
    obtain ⟨z7, hz7, hf⟩ := bd_some hf
    obtain ⟨z8, hz8, hf⟩ := bd_some hf
    obtain ⟨z9, hz9, hf⟩ := bd_some hf
    have hle := eqz_rt (mX12_fails hz9) hle
    rcases ite_or hf with ⟨q, hf⟩ | ⟨q, hf⟩
    · have hf := if_t q hf
      obtain ⟨hk10, hf⟩ := gd_some hf
      obtain ⟨z11, hz11, hf⟩ := bd_some hf
      obtain ⟨z12, hz12, hf⟩ := bd_some hf
      obtain ⟨hg13, hf⟩ := gd_some hf
      have ee := Option.some.inj hf; subst ee; exact hle
    · have hf := if_f q hf
      exact eqz_rt (mX12_letterAt_b38 hf) hle
set_option maxRecDepth 100000 in
theorem wX12_letterAt {E : PE} {l : Launch} (hG : Gs E l) {v0 : Nat} {v1 : Int32} {v2 : Int32} {v3 : Int32} {h : PH} {r : (Int32 × PH)} (hf : fX12_letterAt v0 v1 v2 v3 h = some r) : Ct E l 3 0 0 yX12_letterAt cX12_letterAt 4 (some .char) [.ref v0, .int v1, .int v2, .int v3] h (fun v u => v = some (.int r.1) ∧ u = r.2) := by
  refine ct_of hG (by decide) (Nat.le_of_ble_eq_true rfl) ?_
  intro p e s m args below meth c X hnm
  show PW E p l e _ s m args below meth c _ 0 0 _ h 0 [(0, some (.ref v0)), (1, some (.int v1)), (2, some (.int v2)), (3, some (.int v3))] []
  unfold fX12_letterAt at hf
  refine p_aload_n X (dcg dc_X12_letterAt 0 rfl) rfl rfl ?_
  refine p_iconst (v := 0) X (dcg dc_X12_letterAt 1 rfl) (by decide) ?_
  obtain ⟨hk1, hf⟩ := gd_some hf
  refine p_putI X fl_X12_1 rfl (by decide) (fun q hq => by cases hq; rfl) rfl rfl (dcg dc_X12_letterAt 2 rfl) hk1 ?_
  obtain ⟨h2, rfl, hf⟩ := lt_some hf
  refine p_aload_n X (dcg dc_X12_letterAt 3 rfl) rfl rfl ?_
  refine p_iload_n X (dcg dc_X12_letterAt 4 rfl) rfl rfl ?_
  refine p_iload_n X (dcg dc_X12_letterAt 5 rfl) rfl rfl ?_
  obtain ⟨z3, hz3, hf⟩ := bd_some hf
  refine p_callV (As := [_, _]) X ml_X12_215 (dcg dc_X12_letterAt 6 rfl) rfl rfl hk1 (wX12_noPlace hG hz3) (by decide) (room4 (Nat.le_of_ble_eq_true rfl)) (Nat.le_refl _) (Nat.le_refl _) ?_
  rintro _ u9 ⟨rfl, e9⟩; have e9 := e9.symm; subst e9
  refine p_if_ne (tgt := 38) X (dcg dc_X12_letterAt 7 rfl) (by decide) (fun q => ?_) (fun q => ?_)
  · have hf := if_t q hf
    refine p_pick [] ?_
    exact wX12_letterAt_b38 X hG hnm hf 
  · have hf := if_f q hf
    refine p_aload_n X (dcg dc_X12_letterAt 8 rfl) rfl rfl ?_
    refine p_iload_n X (dcg dc_X12_letterAt 9 rfl) rfl rfl ?_
    refine p_iconst (v := 0) X (dcg dc_X12_letterAt 10 rfl) (by decide) ?_
    refine p_aload_n X (dcg dc_X12_letterAt 11 rfl) rfl rfl ?_
    refine p_iload_n X (dcg dc_X12_letterAt 12 rfl) rfl rfl ?_
    refine p_iload_n X (dcg dc_X12_letterAt 13 rfl) rfl rfl ?_
    obtain ⟨hk5, hf⟩ := gd_some hf
    obtain ⟨z6, hz6, hf⟩ := bd_some hf
    refine p_callV (As := [_, _]) X ml_X12_186 (dcg dc_X12_letterAt 14 rfl) rfl rfl hk5 (wX12_wordIn hG hz6) (by decide) (room4 (Nat.le_of_ble_eq_true rfl)) (Nat.le_refl _) (Nat.le_refl _) ?_
    rintro _ u9 ⟨rfl, e9⟩; have e9 := e9.symm; subst e9
    obtain ⟨z7, hz7, hf⟩ := bd_some hf
    refine p_callS (As := [_]) X ml_X12_144 (dcg dc_X12_letterAt 15 rfl) rfl rfl  (wX12_letters hG hz7) (by decide) (room4 (Nat.le_of_ble_eq_true rfl)) (Nat.le_refl _) (Nat.le_refl _) ?_
    rintro _ u9 ⟨rfl, e9⟩; have e9 := e9.symm; subst e9
    refine p_iconst (v := 1) X (dcg dc_X12_letterAt 16 rfl) (by decide) ?_
    refine p_isub X (dcg dc_X12_letterAt 17 rfl) ?_
    obtain ⟨z8, hz8, hf⟩ := bd_some hf
    refine p_callS (As := [_, _, _]) X ml_X12_148 (dcg dc_X12_letterAt 18 rfl) rfl rfl  (wX12_in hG hz8) (by decide) (room4 (Nat.le_of_ble_eq_true rfl)) (Nat.le_refl _) (Nat.le_refl _) ?_
    rintro _ u9 ⟨rfl, e9⟩; have e9 := e9.symm; subst e9
    refine p_iconst (v := 1) X (dcg dc_X12_letterAt 19 rfl) (by decide) ?_
    obtain ⟨z9, hz9, hf⟩ := bd_some hf
    refine p_callV (As := [_, _]) X ml_X12_156 (dcg dc_X12_letterAt 20 rfl) rfl rfl hk5 (wX12_fails hG hz9) (by decide) (room4 (Nat.le_of_ble_eq_true rfl)) (Nat.le_refl _) (Nat.le_refl _) ?_
    rintro _ u9 ⟨rfl, e9⟩; have e9 := e9.symm; subst e9
    refine p_if_eq (tgt := 41) X (dcg dc_X12_letterAt 21 rfl) (by decide) (fun q => ?_) (fun q => ?_)
    · have hf := if_t q hf
      refine p_bipush (v := 96) X (dcg dc_X12_letterAt 24 rfl) (by decide) ?_
      refine p_aload_n X (dcg dc_X12_letterAt 25 rfl) rfl rfl ?_
      refine p_iload_n X (dcg dc_X12_letterAt 26 rfl) rfl rfl ?_
      refine p_iload_n X (dcg dc_X12_letterAt 27 rfl) rfl rfl ?_
      obtain ⟨hk10, hf⟩ := gd_some hf
      obtain ⟨z11, hz11, hf⟩ := bd_some hf
      refine p_callV (As := [_, _]) X ml_X12_186 (dcg dc_X12_letterAt 28 rfl) rfl rfl hk10 (wX12_wordIn hG hz11) (by decide) (room4 (Nat.le_of_ble_eq_true rfl)) (Nat.le_refl _) (Nat.le_refl _) ?_
      rintro _ u9 ⟨rfl, e9⟩; have e9 := e9.symm; subst e9
      refine p_iload_n X (dcg dc_X12_letterAt 29 rfl) rfl rfl ?_
      obtain ⟨z12, hz12, hf⟩ := bd_some hf
      refine p_callS (As := [_, _]) X ml_X12_222 (dcg dc_X12_letterAt 30 rfl) rfl rfl  (wX12_letterOf hG hz12) (by decide) (room4 (Nat.le_of_ble_eq_true rfl)) (Nat.le_refl _) (Nat.le_refl _) ?_
      rintro _ u9 ⟨rfl, e9⟩; have e9 := e9.symm; subst e9
      refine p_iadd X (dcg dc_X12_letterAt 31 rfl) ?_
      refine p_i2c X (dcg dc_X12_letterAt 32 rfl) ?_
      obtain ⟨hg13, hf⟩ := gd_some hf
      have er := Option.some.inj hf
      subst er
      exact p_zret X rfl (congrArg Value.int hg13) (dcg dc_X12_letterAt 33 rfl) ⟨rfl, rfl⟩ (Nat.le_refl _) (Nat.le_refl _)
    · have hf := if_f q hf
      refine p_pick [] ?_
      exact wX12_letterAt_b38 X hG hnm hf 
theorem dc_X12_takesKnown : decs cX12_takesKnown [(0, .iconst 0, 1), (1, .istore_n 2, 1), (2, .aload_n 0, 1), (3, .getfield 225, 3), (6, .istore_n 3, 1), (7, .iload_n 2, 1), (8, .iload_n 3, 1), (9, .if_icmp .ge 38, 3), (12, .iload_n 2, 1), (13, .iload_n 3, 1), (14, .iadd, 1), (15, .iconst 2, 1), (16, .idiv, 1), (17, .istore 4, 2), (19, .aload_n 0, 1), (20, .getfield 57, 3), (23, .iload 4, 2), (25, .iaload, 1), (26, .iload_n 1, 1), (27, .invokestatic 228, 3), (30, .ifCond .eq 11, 3), (33, .iload 4, 2), (35, .iconst 1, 1), (36, .iadd, 1), (37, .istore_n 2, 1), (38, .goto 6, 3), (41, .iload 4, 2), (43, .istore_n 3, 1), (44, .goto (-37), 3), (47, .iload_n 2, 1), (48, .aload_n 0, 1), (49, .getfield 225, 3), (52, .if_icmp .ge 14, 3), (55, .aload_n 0, 1), (56, .getfield 57, 3), (59, .iload_n 2, 1), (60, .iaload, 1), (61, .iload_n 1, 1), (62, .if_icmp .ne 4, 3), (65, .return_, 1), (66, .aload_n 0, 1), (67, .getfield 225, 3), (70, .istore 4, 2), (72, .iload 4, 2), (74, .iload_n 2, 1), (75, .if_icmp .le 25, 3), (78, .aload_n 0, 1), (79, .getfield 57, 3), (82, .iload 4, 2), (84, .aload_n 0, 1), (85, .getfield 57, 3), (88, .iload 4, 2), (90, .iconst 1, 1), (91, .isub, 1), (92, .iaload, 1), (93, .iastore, 1), (94, .iinc 4 (-1), 3), (97, .goto (-25), 3), (100, .aload_n 0, 1), (101, .getfield 57, 3), (104, .iload_n 2, 1), (105, .iload_n 1, 1), (106, .iastore, 1), (107, .aload_n 0, 1), (108, .dup, 1), (109, .getfield 225, 3), (112, .iconst 1, 1), (113, .iadd, 1), (114, .putfield 225, 3), (117, .return_, 1)] = true := by decide +kernel
noncomputable def fX12_takesKnown_c72 (v0 : Nat) (v1 : Int32) (v2 : Int32) (v4 : Int32) (h : PH) : Option ((Int32 × PH) ⊕ PH) :=
  if (v4 ≤ v2) then (mr (gd (hK h v0 = 12) (gs (hR h 12 v0 19) (fun a9 =>
  gd (hK h a9 = 20 ∧ inb v2 (hN h a9)) (lt (sI h 20 a9 (Int32.toNatClampNeg v2) v1) (fun h13 =>
  lt (sI h13 12 v0 20 ((hI h13 12 v0 20) + (1 : Int32))) (fun h14 =>
  some (h14)))))))) else
  gd (hK h v0 = 12) (gs (hR h 12 v0 19) (fun a16 =>
  gd (hK h a16 = 20 ∧ inb (v4 - (1 : Int32)) (hN h a16)) (gd (inb v4 (hN h a16)) (lt (sI h 20 a16 (Int32.toNatClampNeg v4) (hI h 20 a16 (Int32.toNatClampNeg (v4 - (1 : Int32))))) (fun h21 =>
  some (.inl ((v4 + (-1)), h21)))))))
set_option maxRecDepth 100000 in
theorem mX12_takesKnown_c72 {v0 : Nat} {v1 : Int32} {v2 : Int32} {v4 : Int32} {h : PH} {x : ((Int32 × PH) ⊕ PH)} (hf : fX12_takesKnown_c72 v0 v1 v2 v4 h = some x) : (∀ w9 : (Int32 × PH), x = .inl w9 → eqz h (hX (w9.2)) (hV (w9.2))) ∧ (∀ w9 : PH, x = .inr w9 → eqz h (hX w9) (hV w9)) := by
  unfold fX12_takesKnown_c72 at hf
  have hle := eqz_rf h
  rcases ite_or hf with ⟨q, hf⟩ | ⟨q, hf⟩
  · have hf := if_t q hf
    obtain ⟨y6, hfm, rfl⟩ := mr_some hf; have hf := hfm; clear hfm
    obtain ⟨hk8, hf⟩ := gd_some hf
    obtain ⟨a9, e10, hf⟩ := gs_some hf
    obtain ⟨⟨hk12, hb11⟩, hf⟩ := gd_some hf
    obtain ⟨h13, rfl, hf⟩ := lt_some hf
    obtain ⟨h14, rfl, hf⟩ := lt_some hf
    have ee := Option.some.inj hf; subst ee
    exact ⟨(fun z e => nomatch e), (fun z e => by have ee := Sum.inr.inj (e); subst ee; exact hle)⟩
  · have hf := if_f q hf
    obtain ⟨hk15, hf⟩ := gd_some hf
    obtain ⟨a16, e17, hf⟩ := gs_some hf
    obtain ⟨⟨hk19, hb18⟩, hf⟩ := gd_some hf
    obtain ⟨hb20, hf⟩ := gd_some hf
    obtain ⟨h21, rfl, hf⟩ := lt_some hf
    have ee := Option.some.inj hf; subst ee
    exact ⟨(fun z e => by have ee := Sum.inl.inj (e); subst ee; exact hle), (fun z e => nomatch e)⟩
set_option maxRecDepth 100000 in
theorem wX12_takesKnown_c72 {E : PE} {p : Program} {l : Launch} {e : Env} {s : State} {m : MethodId} {args : Array Value} {below : List Frame} {meth : Method} {c : Code} (X : Cx E p l e (rmv 3 0 0) s m args below meth c RX12 cX12_takesKnown 5 (none)) (hG : Gs E l) (hnm : meth.name = yX12_takesKnown.name) {v0 : Nat} {v1 : Int32} {v2 : Int32} {v4 : Int32} {h : PH} {r : PH} {x : ((Int32 × PH) ⊕ PH)} (hf : fX12_takesKnown_c72 v0 v1 v2 v4 h = some x) (k0 : ∀ z : (Int32 × PH), x = .inl z → PW E p l e (rmv 3 0 0) s m args below meth c 5 0 0 (MQ below (QG E (fun v u => v = none ∧ u = r)) args s 0 0 (pA E)) (z.2) 72 [(0, some (.ref v0)), (1, some (.int v1)), (2, some (.int v2)), (4, some (.int (z.1)))] []) (kf : ∀ z : PH, x = .inr z → z = r) : PW E p l e (rmv 3 0 0) s m args below meth c 5 0 0 (MQ below (QG E (fun v u => v = none ∧ u = r)) args s 0 0 (pA E)) h 72 [(0, some (.ref v0)), (1, some (.int v1)), (2, some (.int v2)), (4, some (.int v4))] [] := by
  unfold fX12_takesKnown_c72 at hf
  refine p_iload X (dcg dc_X12_takesKnown 43 rfl) rfl ?_
  refine p_iload_n X (dcg dc_X12_takesKnown 44 rfl) rfl rfl ?_
  refine p_icmp_le (tgt := 100) X (dcg dc_X12_takesKnown 45 rfl) (by decide) (fun q => ?_) (fun q => ?_)
  · have hf := if_t q hf
    obtain ⟨y6, hf, hy7⟩ := mr_some hf
    have hy7f := kf y6 hy7
    subst hy7f
    refine p_aload_n X (dcg dc_X12_takesKnown 58 rfl) rfl rfl ?_
    obtain ⟨hk8, hf⟩ := gd_some hf
    refine p_getR X fl_X12_57 rfl (by decide) (dcg dc_X12_takesKnown 59 rfl) hk8 ?_
    refine p_iload_n X (dcg dc_X12_takesKnown 60 rfl) rfl rfl ?_
    refine p_iload_n X (dcg dc_X12_takesKnown 61 rfl) rfl rfl ?_
    obtain ⟨a9, e10, hf⟩ := gs_some hf
    first | subst e10 | (try rw [e10])
    obtain ⟨⟨hk12, hb11⟩, hf⟩ := gd_some hf
    refine p_iast X (dcg dc_X12_takesKnown 62 rfl) hk12 (vp_of_inb hb11) ?_
    obtain ⟨h13, rfl, hf⟩ := lt_some hf
    refine p_aload_n X (dcg dc_X12_takesKnown 63 rfl) rfl rfl ?_
    refine p_dup X (dcg dc_X12_takesKnown 64 rfl) rfl ?_
    refine p_getI X fl_X12_225 rfl (by decide) (dcg dc_X12_takesKnown 65 rfl) hk8 ?_
    refine p_iconst (v := 1) X (dcg dc_X12_takesKnown 66 rfl) (by decide) ?_
    refine p_iadd X (dcg dc_X12_takesKnown 67 rfl) ?_
    refine p_putI X fl_X12_225 rfl (by decide) (fun q hq => by cases hq; rfl) rfl rfl (dcg dc_X12_takesKnown 68 rfl) hk8 ?_
    obtain ⟨h14, rfl, hf⟩ := lt_some hf
    have er := Option.some.inj hf
    subst er
    exact p_vret X rfl (dcg dc_X12_takesKnown 69 rfl) ⟨rfl, rfl⟩ (Nat.le_refl _) (Nat.le_refl _)
  · have hf := if_f q hf
    refine p_aload_n X (dcg dc_X12_takesKnown 46 rfl) rfl rfl ?_
    obtain ⟨hk15, hf⟩ := gd_some hf
    refine p_getR X fl_X12_57 rfl (by decide) (dcg dc_X12_takesKnown 47 rfl) hk15 ?_
    refine p_iload X (dcg dc_X12_takesKnown 48 rfl) rfl ?_
    refine p_aload_n X (dcg dc_X12_takesKnown 49 rfl) rfl rfl ?_
    refine p_getR X fl_X12_57 rfl (by decide) (dcg dc_X12_takesKnown 50 rfl) hk15 ?_
    refine p_iload X (dcg dc_X12_takesKnown 51 rfl) rfl ?_
    refine p_iconst (v := 1) X (dcg dc_X12_takesKnown 52 rfl) (by decide) ?_
    refine p_isub X (dcg dc_X12_takesKnown 53 rfl) ?_
    obtain ⟨a16, e17, hf⟩ := gs_some hf
    first | subst e17 | (try rw [e17])
    obtain ⟨⟨hk19, hb18⟩, hf⟩ := gd_some hf
    refine p_iald X (dcg dc_X12_takesKnown 54 rfl) hk19 (vp_of_inb hb18) ?_
    obtain ⟨hb20, hf⟩ := gd_some hf
    refine p_iast X (dcg dc_X12_takesKnown 55 rfl) hk19 (vp_of_inb hb20) ?_
    obtain ⟨h21, rfl, hf⟩ := lt_some hf
    refine p_iinc (v := -1) X (dcg dc_X12_takesKnown 56 rfl) rfl (by decide) (by decide) rfl ?_
    refine p_goto (tgt := 72) X (dcg dc_X12_takesKnown 57 rfl) (by decide) ?_
    refine p_pick [0, 1, 2, 4] ?_
    exact k0 _ (Option.some.inj hf).symm
noncomputable def fX12_takesKnown_l72 (v0 : Nat) (v1 : Int32) (v2 : Int32) (v4 : Int32) (h : PH) : Option PH := wh (fun z : (Int32 × PH) => fX12_takesKnown_c72 v0 v1 v2 (z.1) (z.2)) (v4, h)
set_option maxRecDepth 100000 in
theorem mX12_takesKnown_l72 {v0 : Nat} {v1 : Int32} {v2 : Int32} {v4 : Int32} {h : PH} {r : PH} (hf : fX12_takesKnown_l72 v0 v1 v2 v4 h = some r) : eqz h (hX r) (hV r) := by
  unfold fX12_takesKnown_l72 at hf
  refine wh_ind (P := fun z => eqz (z.2) (hX r) (hV r)) (fun z x0 hs i1 i2 => ?_) _ hf
  obtain ⟨c0, cf⟩ := mX12_takesKnown_c72 (v0 := v0) (v1 := v1) (v2 := v2) (v4 := z.1) (h := z.2) hs
  rcases hxx : x0 with zz | zz
  · exact eqz_tr (c0 zz hxx) (i1 zz hxx)
  · have ee := i2 zz hxx; subst ee; exact cf zz hxx
set_option maxRecDepth 100000 in
theorem wX12_takesKnown_l72 {E : PE} {p : Program} {l : Launch} {e : Env} {s : State} {m : MethodId} {args : Array Value} {below : List Frame} {meth : Method} {c : Code} (X : Cx E p l e (rmv 3 0 0) s m args below meth c RX12 cX12_takesKnown 5 (none)) (hG : Gs E l) (hnm : meth.name = yX12_takesKnown.name) {v0 : Nat} {v1 : Int32} {v2 : Int32} {v4 : Int32} {h : PH} {r : PH} (hf : fX12_takesKnown_l72 v0 v1 v2 v4 h = some r)  : PW E p l e (rmv 3 0 0) s m args below meth c 5 0 0 (MQ below (QG E (fun v u => v = none ∧ u = r)) args s 0 0 (pA E)) h 72 [(0, some (.ref v0)), (1, some (.int v1)), (2, some (.int v2)), (4, some (.int v4))] [] := by
  unfold fX12_takesKnown_l72 at hf
  refine wh_ind (P := fun z => PW E p l e (rmv 3 0 0) s m args below meth c 5 0 0 (MQ below (QG E (fun v u => v = none ∧ u = r)) args s 0 0 (pA E)) (z.2) 72 [(0, some (.ref v0)), (1, some (.int v1)), (2, some (.int v2)), (4, some (.int (z.1)))] []) (fun z x0 hs i1 i2 => ?_) _ hf
  exact wX12_takesKnown_c72 (r := r) (v0 := v0) (v1 := v1) (v2 := v2) (v4 := z.1) (h := z.2) X hG hnm hs i1  i2
noncomputable def fX12_takesKnown_b66 (v0 : Nat) (v1 : Int32) (v2 : Int32) (h : PH) : Option PH :=
  gd (hK h v0 = 12) (fX12_takesKnown_l72 v0 v1 v2 (hI h 12 v0 20) h)
set_option maxRecDepth 100000 in
theorem mX12_takesKnown_b66 {v0 : Nat} {v1 : Int32} {v2 : Int32} {h : PH} {r : PH} (hf : fX12_takesKnown_b66 v0 v1 v2 h = some r) : eqz h (hX r) (hV r) := by
  unfold fX12_takesKnown_b66 at hf
  have hle := eqz_rf h
  obtain ⟨hk5, hf⟩ := gd_some hf
  exact eqz_rt (mX12_takesKnown_l72 hf) hle
set_option maxRecDepth 100000 in
theorem wX12_takesKnown_b66 {E : PE} {p : Program} {l : Launch} {e : Env} {s : State} {m : MethodId} {args : Array Value} {below : List Frame} {meth : Method} {c : Code} (X : Cx E p l e (rmv 3 0 0) s m args below meth c RX12 cX12_takesKnown 5 (none)) (hG : Gs E l) (hnm : meth.name = yX12_takesKnown.name) {v0 : Nat} {v1 : Int32} {v2 : Int32} {h : PH} {r : PH} (hf : fX12_takesKnown_b66 v0 v1 v2 h = some r)  : PW E p l e (rmv 3 0 0) s m args below meth c 5 0 0 (MQ below (QG E (fun v u => v = none ∧ u = r)) args s 0 0 (pA E)) h 66 [(0, some (.ref v0)), (1, some (.int v1)), (2, some (.int v2))] [] := by
  unfold fX12_takesKnown_b66 at hf
  refine p_aload_n X (dcg dc_X12_takesKnown 40 rfl) rfl rfl ?_
  obtain ⟨hk5, hf⟩ := gd_some hf
  refine p_getI X fl_X12_225 rfl (by decide) (dcg dc_X12_takesKnown 41 rfl) hk5 ?_
  refine p_istore X (dcg dc_X12_takesKnown 42 rfl) (by decide) rfl ?_
  refine p_pick [0, 1, 2, 4] ?_
  exact wX12_takesKnown_l72 X hG hnm hf 
noncomputable def fX12_takesKnown_b44 (v0 : Nat) (v1 : Int32) (v2 : Int32) (v3 : Int32) (h : PH) : Option ((Int32 × Int32) ⊕ PH) :=
  some (.inl (v2, v3))
set_option maxRecDepth 100000 in
theorem mX12_takesKnown_b44 {v0 : Nat} {v1 : Int32} {v2 : Int32} {v3 : Int32} {h : PH} {x : ((Int32 × Int32) ⊕ PH)} (hf : fX12_takesKnown_b44 v0 v1 v2 v3 h = some x) : (∀ w9 : PH, x = .inr w9 → eqz h (hX w9) (hV w9)) := by
  unfold fX12_takesKnown_b44 at hf
  have hle := eqz_rf h
  have ee := Option.some.inj hf; subst ee
  exact (fun z e => nomatch e)
set_option maxRecDepth 100000 in
theorem wX12_takesKnown_b44 {E : PE} {p : Program} {l : Launch} {e : Env} {s : State} {m : MethodId} {args : Array Value} {below : List Frame} {meth : Method} {c : Code} (X : Cx E p l e (rmv 3 0 0) s m args below meth c RX12 cX12_takesKnown 5 (none)) (hG : Gs E l) (hnm : meth.name = yX12_takesKnown.name) {v0 : Nat} {v1 : Int32} {v2 : Int32} {v3 : Int32} {h : PH} {r : PH} {x : ((Int32 × Int32) ⊕ PH)} (hf : fX12_takesKnown_b44 v0 v1 v2 v3 h = some x) (k0 : ∀ z : (Int32 × Int32), x = .inl z → PW E p l e (rmv 3 0 0) s m args below meth c 5 0 0 (MQ below (QG E (fun v u => v = none ∧ u = r)) args s 0 0 (pA E)) h 7 [(0, some (.ref v0)), (1, some (.int v1)), (2, some (.int (z.1))), (3, some (.int (z.2)))] []) (kf : ∀ z : PH, x = .inr z → z = r) : PW E p l e (rmv 3 0 0) s m args below meth c 5 0 0 (MQ below (QG E (fun v u => v = none ∧ u = r)) args s 0 0 (pA E)) h 44 [(0, some (.ref v0)), (1, some (.int v1)), (2, some (.int v2)), (3, some (.int v3))] [] := by
  unfold fX12_takesKnown_b44 at hf
  refine p_goto (tgt := 7) X (dcg dc_X12_takesKnown 28 rfl) (by decide) ?_
  refine p_pick [0, 1, 2, 3] ?_
  exact k0 _ (Option.some.inj hf).symm
noncomputable def fX12_takesKnown_c7 (v0 : Nat) (v1 : Int32) (v2 : Int32) (v3 : Int32) (h : PH) : Option ((Int32 × Int32) ⊕ PH) :=
  if (v3 ≤ v2) then (mr (gd (hK h v0 = 12) (if ((hI h 12 v0 20) ≤ v2) then (fX12_takesKnown_b66 v0 v1 v2 h) else
  gs (hR h 12 v0 19) (fun a22 =>
  gd (hK h a22 = 20 ∧ inb v2 (hN h a22)) (if (¬ (hI h 20 a22 (Int32.toNatClampNeg v2)) = v1) then (fX12_takesKnown_b66 v0 v1 v2 h) else
  some (h)))))) else
  gd (hK h v0 = 12) (gs (hR h 12 v0 19) (fun a27 =>
  gd (hK h a27 = 20 ∧ inb ((v2 + v3) / (2 : Int32)) (hN h a27)) (bd (fX12_isAhead (hI h 20 a27 (Int32.toNatClampNeg ((v2 + v3) / (2 : Int32)))) v1) (fun z31 =>
  if (z31 = 0) then (fX12_takesKnown_b44 v0 v1 v2 ((v2 + v3) / (2 : Int32)) h) else
  fX12_takesKnown_b44 v0 v1 (((v2 + v3) / (2 : Int32)) + (1 : Int32)) v3 h))))
set_option maxRecDepth 100000 in
theorem mX12_takesKnown_c7 {v0 : Nat} {v1 : Int32} {v2 : Int32} {v3 : Int32} {h : PH} {x : ((Int32 × Int32) ⊕ PH)} (hf : fX12_takesKnown_c7 v0 v1 v2 v3 h = some x) : (∀ w9 : PH, x = .inr w9 → eqz h (hX w9) (hV w9)) := by
  unfold fX12_takesKnown_c7 at hf
  have hle := eqz_rf h
  rcases ite_or hf with ⟨q, hf⟩ | ⟨q, hf⟩
  · have hf := if_t q hf
    obtain ⟨y2, hfm, rfl⟩ := mr_some hf; have hf := hfm; clear hfm
    obtain ⟨hk4, hf⟩ := gd_some hf
    rcases ite_or hf with ⟨q, hf⟩ | ⟨q, hf⟩
    · have hf := if_t q hf
      have cf := mX12_takesKnown_b66 hf
      exact (fun z e => by cases e <;> exact eqz_rt cf hle)
    · have hf := if_f q hf
      obtain ⟨a22, e23, hf⟩ := gs_some hf
      obtain ⟨⟨hk25, hb24⟩, hf⟩ := gd_some hf
      rcases ite_or hf with ⟨q, hf⟩ | ⟨q, hf⟩
      · have hf := if_t q hf
        have cf := mX12_takesKnown_b66 hf
        exact (fun z e => by cases e <;> exact eqz_rt cf hle)
      · have hf := if_f q hf
        have ee := Option.some.inj hf; subst ee
        exact (fun z e => by have ee := Sum.inr.inj (e); subst ee; exact hle)
  · have hf := if_f q hf
    obtain ⟨hk26, hf⟩ := gd_some hf
    obtain ⟨a27, e28, hf⟩ := gs_some hf
    obtain ⟨⟨hk30, hb29⟩, hf⟩ := gd_some hf
    obtain ⟨z31, hz31, hf⟩ := bd_some hf
    rcases ite_or hf with ⟨q, hf⟩ | ⟨q, hf⟩
    · have hf := if_t q hf
      obtain cf := mX12_takesKnown_b44 hf
      exact fun z e => eqz_rt (cf z (e)) hle
    · have hf := if_f q hf
      obtain cf := mX12_takesKnown_b44 hf
      exact fun z e => eqz_rt (cf z (e)) hle
set_option maxRecDepth 100000 in
theorem wX12_takesKnown_c7 {E : PE} {p : Program} {l : Launch} {e : Env} {s : State} {m : MethodId} {args : Array Value} {below : List Frame} {meth : Method} {c : Code} (X : Cx E p l e (rmv 3 0 0) s m args below meth c RX12 cX12_takesKnown 5 (none)) (hG : Gs E l) (hnm : meth.name = yX12_takesKnown.name) {v0 : Nat} {v1 : Int32} {v2 : Int32} {v3 : Int32} {h : PH} {r : PH} {x : ((Int32 × Int32) ⊕ PH)} (hf : fX12_takesKnown_c7 v0 v1 v2 v3 h = some x) (k0 : ∀ z : (Int32 × Int32), x = .inl z → PW E p l e (rmv 3 0 0) s m args below meth c 5 0 0 (MQ below (QG E (fun v u => v = none ∧ u = r)) args s 0 0 (pA E)) h 7 [(0, some (.ref v0)), (1, some (.int v1)), (2, some (.int (z.1))), (3, some (.int (z.2)))] []) (kf : ∀ z : PH, x = .inr z → z = r) : PW E p l e (rmv 3 0 0) s m args below meth c 5 0 0 (MQ below (QG E (fun v u => v = none ∧ u = r)) args s 0 0 (pA E)) h 7 [(0, some (.ref v0)), (1, some (.int v1)), (2, some (.int v2)), (3, some (.int v3))] [] := by
  unfold fX12_takesKnown_c7 at hf
  refine p_iload_n X (dcg dc_X12_takesKnown 5 rfl) rfl rfl ?_
  refine p_iload_n X (dcg dc_X12_takesKnown 6 rfl) rfl rfl ?_
  refine p_icmp_ge (tgt := 47) X (dcg dc_X12_takesKnown 7 rfl) (by decide) (fun q => ?_) (fun q => ?_)
  · have hf := if_t q hf
    obtain ⟨y2, hf, hy3⟩ := mr_some hf
    have hy3f := kf y2 hy3
    subst hy3f
    refine p_iload_n X (dcg dc_X12_takesKnown 29 rfl) rfl rfl ?_
    refine p_aload_n X (dcg dc_X12_takesKnown 30 rfl) rfl rfl ?_
    obtain ⟨hk4, hf⟩ := gd_some hf
    refine p_getI X fl_X12_225 rfl (by decide) (dcg dc_X12_takesKnown 31 rfl) hk4 ?_
    refine p_icmp_ge (tgt := 66) X (dcg dc_X12_takesKnown 32 rfl) (by decide) (fun q => ?_) (fun q => ?_)
    · have hf := if_t q hf
      refine p_pick [0, 1, 2] ?_
      exact wX12_takesKnown_b66 X hG hnm hf 
    · have hf := if_f q hf
      refine p_aload_n X (dcg dc_X12_takesKnown 33 rfl) rfl rfl ?_
      refine p_getR X fl_X12_57 rfl (by decide) (dcg dc_X12_takesKnown 34 rfl) hk4 ?_
      refine p_iload_n X (dcg dc_X12_takesKnown 35 rfl) rfl rfl ?_
      obtain ⟨a22, e23, hf⟩ := gs_some hf
      first | subst e23 | (try rw [e23])
      obtain ⟨⟨hk25, hb24⟩, hf⟩ := gd_some hf
      refine p_iald X (dcg dc_X12_takesKnown 36 rfl) hk25 (vp_of_inb hb24) ?_
      refine p_iload_n X (dcg dc_X12_takesKnown 37 rfl) rfl rfl ?_
      refine p_icmp_ne (tgt := 66) X (dcg dc_X12_takesKnown 38 rfl) (by decide) (fun q => ?_) (fun q => ?_)
      · have hf := if_t q hf
        refine p_pick [0, 1, 2] ?_
        exact wX12_takesKnown_b66 X hG hnm hf 
      · have hf := if_f q hf
        have er := Option.some.inj hf
        subst er
        exact p_vret X rfl (dcg dc_X12_takesKnown 39 rfl) ⟨rfl, rfl⟩ (Nat.le_refl _) (Nat.le_refl _)
  · have hf := if_f q hf
    refine p_iload_n X (dcg dc_X12_takesKnown 8 rfl) rfl rfl ?_
    refine p_iload_n X (dcg dc_X12_takesKnown 9 rfl) rfl rfl ?_
    refine p_iadd X (dcg dc_X12_takesKnown 10 rfl) ?_
    refine p_iconst (v := 2) X (dcg dc_X12_takesKnown 11 rfl) (by decide) ?_
    refine p_idiv X (dcg dc_X12_takesKnown 12 rfl) (by decide) ?_
    refine p_istore X (dcg dc_X12_takesKnown 13 rfl) (by decide) rfl ?_
    refine p_aload_n X (dcg dc_X12_takesKnown 14 rfl) rfl rfl ?_
    obtain ⟨hk26, hf⟩ := gd_some hf
    refine p_getR X fl_X12_57 rfl (by decide) (dcg dc_X12_takesKnown 15 rfl) hk26 ?_
    refine p_iload X (dcg dc_X12_takesKnown 16 rfl) rfl ?_
    obtain ⟨a27, e28, hf⟩ := gs_some hf
    first | subst e28 | (try rw [e28])
    obtain ⟨⟨hk30, hb29⟩, hf⟩ := gd_some hf
    refine p_iald X (dcg dc_X12_takesKnown 17 rfl) hk30 (vp_of_inb hb29) ?_
    refine p_iload_n X (dcg dc_X12_takesKnown 18 rfl) rfl rfl ?_
    obtain ⟨z31, hz31, hf⟩ := bd_some hf
    refine p_callS (As := [_, _]) X ml_X12_228 (dcg dc_X12_takesKnown 19 rfl) rfl rfl  (wX12_isAhead hG hz31) (by decide) (room4 (Nat.le_of_ble_eq_true rfl)) (Nat.le_refl _) (Nat.le_refl _) ?_
    rintro _ u9 ⟨rfl, e9⟩; have e9 := e9.symm; subst e9
    refine p_if_eq (tgt := 41) X (dcg dc_X12_takesKnown 20 rfl) (by decide) (fun q => ?_) (fun q => ?_)
    · have hf := if_t q hf
      refine p_iload X (dcg dc_X12_takesKnown 26 rfl) rfl ?_
      refine p_istore_n X (dcg dc_X12_takesKnown 27 rfl) rfl (by decide) rfl ?_
      refine p_pick [0, 1, 2, 3] ?_
      exact wX12_takesKnown_b44 X hG hnm hf k0 kf
    · have hf := if_f q hf
      refine p_iload X (dcg dc_X12_takesKnown 21 rfl) rfl ?_
      refine p_iconst (v := 1) X (dcg dc_X12_takesKnown 22 rfl) (by decide) ?_
      refine p_iadd X (dcg dc_X12_takesKnown 23 rfl) ?_
      refine p_istore_n X (dcg dc_X12_takesKnown 24 rfl) rfl (by decide) rfl ?_
      refine p_goto (tgt := 44) X (dcg dc_X12_takesKnown 25 rfl) (by decide) ?_
      refine p_pick [0, 1, 2, 3] ?_
      exact wX12_takesKnown_b44 X hG hnm hf k0 kf
noncomputable def fX12_takesKnown_l7 (v0 : Nat) (v1 : Int32) (v2 : Int32) (v3 : Int32) (h : PH) : Option PH := wh (fun z : (Int32 × Int32) => fX12_takesKnown_c7 v0 v1 (z.1) (z.2) h) (v2, v3)
set_option maxRecDepth 100000 in
theorem mX12_takesKnown_l7 {v0 : Nat} {v1 : Int32} {v2 : Int32} {v3 : Int32} {h : PH} {r : PH} (hf : fX12_takesKnown_l7 v0 v1 v2 v3 h = some r) : eqz h (hX r) (hV r) := by
  unfold fX12_takesKnown_l7 at hf
  refine wh_ind (P := fun z => eqz h (hX r) (hV r)) (fun z x0 hs i1 i2 => ?_) _ hf
  obtain cf := mX12_takesKnown_c7 (v0 := v0) (v1 := v1) (v2 := z.1) (v3 := z.2) (h := h) hs
  rcases hxx : x0 with zz | zz
  · exact (i1 zz hxx)
  · have ee := i2 zz hxx; subst ee; exact cf zz hxx
set_option maxRecDepth 100000 in
theorem wX12_takesKnown_l7 {E : PE} {p : Program} {l : Launch} {e : Env} {s : State} {m : MethodId} {args : Array Value} {below : List Frame} {meth : Method} {c : Code} (X : Cx E p l e (rmv 3 0 0) s m args below meth c RX12 cX12_takesKnown 5 (none)) (hG : Gs E l) (hnm : meth.name = yX12_takesKnown.name) {v0 : Nat} {v1 : Int32} {v2 : Int32} {v3 : Int32} {h : PH} {r : PH} (hf : fX12_takesKnown_l7 v0 v1 v2 v3 h = some r)  : PW E p l e (rmv 3 0 0) s m args below meth c 5 0 0 (MQ below (QG E (fun v u => v = none ∧ u = r)) args s 0 0 (pA E)) h 7 [(0, some (.ref v0)), (1, some (.int v1)), (2, some (.int v2)), (3, some (.int v3))] [] := by
  unfold fX12_takesKnown_l7 at hf
  refine wh_ind (P := fun z => PW E p l e (rmv 3 0 0) s m args below meth c 5 0 0 (MQ below (QG E (fun v u => v = none ∧ u = r)) args s 0 0 (pA E)) h 7 [(0, some (.ref v0)), (1, some (.int v1)), (2, some (.int (z.1))), (3, some (.int (z.2)))] []) (fun z x0 hs i1 i2 => ?_) _ hf
  exact wX12_takesKnown_c7 (r := r) (v0 := v0) (v1 := v1) (v2 := z.1) (v3 := z.2) (h := h) X hG hnm hs i1  i2
noncomputable def fX12_takesKnown (v0 : Nat) (v1 : Int32) (h : PH) : Option PH :=
  gd (hK h v0 = 12) (fX12_takesKnown_l7 v0 v1 (0 : Int32) (hI h 12 v0 20) h)
set_option maxRecDepth 100000 in
theorem mX12_takesKnown {v0 : Nat} {v1 : Int32} {h : PH} {r : PH} (hf : fX12_takesKnown v0 v1 h = some r) : eqz h (hX r) (hV r) := by
  unfold fX12_takesKnown at hf
  have hle := eqz_rf h
  obtain ⟨hk1, hf⟩ := gd_some hf
  exact eqz_rt (mX12_takesKnown_l7 hf) hle
set_option maxRecDepth 100000 in
theorem wX12_takesKnown {E : PE} {l : Launch} (hG : Gs E l) {v0 : Nat} {v1 : Int32} {h : PH} {r : PH} (hf : fX12_takesKnown v0 v1 h = some r) : Ct E l 3 0 0 yX12_takesKnown cX12_takesKnown 5 (none) [.ref v0, .int v1] h (fun v u => v = none ∧ u = r) := by
  refine ct_of hG (by decide) (Nat.le_of_ble_eq_true rfl) ?_
  intro p e s m args below meth c X hnm
  show PW E p l e _ s m args below meth c _ 0 0 _ h 0 [(0, some (.ref v0)), (1, some (.int v1))] []
  unfold fX12_takesKnown at hf
  refine p_iconst (v := 0) X (dcg dc_X12_takesKnown 0 rfl) (by decide) ?_
  refine p_istore_n X (dcg dc_X12_takesKnown 1 rfl) rfl (by decide) rfl ?_
  refine p_aload_n X (dcg dc_X12_takesKnown 2 rfl) rfl rfl ?_
  obtain ⟨hk1, hf⟩ := gd_some hf
  refine p_getI X fl_X12_225 rfl (by decide) (dcg dc_X12_takesKnown 3 rfl) hk1 ?_
  refine p_istore_n X (dcg dc_X12_takesKnown 4 rfl) rfl (by decide) rfl ?_
  refine p_pick [0, 1, 2, 3] ?_
  exact wX12_takesKnown_l7 X hG hnm hf 
theorem dc_X12_finds : decs cX12_finds [(0, .aload_n 0, 1), (1, .iconst 0, 1), (2, .putfield 225, 3), (5, .iconst 0, 1), (6, .istore_n 1, 1), (7, .iload_n 1, 1), (8, .bipush 100, 2), (10, .if_icmp .ge 49, 3), (13, .aload_n 0, 1), (14, .getfield 20, 3), (17, .iload_n 1, 1), (18, .baload, 1), (19, .ifCond .ne 6, 3), (22, .goto 31, 3), (25, .iconst 0, 1), (26, .istore_n 2, 1), (27, .iload_n 2, 1), (28, .aload_n 0, 1), (29, .getfield 27, 3), (32, .iload_n 1, 1), (33, .iaload, 1), (34, .if_icmp .ge 19, 3), (37, .aload_n 0, 1), (38, .aload_n 0, 1), (39, .iload_n 1, 1), (40, .iload_n 2, 1), (41, .invokevirtual 186, 3), (44, .invokevirtual 231, 3), (47, .iinc 2 1, 3), (50, .goto (-23), 3), (53, .iinc 1 1, 3), (56, .goto (-49), 3), (59, .return_, 1)] = true := by decide +kernel
noncomputable def fX12_finds_b53 (v0 : Nat) (v1 : Int32) (h : PH) : Option ((Int32 × PH) ⊕ PH) :=
  some (.inl ((v1 + 1), h))
set_option maxRecDepth 100000 in
theorem mX12_finds_b53 {v0 : Nat} {v1 : Int32} {h : PH} {x : ((Int32 × PH) ⊕ PH)} (hf : fX12_finds_b53 v0 v1 h = some x) : (∀ w9 : (Int32 × PH), x = .inl w9 → eqz h (hX (w9.2)) (hV (w9.2))) ∧ (∀ w9 : PH, x = .inr w9 → eqz h (hX w9) (hV w9)) := by
  unfold fX12_finds_b53 at hf
  have hle := eqz_rf h
  have ee := Option.some.inj hf; subst ee
  exact ⟨(fun z e => by have ee := Sum.inl.inj (e); subst ee; exact hle), (fun z e => nomatch e)⟩
set_option maxRecDepth 100000 in
theorem wX12_finds_b53 {E : PE} {p : Program} {l : Launch} {e : Env} {s : State} {m : MethodId} {args : Array Value} {below : List Frame} {meth : Method} {c : Code} (X : Cx E p l e (rmv 4 0 0) s m args below meth c RX12 cX12_finds 3 (none)) (hG : Gs E l) (hnm : meth.name = yX12_finds.name) {v0 : Nat} {v1 : Int32} {h : PH} {r : PH} {x : ((Int32 × PH) ⊕ PH)} (hf : fX12_finds_b53 v0 v1 h = some x) (k0 : ∀ z : (Int32 × PH), x = .inl z → PW E p l e (rmv 4 0 0) s m args below meth c 3 0 0 (MQ below (QG E (fun v u => v = none ∧ u = r)) args s 0 0 (pA E)) (z.2) 7 [(0, some (.ref v0)), (1, some (.int (z.1)))] []) (kf : ∀ z : PH, x = .inr z → z = r) : PW E p l e (rmv 4 0 0) s m args below meth c 3 0 0 (MQ below (QG E (fun v u => v = none ∧ u = r)) args s 0 0 (pA E)) h 53 [(0, some (.ref v0)), (1, some (.int v1))] [] := by
  unfold fX12_finds_b53 at hf
  refine p_iinc (v := 1) X (dcg dc_X12_finds 30 rfl) rfl (by decide) (by decide) rfl ?_
  refine p_goto (tgt := 7) X (dcg dc_X12_finds 31 rfl) (by decide) ?_
  refine p_pick [0, 1] ?_
  exact k0 _ (Option.some.inj hf).symm
noncomputable def fX12_finds_c27 (v0 : Nat) (v1 : Int32) (v2 : Int32) (h : PH) : Option ((Int32 × PH) ⊕ ((Int32 × PH) ⊕ PH)) :=
  gd (hK h v0 = 12) (gs (hR h 12 v0 6) (fun a11 =>
  gd (hK h a11 = 20 ∧ inb v1 (hN h a11)) (if ((hI h 20 a11 (Int32.toNatClampNeg v1)) ≤ v2) then (mr (fX12_finds_b53 v0 v1 h)) else
  bd (fX12_wordIn v0 v1 v2 h) (fun z17 =>
  bd (fX12_takesKnown v0 z17 h) (fun z18 =>
  some (.inl ((v2 + 1), z18)))))))
set_option maxRecDepth 100000 in
theorem mX12_finds_c27 {v0 : Nat} {v1 : Int32} {v2 : Int32} {h : PH} {x : ((Int32 × PH) ⊕ ((Int32 × PH) ⊕ PH))} (hf : fX12_finds_c27 v0 v1 v2 h = some x) : (∀ w9 : (Int32 × PH), x = .inl w9 → eqz h (hX (w9.2)) (hV (w9.2))) ∧ (∀ w9 : (Int32 × PH), x = .inr (.inl w9) → eqz h (hX (w9.2)) (hV (w9.2))) ∧ (∀ w9 : PH, x = .inr (.inr w9) → eqz h (hX w9) (hV w9)) := by
  unfold fX12_finds_c27 at hf
  have hle := eqz_rf h
  obtain ⟨hk10, hf⟩ := gd_some hf
  obtain ⟨a11, e12, hf⟩ := gs_some hf
  obtain ⟨⟨hk14, hb13⟩, hf⟩ := gd_some hf
  rcases ite_or hf with ⟨q, hf⟩ | ⟨q, hf⟩
  · have hf := if_t q hf
    obtain ⟨y15, hfm, rfl⟩ := mr_some hf; have hf := hfm; clear hfm
    obtain ⟨c0, cf⟩ := mX12_finds_b53 hf
    exact ⟨(fun z e => nomatch e), fun z e => eqz_rt (c0 z (Sum.inr.inj (e))) hle, fun z e => eqz_rt (cf z (Sum.inr.inj (e))) hle⟩
  · have hf := if_f q hf
    obtain ⟨z17, hz17, hf⟩ := bd_some hf
    obtain ⟨z18, hz18, hf⟩ := bd_some hf
    have hle := eqz_rt (mX12_takesKnown hz18) hle
    have ee := Option.some.inj hf; subst ee
    exact ⟨(fun z e => by have ee := Sum.inl.inj (e); subst ee; exact hle), (fun z e => nomatch e), (fun z e => nomatch e)⟩
set_option maxRecDepth 100000 in
theorem wX12_finds_c27 {E : PE} {p : Program} {l : Launch} {e : Env} {s : State} {m : MethodId} {args : Array Value} {below : List Frame} {meth : Method} {c : Code} (X : Cx E p l e (rmv 4 0 0) s m args below meth c RX12 cX12_finds 3 (none)) (hG : Gs E l) (hnm : meth.name = yX12_finds.name) {v0 : Nat} {v1 : Int32} {v2 : Int32} {h : PH} {r : PH} {x : ((Int32 × PH) ⊕ ((Int32 × PH) ⊕ PH))} (hf : fX12_finds_c27 v0 v1 v2 h = some x) (k0 : ∀ z : (Int32 × PH), x = .inl z → PW E p l e (rmv 4 0 0) s m args below meth c 3 0 0 (MQ below (QG E (fun v u => v = none ∧ u = r)) args s 0 0 (pA E)) (z.2) 27 [(0, some (.ref v0)), (1, some (.int v1)), (2, some (.int (z.1)))] []) (k1 : ∀ z : (Int32 × PH), x = .inr (.inl z) → PW E p l e (rmv 4 0 0) s m args below meth c 3 0 0 (MQ below (QG E (fun v u => v = none ∧ u = r)) args s 0 0 (pA E)) (z.2) 7 [(0, some (.ref v0)), (1, some (.int (z.1)))] []) (kf : ∀ z : PH, x = .inr (.inr z) → z = r) : PW E p l e (rmv 4 0 0) s m args below meth c 3 0 0 (MQ below (QG E (fun v u => v = none ∧ u = r)) args s 0 0 (pA E)) h 27 [(0, some (.ref v0)), (1, some (.int v1)), (2, some (.int v2))] [] := by
  unfold fX12_finds_c27 at hf
  refine p_iload_n X (dcg dc_X12_finds 16 rfl) rfl rfl ?_
  refine p_aload_n X (dcg dc_X12_finds 17 rfl) rfl rfl ?_
  obtain ⟨hk10, hf⟩ := gd_some hf
  refine p_getR X fl_X12_27 rfl (by decide) (dcg dc_X12_finds 18 rfl) hk10 ?_
  refine p_iload_n X (dcg dc_X12_finds 19 rfl) rfl rfl ?_
  obtain ⟨a11, e12, hf⟩ := gs_some hf
  first | subst e12 | (try rw [e12])
  obtain ⟨⟨hk14, hb13⟩, hf⟩ := gd_some hf
  refine p_iald X (dcg dc_X12_finds 20 rfl) hk14 (vp_of_inb hb13) ?_
  refine p_icmp_ge (tgt := 53) X (dcg dc_X12_finds 21 rfl) (by decide) (fun q => ?_) (fun q => ?_)
  · have hf := if_t q hf
    obtain ⟨y15, hf, hy16⟩ := mr_some hf
    refine p_pick [0, 1] ?_
    exact wX12_finds_b53 X hG hnm hf (fun z0 e0 => k1 z0 (hy16.trans (congrArg Sum.inr e0))) (fun z0 e0 => kf z0 (hy16.trans (congrArg Sum.inr e0)))
  · have hf := if_f q hf
    refine p_aload_n X (dcg dc_X12_finds 22 rfl) rfl rfl ?_
    refine p_aload_n X (dcg dc_X12_finds 23 rfl) rfl rfl ?_
    refine p_iload_n X (dcg dc_X12_finds 24 rfl) rfl rfl ?_
    refine p_iload_n X (dcg dc_X12_finds 25 rfl) rfl rfl ?_
    obtain ⟨z17, hz17, hf⟩ := bd_some hf
    refine p_callV (As := [_, _]) X ml_X12_186 (dcg dc_X12_finds 26 rfl) rfl rfl hk10 (wX12_wordIn hG hz17) (by decide) (room4 (Nat.le_of_ble_eq_true rfl)) (Nat.le_refl _) (Nat.le_refl _) ?_
    rintro _ u9 ⟨rfl, e9⟩; have e9 := e9.symm; subst e9
    obtain ⟨z18, hz18, hf⟩ := bd_some hf
    refine p_callV (As := [_]) X ml_X12_231 (dcg dc_X12_finds 27 rfl) rfl rfl hk10 (wX12_takesKnown hG hz18) (by decide) (room4 (Nat.le_of_ble_eq_true rfl)) (Nat.le_refl _) (Nat.le_refl _) ?_
    rintro _ u9 ⟨rfl, e9⟩; have e9 := e9.symm; subst e9
    refine p_iinc (v := 1) X (dcg dc_X12_finds 28 rfl) rfl (by decide) (by decide) rfl ?_
    refine p_goto (tgt := 27) X (dcg dc_X12_finds 29 rfl) (by decide) ?_
    refine p_pick [0, 1, 2] ?_
    exact k0 _ (Option.some.inj hf).symm
noncomputable def fX12_finds_l27 (v0 : Nat) (v1 : Int32) (v2 : Int32) (h : PH) : Option ((Int32 × PH) ⊕ PH) := wh (fun z : (Int32 × PH) => fX12_finds_c27 v0 v1 (z.1) (z.2)) (v2, h)
set_option maxRecDepth 100000 in
theorem mX12_finds_l27 {v0 : Nat} {v1 : Int32} {v2 : Int32} {h : PH} {x : ((Int32 × PH) ⊕ PH)} (hf : fX12_finds_l27 v0 v1 v2 h = some x) : (∀ w9 : (Int32 × PH), x = .inl w9 → eqz h (hX (w9.2)) (hV (w9.2))) ∧ (∀ w9 : PH, x = .inr w9 → eqz h (hX w9) (hV w9)) := by
  unfold fX12_finds_l27 at hf
  refine wh_ind (P := fun z => (∀ w9 : (Int32 × PH), x = .inl w9 → eqz (z.2) (hX (w9.2)) (hV (w9.2))) ∧ (∀ w9 : PH, x = .inr w9 → eqz (z.2) (hX w9) (hV w9))) (fun z x0 hs i1 i2 => ?_) _ hf
  obtain ⟨c0, c1, cf⟩ := mX12_finds_c27 (v0 := v0) (v1 := v1) (v2 := z.1) (h := z.2) hs
  rcases hxx : x0 with zz | (zz | zz)
  · obtain ⟨d0, d1⟩ := (i1 zz hxx)
    exact ⟨fun z1 e1 => eqz_tr (c0 zz hxx) (d0 z1 e1), fun z1 e1 => eqz_tr (c0 zz hxx) (d1 z1 e1)⟩
  · have ee := i2 _ hxx; subst ee
    exact ⟨(fun z1 e1 => by cases e1 <;> exact c1 zz hxx), (fun z1 e1 => nomatch e1)⟩
  · have ee := i2 _ hxx; subst ee
    exact ⟨(fun z1 e1 => nomatch e1), (fun z1 e1 => by cases e1; exact cf zz hxx)⟩
set_option maxRecDepth 100000 in
theorem wX12_finds_l27 {E : PE} {p : Program} {l : Launch} {e : Env} {s : State} {m : MethodId} {args : Array Value} {below : List Frame} {meth : Method} {c : Code} (X : Cx E p l e (rmv 4 0 0) s m args below meth c RX12 cX12_finds 3 (none)) (hG : Gs E l) (hnm : meth.name = yX12_finds.name) {v0 : Nat} {v1 : Int32} {v2 : Int32} {h : PH} {r : PH} {x : ((Int32 × PH) ⊕ PH)} (hf : fX12_finds_l27 v0 v1 v2 h = some x) (k0 : ∀ z : (Int32 × PH), x = .inl z → PW E p l e (rmv 4 0 0) s m args below meth c 3 0 0 (MQ below (QG E (fun v u => v = none ∧ u = r)) args s 0 0 (pA E)) (z.2) 7 [(0, some (.ref v0)), (1, some (.int (z.1)))] []) (kf : ∀ z : PH, x = .inr z → z = r) : PW E p l e (rmv 4 0 0) s m args below meth c 3 0 0 (MQ below (QG E (fun v u => v = none ∧ u = r)) args s 0 0 (pA E)) h 27 [(0, some (.ref v0)), (1, some (.int v1)), (2, some (.int v2))] [] := by
  unfold fX12_finds_l27 at hf
  refine wh_ind (P := fun z => PW E p l e (rmv 4 0 0) s m args below meth c 3 0 0 (MQ below (QG E (fun v u => v = none ∧ u = r)) args s 0 0 (pA E)) (z.2) 27 [(0, some (.ref v0)), (1, some (.int v1)), (2, some (.int (z.1)))] []) (fun z x0 hs i1 i2 => ?_) _ hf
  exact wX12_finds_c27 (r := r) (v0 := v0) (v1 := v1) (v2 := z.1) (h := z.2) X hG hnm hs i1 (fun z1 e1 => k0 z1 (i2 _ e1).symm) (fun z1 e1 => kf z1 (i2 _ e1).symm)
noncomputable def fX12_finds_c7 (v0 : Nat) (v1 : Int32) (h : PH) : Option ((Int32 × PH) ⊕ PH) :=
  if ((100 : Int32) ≤ v1) then (mr (some (h))) else
  gd (hK h v0 = 12) (gs (hR h 12 v0 4) (fun a6 =>
  gd (hK h a6 = 21 ∧ inb v1 (hN h a6)) (if (¬ (hI h 21 a6 (Int32.toNatClampNeg v1)) = 0) then (fX12_finds_l27 v0 v1 (0 : Int32) h) else
  fX12_finds_b53 v0 v1 h)))
set_option maxRecDepth 100000 in
theorem mX12_finds_c7 {v0 : Nat} {v1 : Int32} {h : PH} {x : ((Int32 × PH) ⊕ PH)} (hf : fX12_finds_c7 v0 v1 h = some x) : (∀ w9 : (Int32 × PH), x = .inl w9 → eqz h (hX (w9.2)) (hV (w9.2))) ∧ (∀ w9 : PH, x = .inr w9 → eqz h (hX w9) (hV w9)) := by
  unfold fX12_finds_c7 at hf
  have hle := eqz_rf h
  rcases ite_or hf with ⟨q, hf⟩ | ⟨q, hf⟩
  · have hf := if_t q hf
    obtain ⟨y3, hfm, rfl⟩ := mr_some hf; have hf := hfm; clear hfm
    have ee := Option.some.inj hf; subst ee
    exact ⟨(fun z e => nomatch e), (fun z e => by have ee := Sum.inr.inj (e); subst ee; exact hle)⟩
  · have hf := if_f q hf
    obtain ⟨hk5, hf⟩ := gd_some hf
    obtain ⟨a6, e7, hf⟩ := gs_some hf
    obtain ⟨⟨hk9, hb8⟩, hf⟩ := gd_some hf
    rcases ite_or hf with ⟨q, hf⟩ | ⟨q, hf⟩
    · have hf := if_t q hf
      obtain ⟨c0, cf⟩ := mX12_finds_l27 hf
      exact ⟨fun z e => eqz_rt (c0 z (e)) hle, fun z e => eqz_rt (cf z (e)) hle⟩
    · have hf := if_f q hf
      obtain ⟨c0, cf⟩ := mX12_finds_b53 hf
      exact ⟨fun z e => eqz_rt (c0 z (e)) hle, fun z e => eqz_rt (cf z (e)) hle⟩
set_option maxRecDepth 100000 in
theorem wX12_finds_c7 {E : PE} {p : Program} {l : Launch} {e : Env} {s : State} {m : MethodId} {args : Array Value} {below : List Frame} {meth : Method} {c : Code} (X : Cx E p l e (rmv 4 0 0) s m args below meth c RX12 cX12_finds 3 (none)) (hG : Gs E l) (hnm : meth.name = yX12_finds.name) {v0 : Nat} {v1 : Int32} {h : PH} {r : PH} {x : ((Int32 × PH) ⊕ PH)} (hf : fX12_finds_c7 v0 v1 h = some x) (k0 : ∀ z : (Int32 × PH), x = .inl z → PW E p l e (rmv 4 0 0) s m args below meth c 3 0 0 (MQ below (QG E (fun v u => v = none ∧ u = r)) args s 0 0 (pA E)) (z.2) 7 [(0, some (.ref v0)), (1, some (.int (z.1)))] []) (kf : ∀ z : PH, x = .inr z → z = r) : PW E p l e (rmv 4 0 0) s m args below meth c 3 0 0 (MQ below (QG E (fun v u => v = none ∧ u = r)) args s 0 0 (pA E)) h 7 [(0, some (.ref v0)), (1, some (.int v1))] [] := by
  unfold fX12_finds_c7 at hf
  refine p_iload_n X (dcg dc_X12_finds 5 rfl) rfl rfl ?_
  refine p_bipush (v := 100) X (dcg dc_X12_finds 6 rfl) (by decide) ?_
  refine p_icmp_ge (tgt := 59) X (dcg dc_X12_finds 7 rfl) (by decide) (fun q => ?_) (fun q => ?_)
  · have hf := if_t q hf
    obtain ⟨y3, hf, hy4⟩ := mr_some hf
    have hy4f := kf y3 hy4
    subst hy4f
    have er := Option.some.inj hf
    subst er
    exact p_vret X rfl (dcg dc_X12_finds 32 rfl) ⟨rfl, rfl⟩ (Nat.le_refl _) (Nat.le_refl _)
  · have hf := if_f q hf
    refine p_aload_n X (dcg dc_X12_finds 8 rfl) rfl rfl ?_
    obtain ⟨hk5, hf⟩ := gd_some hf
    refine p_getR X fl_X12_20 rfl (by decide) (dcg dc_X12_finds 9 rfl) hk5 ?_
    refine p_iload_n X (dcg dc_X12_finds 10 rfl) rfl rfl ?_
    obtain ⟨a6, e7, hf⟩ := gs_some hf
    first | subst e7 | (try rw [e7])
    obtain ⟨⟨hk9, hb8⟩, hf⟩ := gd_some hf
    refine p_zald X (dcg dc_X12_finds 11 rfl) hk9 (vp_of_inb hb8) ?_
    refine p_if_ne (tgt := 25) X (dcg dc_X12_finds 12 rfl) (by decide) (fun q => ?_) (fun q => ?_)
    · have hf := if_t q hf
      refine p_iconst (v := 0) X (dcg dc_X12_finds 14 rfl) (by decide) ?_
      refine p_istore_n X (dcg dc_X12_finds 15 rfl) rfl (by decide) rfl ?_
      refine p_pick [0, 1, 2] ?_
      exact wX12_finds_l27 X hG hnm hf k0 kf
    · have hf := if_f q hf
      refine p_goto (tgt := 53) X (dcg dc_X12_finds 13 rfl) (by decide) ?_
      refine p_pick [0, 1] ?_
      exact wX12_finds_b53 X hG hnm hf k0 kf
noncomputable def fX12_finds_l7 (v0 : Nat) (v1 : Int32) (h : PH) : Option PH := wh (fun z : (Int32 × PH) => fX12_finds_c7 v0 (z.1) (z.2)) (v1, h)
set_option maxRecDepth 100000 in
theorem mX12_finds_l7 {v0 : Nat} {v1 : Int32} {h : PH} {r : PH} (hf : fX12_finds_l7 v0 v1 h = some r) : eqz h (hX r) (hV r) := by
  unfold fX12_finds_l7 at hf
  refine wh_ind (P := fun z => eqz (z.2) (hX r) (hV r)) (fun z x0 hs i1 i2 => ?_) _ hf
  obtain ⟨c0, cf⟩ := mX12_finds_c7 (v0 := v0) (v1 := z.1) (h := z.2) hs
  rcases hxx : x0 with zz | zz
  · exact eqz_tr (c0 zz hxx) (i1 zz hxx)
  · have ee := i2 zz hxx; subst ee; exact cf zz hxx
set_option maxRecDepth 100000 in
theorem wX12_finds_l7 {E : PE} {p : Program} {l : Launch} {e : Env} {s : State} {m : MethodId} {args : Array Value} {below : List Frame} {meth : Method} {c : Code} (X : Cx E p l e (rmv 4 0 0) s m args below meth c RX12 cX12_finds 3 (none)) (hG : Gs E l) (hnm : meth.name = yX12_finds.name) {v0 : Nat} {v1 : Int32} {h : PH} {r : PH} (hf : fX12_finds_l7 v0 v1 h = some r)  : PW E p l e (rmv 4 0 0) s m args below meth c 3 0 0 (MQ below (QG E (fun v u => v = none ∧ u = r)) args s 0 0 (pA E)) h 7 [(0, some (.ref v0)), (1, some (.int v1))] [] := by
  unfold fX12_finds_l7 at hf
  refine wh_ind (P := fun z => PW E p l e (rmv 4 0 0) s m args below meth c 3 0 0 (MQ below (QG E (fun v u => v = none ∧ u = r)) args s 0 0 (pA E)) (z.2) 7 [(0, some (.ref v0)), (1, some (.int (z.1)))] []) (fun z x0 hs i1 i2 => ?_) _ hf
  exact wX12_finds_c7 (r := r) (v0 := v0) (v1 := z.1) (h := z.2) X hG hnm hs i1  i2
noncomputable def fX12_finds (v0 : Nat) (h : PH) : Option PH :=
  gd (hK h v0 = 12) (lt (sI h 12 v0 20 (0 : Int32)) (fun h2 =>
  fX12_finds_l7 v0 (0 : Int32) h2))
set_option maxRecDepth 100000 in
theorem mX12_finds {v0 : Nat} {h : PH} {r : PH} (hf : fX12_finds v0 h = some r) : eqz h (hX r) (hV r) := by
  unfold fX12_finds at hf
  have hle := eqz_rf h
  obtain ⟨hk1, hf⟩ := gd_some hf
  obtain ⟨h2, rfl, hf⟩ := lt_some hf
  exact eqz_rt (mX12_finds_l7 hf) hle
set_option maxRecDepth 100000 in
theorem wX12_finds {E : PE} {l : Launch} (hG : Gs E l) {v0 : Nat} {h : PH} {r : PH} (hf : fX12_finds v0 h = some r) : Ct E l 4 0 0 yX12_finds cX12_finds 3 (none) [.ref v0] h (fun v u => v = none ∧ u = r) := by
  refine ct_of hG (by decide) (Nat.le_of_ble_eq_true rfl) ?_
  intro p e s m args below meth c X hnm
  show PW E p l e _ s m args below meth c _ 0 0 _ h 0 [(0, some (.ref v0))] []
  unfold fX12_finds at hf
  refine p_aload_n X (dcg dc_X12_finds 0 rfl) rfl rfl ?_
  refine p_iconst (v := 0) X (dcg dc_X12_finds 1 rfl) (by decide) ?_
  obtain ⟨hk1, hf⟩ := gd_some hf
  refine p_putI X fl_X12_225 rfl (by decide) (fun q hq => by cases hq; rfl) rfl rfl (dcg dc_X12_finds 2 rfl) hk1 ?_
  obtain ⟨h2, rfl, hf⟩ := lt_some hf
  refine p_iconst (v := 0) X (dcg dc_X12_finds 3 rfl) (by decide) ?_
  refine p_istore_n X (dcg dc_X12_finds 4 rfl) rfl (by decide) rfl ?_
  refine p_pick [0, 1] ?_
  exact wX12_finds_l7 X hG hnm hf 
theorem dc_X12_has : decs cX12_has [(0, .iconst 0, 1), (1, .istore_n 3, 1), (2, .aload_n 0, 1), (3, .getfield 20, 3), (6, .iload_n 1, 1), (7, .baload, 1), (8, .ifCond .eq 31, 3), (11, .iload_n 3, 1), (12, .aload_n 0, 1), (13, .getfield 27, 3), (16, .iload_n 1, 1), (17, .iaload, 1), (18, .if_icmp .ge 21, 3), (21, .aload_n 0, 1), (22, .iload_n 1, 1), (23, .iload_n 3, 1), (24, .invokevirtual 186, 3), (27, .iload_n 2, 1), (28, .if_icmp .ne 5, 3), (31, .iconst 1, 1), (32, .ireturn, 1), (33, .iinc 3 1, 3), (36, .goto (-34), 3), (39, .iconst 0, 1), (40, .ireturn, 1)] = true := by decide +kernel
noncomputable def fX12_has_b39  (h : PH) : Option Int32 :=
  some ((0 : Int32))
set_option maxRecDepth 100000 in
theorem wX12_has_b39 {E : PE} {p : Program} {l : Launch} {e : Env} {s : State} {m : MethodId} {args : Array Value} {below : List Frame} {meth : Method} {c : Code} (X : Cx E p l e (rmv 1 0 0) s m args below meth c RX12 cX12_has 4 (some .boolean)) (hG : Gs E l) (hnm : meth.name = yX12_has.name)  {h : PH} {r : Int32} (hf : fX12_has_b39  h = some r)  : PW E p l e (rmv 1 0 0) s m args below meth c 4 0 0 (MQ below (QG E (fun v u => v = some (.int r) ∧ u = h)) args s 0 0 (pA E)) h 39 [] [] := by
  unfold fX12_has_b39 at hf
  refine p_iconst (v := 0) X (dcg dc_X12_has 23 rfl) (by decide) ?_
  have er := Option.some.inj hf
  subst er
  exact p_zret X rfl rfl (dcg dc_X12_has 24 rfl) ⟨rfl, rfl⟩ (Nat.le_refl _) (Nat.le_refl _)
noncomputable def fX12_has_c2 (v0 : Nat) (v1 : Int32) (v2 : Int32) (v3 : Int32) (h : PH) : Option ((Int32) ⊕ Int32) :=
  gd (hK h v0 = 12) (gs (hR h 12 v0 4) (fun a2 =>
  gd (hK h a2 = 21 ∧ inb v1 (hN h a2)) (if ((hI h 21 a2 (Int32.toNatClampNeg v1)) = 0) then (mr (fX12_has_b39  h)) else
  gs (hR h 12 v0 6) (fun a8 =>
  gd (hK h a8 = 20 ∧ inb v1 (hN h a8)) (if ((hI h 20 a8 (Int32.toNatClampNeg v1)) ≤ v3) then (mr (fX12_has_b39  h)) else
  bd (fX12_wordIn v0 v1 v3 h) (fun z14 =>
  if (¬ z14 = v2) then (some (.inl ((v3 + 1)))) else
  mr (some ((1 : Int32)))))))))
set_option maxRecDepth 100000 in
theorem wX12_has_c2 {E : PE} {p : Program} {l : Launch} {e : Env} {s : State} {m : MethodId} {args : Array Value} {below : List Frame} {meth : Method} {c : Code} (X : Cx E p l e (rmv 1 0 0) s m args below meth c RX12 cX12_has 4 (some .boolean)) (hG : Gs E l) (hnm : meth.name = yX12_has.name) {v0 : Nat} {v1 : Int32} {v2 : Int32} {v3 : Int32} {h : PH} {r : Int32} {x : ((Int32) ⊕ Int32)} (hf : fX12_has_c2 v0 v1 v2 v3 h = some x) (k0 : ∀ z : (Int32), x = .inl z → PW E p l e (rmv 1 0 0) s m args below meth c 4 0 0 (MQ below (QG E (fun v u => v = some (.int r) ∧ u = h)) args s 0 0 (pA E)) h 2 [(0, some (.ref v0)), (1, some (.int v1)), (2, some (.int v2)), (3, some (.int (z)))] []) (kf : ∀ z : Int32, x = .inr z → z = r) : PW E p l e (rmv 1 0 0) s m args below meth c 4 0 0 (MQ below (QG E (fun v u => v = some (.int r) ∧ u = h)) args s 0 0 (pA E)) h 2 [(0, some (.ref v0)), (1, some (.int v1)), (2, some (.int v2)), (3, some (.int v3))] [] := by
  unfold fX12_has_c2 at hf
  refine p_aload_n X (dcg dc_X12_has 2 rfl) rfl rfl ?_
  obtain ⟨hk1, hf⟩ := gd_some hf
  refine p_getR X fl_X12_20 rfl (by decide) (dcg dc_X12_has 3 rfl) hk1 ?_
  refine p_iload_n X (dcg dc_X12_has 4 rfl) rfl rfl ?_
  obtain ⟨a2, e3, hf⟩ := gs_some hf
  first | subst e3 | (try rw [e3])
  obtain ⟨⟨hk5, hb4⟩, hf⟩ := gd_some hf
  refine p_zald X (dcg dc_X12_has 5 rfl) hk5 (vp_of_inb hb4) ?_
  refine p_if_eq (tgt := 39) X (dcg dc_X12_has 6 rfl) (by decide) (fun q => ?_) (fun q => ?_)
  · have hf := if_t q hf
    obtain ⟨y6, hf, hy7⟩ := mr_some hf
    have hy7f := kf y6 hy7
    subst hy7f
    refine p_pick [] ?_
    exact wX12_has_b39 X hG hnm hf 
  · have hf := if_f q hf
    refine p_iload_n X (dcg dc_X12_has 7 rfl) rfl rfl ?_
    refine p_aload_n X (dcg dc_X12_has 8 rfl) rfl rfl ?_
    refine p_getR X fl_X12_27 rfl (by decide) (dcg dc_X12_has 9 rfl) hk1 ?_
    refine p_iload_n X (dcg dc_X12_has 10 rfl) rfl rfl ?_
    obtain ⟨a8, e9, hf⟩ := gs_some hf
    first | subst e9 | (try rw [e9])
    obtain ⟨⟨hk11, hb10⟩, hf⟩ := gd_some hf
    refine p_iald X (dcg dc_X12_has 11 rfl) hk11 (vp_of_inb hb10) ?_
    refine p_icmp_ge (tgt := 39) X (dcg dc_X12_has 12 rfl) (by decide) (fun q => ?_) (fun q => ?_)
    · have hf := if_t q hf
      obtain ⟨y12, hf, hy13⟩ := mr_some hf
      have hy13f := kf y12 hy13
      subst hy13f
      refine p_pick [] ?_
      exact wX12_has_b39 X hG hnm hf 
    · have hf := if_f q hf
      refine p_aload_n X (dcg dc_X12_has 13 rfl) rfl rfl ?_
      refine p_iload_n X (dcg dc_X12_has 14 rfl) rfl rfl ?_
      refine p_iload_n X (dcg dc_X12_has 15 rfl) rfl rfl ?_
      obtain ⟨z14, hz14, hf⟩ := bd_some hf
      refine p_callV (As := [_, _]) X ml_X12_186 (dcg dc_X12_has 16 rfl) rfl rfl hk1 (wX12_wordIn hG hz14) (by decide) (room4 (Nat.le_of_ble_eq_true rfl)) (Nat.le_refl _) (Nat.le_refl _) ?_
      rintro _ u9 ⟨rfl, e9⟩; have e9 := e9.symm; subst e9
      refine p_iload_n X (dcg dc_X12_has 17 rfl) rfl rfl ?_
      refine p_icmp_ne (tgt := 33) X (dcg dc_X12_has 18 rfl) (by decide) (fun q => ?_) (fun q => ?_)
      · have hf := if_t q hf
        refine p_iinc (v := 1) X (dcg dc_X12_has 21 rfl) rfl (by decide) (by decide) rfl ?_
        refine p_goto (tgt := 2) X (dcg dc_X12_has 22 rfl) (by decide) ?_
        refine p_pick [0, 1, 2, 3] ?_
        exact k0 _ (Option.some.inj hf).symm
      · have hf := if_f q hf
        obtain ⟨y15, hf, hy16⟩ := mr_some hf
        have hy16f := kf y15 hy16
        subst hy16f
        refine p_iconst (v := 1) X (dcg dc_X12_has 19 rfl) (by decide) ?_
        have er := Option.some.inj hf
        subst er
        exact p_zret X rfl rfl (dcg dc_X12_has 20 rfl) ⟨rfl, rfl⟩ (Nat.le_refl _) (Nat.le_refl _)
noncomputable def fX12_has_l2 (v0 : Nat) (v1 : Int32) (v2 : Int32) (v3 : Int32) (h : PH) : Option Int32 := wh (fun z : (Int32) => fX12_has_c2 v0 v1 v2 (z) h) (v3)
set_option maxRecDepth 100000 in
theorem wX12_has_l2 {E : PE} {p : Program} {l : Launch} {e : Env} {s : State} {m : MethodId} {args : Array Value} {below : List Frame} {meth : Method} {c : Code} (X : Cx E p l e (rmv 1 0 0) s m args below meth c RX12 cX12_has 4 (some .boolean)) (hG : Gs E l) (hnm : meth.name = yX12_has.name) {v0 : Nat} {v1 : Int32} {v2 : Int32} {v3 : Int32} {h : PH} {r : Int32} (hf : fX12_has_l2 v0 v1 v2 v3 h = some r)  : PW E p l e (rmv 1 0 0) s m args below meth c 4 0 0 (MQ below (QG E (fun v u => v = some (.int r) ∧ u = h)) args s 0 0 (pA E)) h 2 [(0, some (.ref v0)), (1, some (.int v1)), (2, some (.int v2)), (3, some (.int v3))] [] := by
  unfold fX12_has_l2 at hf
  refine wh_ind (P := fun z => PW E p l e (rmv 1 0 0) s m args below meth c 4 0 0 (MQ below (QG E (fun v u => v = some (.int r) ∧ u = h)) args s 0 0 (pA E)) h 2 [(0, some (.ref v0)), (1, some (.int v1)), (2, some (.int v2)), (3, some (.int (z)))] []) (fun z x0 hs i1 i2 => ?_) _ hf
  exact wX12_has_c2 (r := r) (v0 := v0) (v1 := v1) (v2 := v2) (v3 := z) (h := h) X hG hnm hs i1  i2
noncomputable def fX12_has (v0 : Nat) (v1 : Int32) (v2 : Int32) (h : PH) : Option Int32 :=
  fX12_has_l2 v0 v1 v2 (0 : Int32) h
set_option maxRecDepth 100000 in
theorem wX12_has {E : PE} {l : Launch} (hG : Gs E l) {v0 : Nat} {v1 : Int32} {v2 : Int32} {h : PH} {r : Int32} (hf : fX12_has v0 v1 v2 h = some r) : Ct E l 1 0 0 yX12_has cX12_has 4 (some .boolean) [.ref v0, .int v1, .int v2] h (fun v u => v = some (.int r) ∧ u = h) := by
  refine ct_of hG (by decide) (Nat.le_of_ble_eq_true rfl) ?_
  intro p e s m args below meth c X hnm
  show PW E p l e _ s m args below meth c _ 0 0 _ h 0 [(0, some (.ref v0)), (1, some (.int v1)), (2, some (.int v2))] []
  unfold fX12_has at hf
  refine p_iconst (v := 0) X (dcg dc_X12_has 0 rfl) (by decide) ?_
  refine p_istore_n X (dcg dc_X12_has 1 rfl) rfl (by decide) rfl ?_
  refine p_pick [0, 1, 2, 3] ?_
  exact wX12_has_l2 X hG hnm hf 
theorem dc_X12_manyWith : decs cX12_manyWith [(0, .iconst 0, 1), (1, .istore_n 2, 1), (2, .iconst 0, 1), (3, .istore_n 3, 1), (4, .iload_n 3, 1), (5, .bipush 100, 2), (7, .if_icmp .ge 26, 3), (10, .iload_n 2, 1), (11, .aload_n 0, 1), (12, .iload_n 3, 1), (13, .iload_n 1, 1), (14, .invokevirtual 234, 3), (17, .ifCond .eq 7, 3), (20, .iconst 1, 1), (21, .goto 4, 3), (24, .iconst 0, 1), (25, .iadd, 1), (26, .istore_n 2, 1), (27, .iinc 3 1, 3), (30, .goto (-26), 3), (33, .iload_n 2, 1), (34, .ireturn, 1)] = true := by decide +kernel
noncomputable def fX12_manyWith_b25 (v0 : Nat) (v1 : Int32) (v3 : Int32) (t0 : Int32) (t1 : Int32) (h : PH) : Option ((Int32 × Int32) ⊕ Int32) :=
  some (.inl ((t0 + t1), (v3 + 1)))
set_option maxRecDepth 100000 in
theorem wX12_manyWith_b25 {E : PE} {p : Program} {l : Launch} {e : Env} {s : State} {m : MethodId} {args : Array Value} {below : List Frame} {meth : Method} {c : Code} (X : Cx E p l e (rmv 2 0 0) s m args below meth c RX12 cX12_manyWith 4 (some .int)) (hG : Gs E l) (hnm : meth.name = yX12_manyWith.name) {v0 : Nat} {v1 : Int32} {v3 : Int32} {t0 : Int32} {t1 : Int32} {h : PH} {r : Int32} {x : ((Int32 × Int32) ⊕ Int32)} (hf : fX12_manyWith_b25 v0 v1 v3 t0 t1 h = some x) (k0 : ∀ z : (Int32 × Int32), x = .inl z → PW E p l e (rmv 2 0 0) s m args below meth c 4 0 0 (MQ below (QG E (fun v u => v = some (.int r) ∧ u = h)) args s 0 0 (pA E)) h 4 [(0, some (.ref v0)), (1, some (.int v1)), (2, some (.int (z.1))), (3, some (.int (z.2)))] []) (kf : ∀ z : Int32, x = .inr z → z = r) : PW E p l e (rmv 2 0 0) s m args below meth c 4 0 0 (MQ below (QG E (fun v u => v = some (.int r) ∧ u = h)) args s 0 0 (pA E)) h 25 [(0, some (.ref v0)), (1, some (.int v1)), (3, some (.int v3))] [.int t1, .int t0] := by
  unfold fX12_manyWith_b25 at hf
  refine p_iadd X (dcg dc_X12_manyWith 16 rfl) ?_
  refine p_istore_n X (dcg dc_X12_manyWith 17 rfl) rfl (by decide) rfl ?_
  refine p_iinc (v := 1) X (dcg dc_X12_manyWith 18 rfl) rfl (by decide) (by decide) rfl ?_
  refine p_goto (tgt := 4) X (dcg dc_X12_manyWith 19 rfl) (by decide) ?_
  refine p_pick [0, 1, 2, 3] ?_
  exact k0 _ (Option.some.inj hf).symm
noncomputable def fX12_manyWith_c4 (v0 : Nat) (v1 : Int32) (v2 : Int32) (v3 : Int32) (h : PH) : Option ((Int32 × Int32) ⊕ Int32) :=
  if ((100 : Int32) ≤ v3) then (mr (some (v2))) else
  gd (hK h v0 = 12) (bd (fX12_has v0 v3 v1 h) (fun z4 =>
  if (z4 = 0) then (fX12_manyWith_b25 v0 v1 v3 v2 (0 : Int32) h) else
  fX12_manyWith_b25 v0 v1 v3 v2 (1 : Int32) h))
set_option maxRecDepth 100000 in
theorem wX12_manyWith_c4 {E : PE} {p : Program} {l : Launch} {e : Env} {s : State} {m : MethodId} {args : Array Value} {below : List Frame} {meth : Method} {c : Code} (X : Cx E p l e (rmv 2 0 0) s m args below meth c RX12 cX12_manyWith 4 (some .int)) (hG : Gs E l) (hnm : meth.name = yX12_manyWith.name) {v0 : Nat} {v1 : Int32} {v2 : Int32} {v3 : Int32} {h : PH} {r : Int32} {x : ((Int32 × Int32) ⊕ Int32)} (hf : fX12_manyWith_c4 v0 v1 v2 v3 h = some x) (k0 : ∀ z : (Int32 × Int32), x = .inl z → PW E p l e (rmv 2 0 0) s m args below meth c 4 0 0 (MQ below (QG E (fun v u => v = some (.int r) ∧ u = h)) args s 0 0 (pA E)) h 4 [(0, some (.ref v0)), (1, some (.int v1)), (2, some (.int (z.1))), (3, some (.int (z.2)))] []) (kf : ∀ z : Int32, x = .inr z → z = r) : PW E p l e (rmv 2 0 0) s m args below meth c 4 0 0 (MQ below (QG E (fun v u => v = some (.int r) ∧ u = h)) args s 0 0 (pA E)) h 4 [(0, some (.ref v0)), (1, some (.int v1)), (2, some (.int v2)), (3, some (.int v3))] [] := by
  unfold fX12_manyWith_c4 at hf
  refine p_iload_n X (dcg dc_X12_manyWith 4 rfl) rfl rfl ?_
  refine p_bipush (v := 100) X (dcg dc_X12_manyWith 5 rfl) (by decide) ?_
  refine p_icmp_ge (tgt := 33) X (dcg dc_X12_manyWith 6 rfl) (by decide) (fun q => ?_) (fun q => ?_)
  · have hf := if_t q hf
    obtain ⟨y1, hf, hy2⟩ := mr_some hf
    have hy2f := kf y1 hy2
    subst hy2f
    refine p_iload_n X (dcg dc_X12_manyWith 20 rfl) rfl rfl ?_
    have er := Option.some.inj hf
    subst er
    exact p_iret X rfl (dcg dc_X12_manyWith 21 rfl) ⟨rfl, rfl⟩ (Nat.le_refl _) (Nat.le_refl _)
  · have hf := if_f q hf
    refine p_iload_n X (dcg dc_X12_manyWith 7 rfl) rfl rfl ?_
    refine p_aload_n X (dcg dc_X12_manyWith 8 rfl) rfl rfl ?_
    refine p_iload_n X (dcg dc_X12_manyWith 9 rfl) rfl rfl ?_
    refine p_iload_n X (dcg dc_X12_manyWith 10 rfl) rfl rfl ?_
    obtain ⟨hk3, hf⟩ := gd_some hf
    obtain ⟨z4, hz4, hf⟩ := bd_some hf
    refine p_callV (As := [_, _]) X ml_X12_234 (dcg dc_X12_manyWith 11 rfl) rfl rfl hk3 (wX12_has hG hz4) (by decide) (room4 (Nat.le_of_ble_eq_true rfl)) (Nat.le_refl _) (Nat.le_refl _) ?_
    rintro _ u9 ⟨rfl, e9⟩; have e9 := e9.symm; subst e9
    refine p_if_eq (tgt := 24) X (dcg dc_X12_manyWith 12 rfl) (by decide) (fun q => ?_) (fun q => ?_)
    · have hf := if_t q hf
      refine p_iconst (v := 0) X (dcg dc_X12_manyWith 15 rfl) (by decide) ?_
      refine p_pick [0, 1, 3] ?_
      exact wX12_manyWith_b25 X hG hnm hf k0 kf
    · have hf := if_f q hf
      refine p_iconst (v := 1) X (dcg dc_X12_manyWith 13 rfl) (by decide) ?_
      refine p_goto (tgt := 25) X (dcg dc_X12_manyWith 14 rfl) (by decide) ?_
      refine p_pick [0, 1, 3] ?_
      exact wX12_manyWith_b25 X hG hnm hf k0 kf
noncomputable def fX12_manyWith_l4 (v0 : Nat) (v1 : Int32) (v2 : Int32) (v3 : Int32) (h : PH) : Option Int32 := wh (fun z : (Int32 × Int32) => fX12_manyWith_c4 v0 v1 (z.1) (z.2) h) (v2, v3)
set_option maxRecDepth 100000 in
theorem wX12_manyWith_l4 {E : PE} {p : Program} {l : Launch} {e : Env} {s : State} {m : MethodId} {args : Array Value} {below : List Frame} {meth : Method} {c : Code} (X : Cx E p l e (rmv 2 0 0) s m args below meth c RX12 cX12_manyWith 4 (some .int)) (hG : Gs E l) (hnm : meth.name = yX12_manyWith.name) {v0 : Nat} {v1 : Int32} {v2 : Int32} {v3 : Int32} {h : PH} {r : Int32} (hf : fX12_manyWith_l4 v0 v1 v2 v3 h = some r)  : PW E p l e (rmv 2 0 0) s m args below meth c 4 0 0 (MQ below (QG E (fun v u => v = some (.int r) ∧ u = h)) args s 0 0 (pA E)) h 4 [(0, some (.ref v0)), (1, some (.int v1)), (2, some (.int v2)), (3, some (.int v3))] [] := by
  unfold fX12_manyWith_l4 at hf
  refine wh_ind (P := fun z => PW E p l e (rmv 2 0 0) s m args below meth c 4 0 0 (MQ below (QG E (fun v u => v = some (.int r) ∧ u = h)) args s 0 0 (pA E)) h 4 [(0, some (.ref v0)), (1, some (.int v1)), (2, some (.int (z.1))), (3, some (.int (z.2)))] []) (fun z x0 hs i1 i2 => ?_) _ hf
  exact wX12_manyWith_c4 (r := r) (v0 := v0) (v1 := v1) (v2 := z.1) (v3 := z.2) (h := h) X hG hnm hs i1  i2
noncomputable def fX12_manyWith (v0 : Nat) (v1 : Int32) (h : PH) : Option Int32 :=
  fX12_manyWith_l4 v0 v1 (0 : Int32) (0 : Int32) h
set_option maxRecDepth 100000 in
theorem wX12_manyWith {E : PE} {l : Launch} (hG : Gs E l) {v0 : Nat} {v1 : Int32} {h : PH} {r : Int32} (hf : fX12_manyWith v0 v1 h = some r) : Ct E l 2 0 0 yX12_manyWith cX12_manyWith 4 (some .int) [.ref v0, .int v1] h (fun v u => v = some (.int r) ∧ u = h) := by
  refine ct_of hG (by decide) (Nat.le_of_ble_eq_true rfl) ?_
  intro p e s m args below meth c X hnm
  show PW E p l e _ s m args below meth c _ 0 0 _ h 0 [(0, some (.ref v0)), (1, some (.int v1))] []
  unfold fX12_manyWith at hf
  refine p_iconst (v := 0) X (dcg dc_X12_manyWith 0 rfl) (by decide) ?_
  refine p_istore_n X (dcg dc_X12_manyWith 1 rfl) rfl (by decide) rfl ?_
  refine p_iconst (v := 0) X (dcg dc_X12_manyWith 2 rfl) (by decide) ?_
  refine p_istore_n X (dcg dc_X12_manyWith 3 rfl) rfl (by decide) rfl ?_
  refine p_pick [0, 1, 2, 3] ?_
  exact wX12_manyWith_l4 X hG hnm hf 
theorem dc_X12_manyTogether : decs cX12_manyTogether [(0, .iconst 0, 1), (1, .istore_n 3, 1), (2, .iconst 0, 1), (3, .istore 4, 2), (5, .iload 4, 2), (7, .bipush 100, 2), (9, .if_icmp .ge 37, 3), (12, .iload_n 3, 1), (13, .aload_n 0, 1), (14, .iload 4, 2), (16, .iload_n 1, 1), (17, .invokevirtual 234, 3), (20, .ifCond .eq 17, 3), (23, .aload_n 0, 1), (24, .iload 4, 2), (26, .iload_n 2, 1), (27, .invokevirtual 234, 3), (30, .ifCond .eq 7, 3), (33, .iconst 1, 1), (34, .goto 4, 3), (37, .iconst 0, 1), (38, .iadd, 1), (39, .istore_n 3, 1), (40, .iinc 4 1, 3), (43, .goto (-38), 3), (46, .iload_n 3, 1), (47, .ireturn, 1)] = true := by decide +kernel
noncomputable def fX12_manyTogether_b38 (v0 : Nat) (v1 : Int32) (v2 : Int32) (v4 : Int32) (t0 : Int32) (t1 : Int32) (h : PH) : Option ((Int32 × Int32) ⊕ Int32) :=
  some (.inl ((t0 + t1), (v4 + 1)))
set_option maxRecDepth 100000 in
theorem wX12_manyTogether_b38 {E : PE} {p : Program} {l : Launch} {e : Env} {s : State} {m : MethodId} {args : Array Value} {below : List Frame} {meth : Method} {c : Code} (X : Cx E p l e (rmv 2 0 0) s m args below meth c RX12 cX12_manyTogether 5 (some .int)) (hG : Gs E l) (hnm : meth.name = yX12_manyTogether.name) {v0 : Nat} {v1 : Int32} {v2 : Int32} {v4 : Int32} {t0 : Int32} {t1 : Int32} {h : PH} {r : Int32} {x : ((Int32 × Int32) ⊕ Int32)} (hf : fX12_manyTogether_b38 v0 v1 v2 v4 t0 t1 h = some x) (k0 : ∀ z : (Int32 × Int32), x = .inl z → PW E p l e (rmv 2 0 0) s m args below meth c 5 0 0 (MQ below (QG E (fun v u => v = some (.int r) ∧ u = h)) args s 0 0 (pA E)) h 5 [(0, some (.ref v0)), (1, some (.int v1)), (2, some (.int v2)), (3, some (.int (z.1))), (4, some (.int (z.2)))] []) (kf : ∀ z : Int32, x = .inr z → z = r) : PW E p l e (rmv 2 0 0) s m args below meth c 5 0 0 (MQ below (QG E (fun v u => v = some (.int r) ∧ u = h)) args s 0 0 (pA E)) h 38 [(0, some (.ref v0)), (1, some (.int v1)), (2, some (.int v2)), (4, some (.int v4))] [.int t1, .int t0] := by
  unfold fX12_manyTogether_b38 at hf
  refine p_iadd X (dcg dc_X12_manyTogether 21 rfl) ?_
  refine p_istore_n X (dcg dc_X12_manyTogether 22 rfl) rfl (by decide) rfl ?_
  refine p_iinc (v := 1) X (dcg dc_X12_manyTogether 23 rfl) rfl (by decide) (by decide) rfl ?_
  refine p_goto (tgt := 5) X (dcg dc_X12_manyTogether 24 rfl) (by decide) ?_
  refine p_pick [0, 1, 2, 3, 4] ?_
  exact k0 _ (Option.some.inj hf).symm
noncomputable def fX12_manyTogether_b37 (v0 : Nat) (v1 : Int32) (v2 : Int32) (v4 : Int32) (t0 : Int32) (h : PH) : Option ((Int32 × Int32) ⊕ Int32) :=
  fX12_manyTogether_b38 v0 v1 v2 v4 t0 (0 : Int32) h
set_option maxRecDepth 100000 in
theorem wX12_manyTogether_b37 {E : PE} {p : Program} {l : Launch} {e : Env} {s : State} {m : MethodId} {args : Array Value} {below : List Frame} {meth : Method} {c : Code} (X : Cx E p l e (rmv 2 0 0) s m args below meth c RX12 cX12_manyTogether 5 (some .int)) (hG : Gs E l) (hnm : meth.name = yX12_manyTogether.name) {v0 : Nat} {v1 : Int32} {v2 : Int32} {v4 : Int32} {t0 : Int32} {h : PH} {r : Int32} {x : ((Int32 × Int32) ⊕ Int32)} (hf : fX12_manyTogether_b37 v0 v1 v2 v4 t0 h = some x) (k0 : ∀ z : (Int32 × Int32), x = .inl z → PW E p l e (rmv 2 0 0) s m args below meth c 5 0 0 (MQ below (QG E (fun v u => v = some (.int r) ∧ u = h)) args s 0 0 (pA E)) h 5 [(0, some (.ref v0)), (1, some (.int v1)), (2, some (.int v2)), (3, some (.int (z.1))), (4, some (.int (z.2)))] []) (kf : ∀ z : Int32, x = .inr z → z = r) : PW E p l e (rmv 2 0 0) s m args below meth c 5 0 0 (MQ below (QG E (fun v u => v = some (.int r) ∧ u = h)) args s 0 0 (pA E)) h 37 [(0, some (.ref v0)), (1, some (.int v1)), (2, some (.int v2)), (4, some (.int v4))] [.int t0] := by
  unfold fX12_manyTogether_b37 at hf
  refine p_iconst (v := 0) X (dcg dc_X12_manyTogether 20 rfl) (by decide) ?_
  refine p_pick [0, 1, 2, 4] ?_
  exact wX12_manyTogether_b38 X hG hnm hf k0 kf
noncomputable def fX12_manyTogether_c5 (v0 : Nat) (v1 : Int32) (v2 : Int32) (v3 : Int32) (v4 : Int32) (h : PH) : Option ((Int32 × Int32) ⊕ Int32) :=
  if ((100 : Int32) ≤ v4) then (mr (some (v3))) else
  gd (hK h v0 = 12) (bd (fX12_has v0 v4 v1 h) (fun z4 =>
  if (z4 = 0) then (fX12_manyTogether_b37 v0 v1 v2 v4 v3 h) else
  bd (fX12_has v0 v4 v2 h) (fun z5 =>
  if (z5 = 0) then (fX12_manyTogether_b37 v0 v1 v2 v4 v3 h) else
  fX12_manyTogether_b38 v0 v1 v2 v4 v3 (1 : Int32) h)))
set_option maxRecDepth 100000 in
theorem wX12_manyTogether_c5 {E : PE} {p : Program} {l : Launch} {e : Env} {s : State} {m : MethodId} {args : Array Value} {below : List Frame} {meth : Method} {c : Code} (X : Cx E p l e (rmv 2 0 0) s m args below meth c RX12 cX12_manyTogether 5 (some .int)) (hG : Gs E l) (hnm : meth.name = yX12_manyTogether.name) {v0 : Nat} {v1 : Int32} {v2 : Int32} {v3 : Int32} {v4 : Int32} {h : PH} {r : Int32} {x : ((Int32 × Int32) ⊕ Int32)} (hf : fX12_manyTogether_c5 v0 v1 v2 v3 v4 h = some x) (k0 : ∀ z : (Int32 × Int32), x = .inl z → PW E p l e (rmv 2 0 0) s m args below meth c 5 0 0 (MQ below (QG E (fun v u => v = some (.int r) ∧ u = h)) args s 0 0 (pA E)) h 5 [(0, some (.ref v0)), (1, some (.int v1)), (2, some (.int v2)), (3, some (.int (z.1))), (4, some (.int (z.2)))] []) (kf : ∀ z : Int32, x = .inr z → z = r) : PW E p l e (rmv 2 0 0) s m args below meth c 5 0 0 (MQ below (QG E (fun v u => v = some (.int r) ∧ u = h)) args s 0 0 (pA E)) h 5 [(0, some (.ref v0)), (1, some (.int v1)), (2, some (.int v2)), (3, some (.int v3)), (4, some (.int v4))] [] := by
  unfold fX12_manyTogether_c5 at hf
  refine p_iload X (dcg dc_X12_manyTogether 4 rfl) rfl ?_
  refine p_bipush (v := 100) X (dcg dc_X12_manyTogether 5 rfl) (by decide) ?_
  refine p_icmp_ge (tgt := 46) X (dcg dc_X12_manyTogether 6 rfl) (by decide) (fun q => ?_) (fun q => ?_)
  · have hf := if_t q hf
    obtain ⟨y1, hf, hy2⟩ := mr_some hf
    have hy2f := kf y1 hy2
    subst hy2f
    refine p_iload_n X (dcg dc_X12_manyTogether 25 rfl) rfl rfl ?_
    have er := Option.some.inj hf
    subst er
    exact p_iret X rfl (dcg dc_X12_manyTogether 26 rfl) ⟨rfl, rfl⟩ (Nat.le_refl _) (Nat.le_refl _)
  · have hf := if_f q hf
    refine p_iload_n X (dcg dc_X12_manyTogether 7 rfl) rfl rfl ?_
    refine p_aload_n X (dcg dc_X12_manyTogether 8 rfl) rfl rfl ?_
    refine p_iload X (dcg dc_X12_manyTogether 9 rfl) rfl ?_
    refine p_iload_n X (dcg dc_X12_manyTogether 10 rfl) rfl rfl ?_
    obtain ⟨hk3, hf⟩ := gd_some hf
    obtain ⟨z4, hz4, hf⟩ := bd_some hf
    refine p_callV (As := [_, _]) X ml_X12_234 (dcg dc_X12_manyTogether 11 rfl) rfl rfl hk3 (wX12_has hG hz4) (by decide) (room4 (Nat.le_of_ble_eq_true rfl)) (Nat.le_refl _) (Nat.le_refl _) ?_
    rintro _ u9 ⟨rfl, e9⟩; have e9 := e9.symm; subst e9
    refine p_if_eq (tgt := 37) X (dcg dc_X12_manyTogether 12 rfl) (by decide) (fun q => ?_) (fun q => ?_)
    · have hf := if_t q hf
      refine p_pick [0, 1, 2, 4] ?_
      exact wX12_manyTogether_b37 X hG hnm hf k0 kf
    · have hf := if_f q hf
      refine p_aload_n X (dcg dc_X12_manyTogether 13 rfl) rfl rfl ?_
      refine p_iload X (dcg dc_X12_manyTogether 14 rfl) rfl ?_
      refine p_iload_n X (dcg dc_X12_manyTogether 15 rfl) rfl rfl ?_
      obtain ⟨z5, hz5, hf⟩ := bd_some hf
      refine p_callV (As := [_, _]) X ml_X12_234 (dcg dc_X12_manyTogether 16 rfl) rfl rfl hk3 (wX12_has hG hz5) (by decide) (room4 (Nat.le_of_ble_eq_true rfl)) (Nat.le_refl _) (Nat.le_refl _) ?_
      rintro _ u9 ⟨rfl, e9⟩; have e9 := e9.symm; subst e9
      refine p_if_eq (tgt := 37) X (dcg dc_X12_manyTogether 17 rfl) (by decide) (fun q => ?_) (fun q => ?_)
      · have hf := if_t q hf
        refine p_pick [0, 1, 2, 4] ?_
        exact wX12_manyTogether_b37 X hG hnm hf k0 kf
      · have hf := if_f q hf
        refine p_iconst (v := 1) X (dcg dc_X12_manyTogether 18 rfl) (by decide) ?_
        refine p_goto (tgt := 38) X (dcg dc_X12_manyTogether 19 rfl) (by decide) ?_
        refine p_pick [0, 1, 2, 4] ?_
        exact wX12_manyTogether_b38 X hG hnm hf k0 kf
noncomputable def fX12_manyTogether_l5 (v0 : Nat) (v1 : Int32) (v2 : Int32) (v3 : Int32) (v4 : Int32) (h : PH) : Option Int32 := wh (fun z : (Int32 × Int32) => fX12_manyTogether_c5 v0 v1 v2 (z.1) (z.2) h) (v3, v4)
set_option maxRecDepth 100000 in
theorem wX12_manyTogether_l5 {E : PE} {p : Program} {l : Launch} {e : Env} {s : State} {m : MethodId} {args : Array Value} {below : List Frame} {meth : Method} {c : Code} (X : Cx E p l e (rmv 2 0 0) s m args below meth c RX12 cX12_manyTogether 5 (some .int)) (hG : Gs E l) (hnm : meth.name = yX12_manyTogether.name) {v0 : Nat} {v1 : Int32} {v2 : Int32} {v3 : Int32} {v4 : Int32} {h : PH} {r : Int32} (hf : fX12_manyTogether_l5 v0 v1 v2 v3 v4 h = some r)  : PW E p l e (rmv 2 0 0) s m args below meth c 5 0 0 (MQ below (QG E (fun v u => v = some (.int r) ∧ u = h)) args s 0 0 (pA E)) h 5 [(0, some (.ref v0)), (1, some (.int v1)), (2, some (.int v2)), (3, some (.int v3)), (4, some (.int v4))] [] := by
  unfold fX12_manyTogether_l5 at hf
  refine wh_ind (P := fun z => PW E p l e (rmv 2 0 0) s m args below meth c 5 0 0 (MQ below (QG E (fun v u => v = some (.int r) ∧ u = h)) args s 0 0 (pA E)) h 5 [(0, some (.ref v0)), (1, some (.int v1)), (2, some (.int v2)), (3, some (.int (z.1))), (4, some (.int (z.2)))] []) (fun z x0 hs i1 i2 => ?_) _ hf
  exact wX12_manyTogether_c5 (r := r) (v0 := v0) (v1 := v1) (v2 := v2) (v3 := z.1) (v4 := z.2) (h := h) X hG hnm hs i1  i2
noncomputable def fX12_manyTogether (v0 : Nat) (v1 : Int32) (v2 : Int32) (h : PH) : Option Int32 :=
  fX12_manyTogether_l5 v0 v1 v2 (0 : Int32) (0 : Int32) h
set_option maxRecDepth 100000 in
theorem wX12_manyTogether {E : PE} {l : Launch} (hG : Gs E l) {v0 : Nat} {v1 : Int32} {v2 : Int32} {h : PH} {r : Int32} (hf : fX12_manyTogether v0 v1 v2 h = some r) : Ct E l 2 0 0 yX12_manyTogether cX12_manyTogether 5 (some .int) [.ref v0, .int v1, .int v2] h (fun v u => v = some (.int r) ∧ u = h) := by
  refine ct_of hG (by decide) (Nat.le_of_ble_eq_true rfl) ?_
  intro p e s m args below meth c X hnm
  show PW E p l e _ s m args below meth c _ 0 0 _ h 0 [(0, some (.ref v0)), (1, some (.int v1)), (2, some (.int v2))] []
  unfold fX12_manyTogether at hf
  refine p_iconst (v := 0) X (dcg dc_X12_manyTogether 0 rfl) (by decide) ?_
  refine p_istore_n X (dcg dc_X12_manyTogether 1 rfl) rfl (by decide) rfl ?_
  refine p_iconst (v := 0) X (dcg dc_X12_manyTogether 2 rfl) (by decide) ?_
  refine p_istore X (dcg dc_X12_manyTogether 3 rfl) (by decide) rfl ?_
  refine p_pick [0, 1, 2, 3, 4] ?_
  exact wX12_manyTogether_l5 X hG hnm hf 
