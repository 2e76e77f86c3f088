/-! methods of the program (by program: wip/whole/gen2.py) -/
theorem dc_X12_readsJoin : decs cX12_readsJoin [(0, .aload_n 0, 1), (1, .bipush 38, 2), (3, .invokevirtual 309, 3), (6, .ifCond .eq 9, 3), (9, .aload_n 0, 1), (10, .invokevirtual 303, 3), (13, .iconst 1, 1), (14, .ireturn, 1), (15, .aload_n 0, 1), (16, .bipush 124, 2), (18, .invokevirtual 309, 3), (21, .ifCond .eq 13, 3), (24, .aload_n 0, 1), (25, .invokevirtual 297, 3), (28, .aload_n 0, 1), (29, .invokevirtual 303, 3), (32, .iconst 1, 1), (33, .ireturn, 1), (34, .iconst 0, 1), (35, .ireturn, 1)] = true := by decide +kernel
noncomputable def fX12_readsJoin (v0 : Nat) (h : PH) : Option (Int32 × PH) :=
  gd (hK h v0 = 12) (bd (fX12_isSignNow v0 (38 : Int32) h) (fun z2 =>
  if (z2 = 0) then (bd (fX12_isSignNow v0 (124 : Int32) h) (fun z3 =>
  if (z3 = 0) then (some (((0 : Int32), h))) else
  bd (fX12_endsAnd v0 h) (fun z4 =>
  gd (hK z4 v0 = 12) (bd (fX12_reads v0 z4) (fun z6 =>
  some (((1 : Int32), z6))))))) else
  bd (fX12_reads v0 h) (fun z7 =>
  some (((1 : Int32), z7)))))
set_option maxRecDepth 100000 in
theorem mX12_readsJoin {v0 : Nat} {h : PH} {r : (Int32 × PH)} (hf : fX12_readsJoin v0 h = some r) : eqz h (hX r.2) (hV r.2) := by
  unfold fX12_readsJoin at hf
  have hle := eqz_rf h
  obtain ⟨hk1, hf⟩ := gd_some hf
  obtain ⟨z2, hz2, hf⟩ := bd_some hf
  rcases ite_or hf with ⟨q, hf⟩ | ⟨q, hf⟩
  · have hf := if_t q hf
    obtain ⟨z3, hz3, hf⟩ := bd_some hf
    rcases ite_or hf with ⟨q, hf⟩ | ⟨q, hf⟩
    · have hf := if_t q hf
      have ee := Option.some.inj hf; subst ee; exact hle
    · have hf := if_f q hf
      obtain ⟨z4, hz4, hf⟩ := bd_some hf
      have hle := eqz_rt (mX12_endsAnd hz4) hle
      obtain ⟨hk5, hf⟩ := gd_some hf
      obtain ⟨z6, hz6, hf⟩ := bd_some hf
      have hle := eqz_rt (mX12_reads hz6) hle
      have ee := Option.some.inj hf; subst ee; exact hle
  · have hf := if_f q hf
    obtain ⟨z7, hz7, hf⟩ := bd_some hf
    have hle := eqz_rt (mX12_reads hz7) hle
    have ee := Option.some.inj hf; subst ee; exact hle
set_option maxRecDepth 100000 in
theorem wX12_readsJoin {E : PE} {l : Launch} (hG : Gs E l) {v0 : Nat} {h : PH} {r : (Int32 × PH)} (hf : fX12_readsJoin v0 h = some r) : Ct E l 3 0 0 yX12_readsJoin cX12_readsJoin 1 (some .boolean) [.ref v0] h (fun v u => v = some (.int r.1) ∧ u = r.2) := by
  refine ct_of hG (by decide) (Nat.le_of_ble_eq_true rfl) ?_
  intro p e s m args below meth c X hnm
  show PW E p l e _ s m args below meth c _ 0 0 _ h 0 [(0, some (.ref v0))] []
  unfold fX12_readsJoin at hf
  refine p_aload_n X (dcg dc_X12_readsJoin 0 rfl) rfl rfl ?_
  refine p_bipush (v := 38) X (dcg dc_X12_readsJoin 1 rfl) (by decide) ?_
  obtain ⟨hk1, hf⟩ := gd_some hf
  obtain ⟨z2, hz2, hf⟩ := bd_some hf
  refine p_callV (As := [_]) X ml_X12_309 (dcg dc_X12_readsJoin 2 rfl) rfl rfl hk1 (wX12_isSignNow hG hz2) (by decide) (room4 (Nat.le_of_ble_eq_true rfl)) (Nat.le_refl _) (Nat.le_refl _) ?_
  rintro _ u9 ⟨rfl, e9⟩; have e9 := e9.symm; subst e9
  refine p_if_eq (tgt := 15) X (dcg dc_X12_readsJoin 3 rfl) (by decide) (fun q => ?_) (fun q => ?_)
  · have hf := if_t q hf
    refine p_aload_n X (dcg dc_X12_readsJoin 8 rfl) rfl rfl ?_
    refine p_bipush (v := 124) X (dcg dc_X12_readsJoin 9 rfl) (by decide) ?_
    obtain ⟨z3, hz3, hf⟩ := bd_some hf
    refine p_callV (As := [_]) X ml_X12_309 (dcg dc_X12_readsJoin 10 rfl) rfl rfl hk1 (wX12_isSignNow hG hz3) (by decide) (room4 (Nat.le_of_ble_eq_true rfl)) (Nat.le_refl _) (Nat.le_refl _) ?_
    rintro _ u9 ⟨rfl, e9⟩; have e9 := e9.symm; subst e9
    refine p_if_eq (tgt := 34) X (dcg dc_X12_readsJoin 11 rfl) (by decide) (fun q => ?_) (fun q => ?_)
    · have hf := if_t q hf
      refine p_iconst (v := 0) X (dcg dc_X12_readsJoin 18 rfl) (by decide) ?_
      have er := Option.some.inj hf
      subst er
      exact p_zret X rfl rfl (dcg dc_X12_readsJoin 19 rfl) ⟨rfl, rfl⟩ (Nat.le_refl _) (Nat.le_refl _)
    · have hf := if_f q hf
      refine p_aload_n X (dcg dc_X12_readsJoin 12 rfl) rfl rfl ?_
      obtain ⟨z4, hz4, hf⟩ := bd_some hf
      refine p_callV (As := []) X ml_X12_297 (dcg dc_X12_readsJoin 13 rfl) rfl rfl hk1 (wX12_endsAnd hG hz4) (by decide) (room4 (Nat.le_of_ble_eq_true rfl)) (Nat.le_refl _) (Nat.le_refl _) ?_
      rintro _ u9 ⟨rfl, e9⟩; have e9 := e9.symm; subst e9
      refine p_aload_n X (dcg dc_X12_readsJoin 14 rfl) rfl rfl ?_
      obtain ⟨hk5, hf⟩ := gd_some hf
      obtain ⟨z6, hz6, hf⟩ := bd_some hf
      refine p_callV (As := []) X ml_X12_303 (dcg dc_X12_readsJoin 15 rfl) rfl rfl hk5 (wX12_reads hG hz6) (by decide) (room4 (Nat.le_of_ble_eq_true rfl)) (Nat.le_refl _) (Nat.le_refl _) ?_
      rintro _ u9 ⟨rfl, e9⟩; have e9 := e9.symm; subst e9
      refine p_iconst (v := 1) X (dcg dc_X12_readsJoin 16 rfl) (by decide) ?_
      have er := Option.some.inj hf
      subst er
      exact p_zret X rfl rfl (dcg dc_X12_readsJoin 17 rfl) ⟨rfl, rfl⟩ (Nat.le_refl _) (Nat.le_refl _)
  · have hf := if_f q hf
    refine p_aload_n X (dcg dc_X12_readsJoin 4 rfl) rfl rfl ?_
    obtain ⟨z7, hz7, hf⟩ := bd_some hf
    refine p_callV (As := []) X ml_X12_303 (dcg dc_X12_readsJoin 5 rfl) rfl rfl hk1 (wX12_reads hG hz7) (by decide) (room4 (Nat.le_of_ble_eq_true rfl)) (Nat.le_refl _) (Nat.le_refl _) ?_
    rintro _ u9 ⟨rfl, e9⟩; have e9 := e9.symm; subst e9
    refine p_iconst (v := 1) X (dcg dc_X12_readsJoin 6 rfl) (by decide) ?_
    have er := Option.some.inj hf
    subst er
    exact p_zret X rfl rfl (dcg dc_X12_readsJoin 7 rfl) ⟨rfl, rfl⟩ (Nat.le_refl _) (Nat.le_refl _)
theorem dc_X12_closes : decs cX12_closes [(0, .aload_n 0, 1), (1, .bipush 41, 2), (3, .invokevirtual 309, 3), (6, .ifCond .eq 10, 3), (9, .aload_n 0, 1), (10, .getfield 281, 3), (13, .ifCond .ne 5, 3), (16, .iconst 0, 1), (17, .ireturn, 1), (18, .aload_n 0, 1), (19, .invokevirtual 321, 3), (22, .istore_n 1, 1), (23, .aload_n 0, 1), (24, .aload_n 0, 1), (25, .getfield 108, 3), (28, .aload_n 0, 1), (29, .getfield 281, 3), (32, .iaload, 1), (33, .putfield 284, 3), (36, .aload_n 0, 1), (37, .dup, 1), (38, .getfield 281, 3), (41, .iconst 1, 1), (42, .isub, 1), (43, .putfield 281, 3), (46, .aload_n 0, 1), (47, .dup, 1), (48, .getfield 290, 3), (51, .iconst 1, 1), (52, .isub, 1), (53, .putfield 290, 3), (56, .aload_n 0, 1), (57, .iload_n 1, 1), (58, .invokevirtual 312, 3), (61, .aload_n 0, 1), (62, .invokevirtual 303, 3), (65, .iconst 1, 1), (66, .ireturn, 1)] = true := by decide +kernel
noncomputable def fX12_closes_b16  (h : PH) : Option (Int32 × PH) :=
  some (((0 : Int32), h))
set_option maxRecDepth 100000 in
theorem mX12_closes_b16  {h : PH} {r : (Int32 × PH)} (hf : fX12_closes_b16  h = some r) : eqz h (hX r.2) (hV r.2) := by
  unfold fX12_closes_b16 at hf
  have hle := eqz_rf h
  have ee := Option.some.inj hf; subst ee; exact hle
set_option maxRecDepth 100000 in
theorem wX12_closes_b16 {E : PE} {p : Program} {l : Launch} {e : Env} {s : State} {m : MethodId} {args : Array Value} {below : List Frame} {meth : Method} {c : Code} (X : Cx E p l e (rmv 4 0 0) s m args below meth c RX12 cX12_closes 2 (some .boolean)) (hG : Gs E l) (hnm : meth.name = yX12_closes.name)  {h : PH} {r : (Int32 × PH)} (hf : fX12_closes_b16  h = some r)  : PW E p l e (rmv 4 0 0) s m args below meth c 2 0 0 (MQ below (QG E (fun v u => v = some (.int r.1) ∧ u = r.2)) args s 0 0 (pA E)) h 16 [] [] := by
  unfold fX12_closes_b16 at hf
  refine p_iconst (v := 0) X (dcg dc_X12_closes 7 rfl) (by decide) ?_
  have er := Option.some.inj hf
  subst er
  exact p_zret X rfl rfl (dcg dc_X12_closes 8 rfl) ⟨rfl, rfl⟩ (Nat.le_refl _) (Nat.le_refl _)
noncomputable def fX12_closes (v0 : Nat) (h : PH) : Option (Int32 × PH) :=
  gd (hK h v0 = 12) (bd (fX12_isSignNow v0 (41 : Int32) h) (fun z2 =>
  if (z2 = 0) then (fX12_closes_b16  h) else
  if (¬ (hI h 12 v0 42) = 0) then (bd (fX12_endsOr v0 h) (fun z3 =>
  gd (hK z3.2 v0 = 12) (gs (hR z3.2 12 v0 41) (fun a5 =>
  gd (hK z3.2 a5 = 20 ∧ inb (hI z3.2 12 v0 42) (hN z3.2 a5)) (lt (sI z3.2 12 v0 44 (hI z3.2 20 a5 (Int32.toNatClampNeg (hI z3.2 12 v0 42)))) (fun h9 =>
  lt (sI h9 12 v0 42 ((hI h9 12 v0 42) - (1 : Int32))) (fun h10 =>
  lt (sI h10 12 v0 43 ((hI h10 12 v0 43) - (1 : Int32))) (fun h11 =>
  bd (fX12_hasPart v0 z3.1 h11) (fun z12 =>
  gd (hK z12 v0 = 12) (bd (fX12_reads v0 z12) (fun z14 =>
  some (((1 : Int32), z14))))))))))))) else
  fX12_closes_b16  h))
set_option maxRecDepth 100000 in
theorem mX12_closes {v0 : Nat} {h : PH} {r : (Int32 × PH)} (hf : fX12_closes v0 h = some r) : eqz h (hX r.2) (hV r.2) := by
  unfold fX12_closes at hf
  have hle := eqz_rf h
  obtain ⟨hk1, hf⟩ := gd_some hf
  obtain ⟨z2, hz2, hf⟩ := bd_some hf
  rcases ite_or hf with ⟨q, hf⟩ | ⟨q, hf⟩
  · have hf := if_t q hf
    exact eqz_rt (mX12_closes_b16 hf) hle
  · have hf := if_f q hf
    rcases ite_or hf with ⟨q, hf⟩ | ⟨q, hf⟩
    · have hf := if_t q hf
      obtain ⟨z3, hz3, hf⟩ := bd_some hf
      have hle := eqz_rt (mX12_endsOr hz3) hle
      obtain ⟨hk4, hf⟩ := gd_some hf
      obtain ⟨a5, e6, hf⟩ := gs_some hf
      obtain ⟨⟨hk8, hb7⟩, hf⟩ := gd_some hf
      obtain ⟨h9, rfl, hf⟩ := lt_some hf
      obtain ⟨h10, rfl, hf⟩ := lt_some hf
      obtain ⟨h11, rfl, hf⟩ := lt_some hf
      obtain ⟨z12, hz12, hf⟩ := bd_some hf
      have hle := eqz_rt (mX12_hasPart hz12) hle
      obtain ⟨hk13, hf⟩ := gd_some hf
      obtain ⟨z14, hz14, hf⟩ := bd_some hf
      have hle := eqz_rt (mX12_reads hz14) hle
      have ee := Option.some.inj hf; subst ee; exact hle
    · have hf := if_f q hf
      exact eqz_rt (mX12_closes_b16 hf) hle
set_option maxRecDepth 100000 in
theorem wX12_closes {E : PE} {l : Launch} (hG : Gs E l) {v0 : Nat} {h : PH} {r : (Int32 × PH)} (hf : fX12_closes v0 h = some r) : Ct E l 4 0 0 yX12_closes cX12_closes 2 (some .boolean) [.ref v0] h (fun v u => v = some (.int r.1) ∧ u = r.2) := by
  refine ct_of hG (by decide) (Nat.le_of_ble_eq_true rfl) ?_
  intro p e s m args below meth c X hnm
  show PW E p l e _ s m args below meth c _ 0 0 _ h 0 [(0, some (.ref v0))] []
  unfold fX12_closes at hf
  refine p_aload_n X (dcg dc_X12_closes 0 rfl) rfl rfl ?_
  refine p_bipush (v := 41) X (dcg dc_X12_closes 1 rfl) (by decide) ?_
  obtain ⟨hk1, hf⟩ := gd_some hf
  obtain ⟨z2, hz2, hf⟩ := bd_some hf
  refine p_callV (As := [_]) X ml_X12_309 (dcg dc_X12_closes 2 rfl) rfl rfl hk1 (wX12_isSignNow hG hz2) (by decide) (room4 (Nat.le_of_ble_eq_true rfl)) (Nat.le_refl _) (Nat.le_refl _) ?_
  rintro _ u9 ⟨rfl, e9⟩; have e9 := e9.symm; subst e9
  refine p_if_eq (tgt := 16) X (dcg dc_X12_closes 3 rfl) (by decide) (fun q => ?_) (fun q => ?_)
  · have hf := if_t q hf
    refine p_pick [] ?_
    exact wX12_closes_b16 X hG hnm hf 
  · have hf := if_f q hf
    refine p_aload_n X (dcg dc_X12_closes 4 rfl) rfl rfl ?_
    refine p_getI X fl_X12_281 rfl (by decide) (dcg dc_X12_closes 5 rfl) hk1 ?_
    refine p_if_ne (tgt := 18) X (dcg dc_X12_closes 6 rfl) (by decide) (fun q => ?_) (fun q => ?_)
    · have hf := if_t q hf
      refine p_aload_n X (dcg dc_X12_closes 9 rfl) rfl rfl ?_
      obtain ⟨z3, hz3, hf⟩ := bd_some hf
      refine p_callV (As := []) X ml_X12_321 (dcg dc_X12_closes 10 rfl) rfl rfl hk1 (wX12_endsOr hG hz3) (by decide) (room4 (Nat.le_of_ble_eq_true rfl)) (Nat.le_refl _) (Nat.le_refl _) ?_
      rintro _ u9 ⟨rfl, e9⟩; have e9 := e9.symm; subst e9
      refine p_istore_n X (dcg dc_X12_closes 11 rfl) rfl (by decide) rfl ?_
      refine p_aload_n X (dcg dc_X12_closes 12 rfl) rfl rfl ?_
      refine p_aload_n X (dcg dc_X12_closes 13 rfl) rfl rfl ?_
      obtain ⟨hk4, hf⟩ := gd_some hf
      refine p_getR X fl_X12_108 rfl (by decide) (dcg dc_X12_closes 14 rfl) hk4 ?_
      refine p_aload_n X (dcg dc_X12_closes 15 rfl) rfl rfl ?_
      refine p_getI X fl_X12_281 rfl (by decide) (dcg dc_X12_closes 16 rfl) hk4 ?_
      obtain ⟨a5, e6, hf⟩ := gs_some hf
      first | subst e6 | (try rw [e6])
      obtain ⟨⟨hk8, hb7⟩, hf⟩ := gd_some hf
      refine p_iald X (dcg dc_X12_closes 17 rfl) hk8 (vp_of_inb hb7) ?_
      refine p_putI X fl_X12_284 rfl (by decide) (fun q hq => by cases hq; rfl) rfl rfl (dcg dc_X12_closes 18 rfl) hk4 ?_
      obtain ⟨h9, rfl, hf⟩ := lt_some hf
      refine p_aload_n X (dcg dc_X12_closes 19 rfl) rfl rfl ?_
      refine p_dup X (dcg dc_X12_closes 20 rfl) rfl ?_
      refine p_getI X fl_X12_281 rfl (by decide) (dcg dc_X12_closes 21 rfl) hk4 ?_
      refine p_iconst (v := 1) X (dcg dc_X12_closes 22 rfl) (by decide) ?_
      refine p_isub X (dcg dc_X12_closes 23 rfl) ?_
      refine p_putI X fl_X12_281 rfl (by decide) (fun q hq => by cases hq; rfl) rfl rfl (dcg dc_X12_closes 24 rfl) hk4 ?_
      obtain ⟨h10, rfl, hf⟩ := lt_some hf
      refine p_aload_n X (dcg dc_X12_closes 25 rfl) rfl rfl ?_
      refine p_dup X (dcg dc_X12_closes 26 rfl) rfl ?_
      refine p_getI X fl_X12_290 rfl (by decide) (dcg dc_X12_closes 27 rfl) hk4 ?_
      refine p_iconst (v := 1) X (dcg dc_X12_closes 28 rfl) (by decide) ?_
      refine p_isub X (dcg dc_X12_closes 29 rfl) ?_
      refine p_putI X fl_X12_290 rfl (by decide) (fun q hq => by cases hq; rfl) rfl rfl (dcg dc_X12_closes 30 rfl) hk4 ?_
      obtain ⟨h11, rfl, hf⟩ := lt_some hf
      refine p_aload_n X (dcg dc_X12_closes 31 rfl) rfl rfl ?_
      refine p_iload_n X (dcg dc_X12_closes 32 rfl) rfl rfl ?_
      obtain ⟨z12, hz12, hf⟩ := bd_some hf
      refine p_callV (As := [_]) X ml_X12_312 (dcg dc_X12_closes 33 rfl) rfl rfl hk4 (wX12_hasPart hG hz12) (by decide) (room4 (Nat.le_of_ble_eq_true rfl)) (Nat.le_refl _) (Nat.le_refl _) ?_
      rintro _ u9 ⟨rfl, e9⟩; have e9 := e9.symm; subst e9
      refine p_aload_n X (dcg dc_X12_closes 34 rfl) rfl rfl ?_
      obtain ⟨hk13, hf⟩ := gd_some hf
      obtain ⟨z14, hz14, hf⟩ := bd_some hf
      refine p_callV (As := []) X ml_X12_303 (dcg dc_X12_closes 35 rfl) rfl rfl hk13 (wX12_reads hG hz14) (by decide) (room4 (Nat.le_of_ble_eq_true rfl)) (Nat.le_refl _) (Nat.le_refl _) ?_
      rintro _ u9 ⟨rfl, e9⟩; have e9 := e9.symm; subst e9
      refine p_iconst (v := 1) X (dcg dc_X12_closes 36 rfl) (by decide) ?_
      have er := Option.some.inj hf
      subst er
      exact p_zret X rfl rfl (dcg dc_X12_closes 37 rfl) ⟨rfl, rfl⟩ (Nat.le_refl _) (Nat.le_refl _)
    · have hf := if_f q hf
      refine p_pick [] ?_
      exact wX12_closes_b16 X hG hnm hf 
theorem dc_X12_readsQuery : decs cX12_readsQuery [(0, .aload_n 0, 1), (1, .iconst 0, 1), (2, .putfield 261, 3), (5, .aload_n 0, 1), (6, .getfield 81, 3), (9, .bipush 6, 2), (11, .iconst 0, 1), (12, .iastore, 1), (13, .aload_n 0, 1), (14, .getfield 84, 3), (17, .bipush 6, 2), (19, .iconst 0, 1), (20, .iastore, 1), (21, .aload_n 0, 1), (22, .iconst 0, 1), (23, .putfield 281, 3), (26, .aload_n 0, 1), (27, .iconst 0, 1), (28, .putfield 290, 3), (31, .aload_n 0, 1), (32, .iconst 0, 1), (33, .putfield 284, 3), (36, .aload_n 0, 1), (37, .iconst 0, 1), (38, .putfield 300, 3), (41, .aload_n 0, 1), (42, .iconst 0, 1), (43, .invokevirtual 318, 3), (46, .aload_n 0, 1), (47, .invokevirtual 303, 3), (50, .iconst 1, 1), (51, .istore_n 1, 1), (52, .iconst 1, 1), (53, .istore_n 2, 1), (54, .iload_n 1, 1), (55, .ifCond .eq 97, 3), (58, .iload_n 2, 1), (59, .ifCond .ne 17, 3), (62, .aload_n 0, 1), (63, .getfield 264, 3), (66, .ifCond .ne 10, 3), (69, .aload_n 0, 1), (70, .getfield 281, 3), (73, .ifCond .le 79, 3), (76, .iload_n 2, 1), (77, .ifCond .eq 48, 3), (80, .aload_n 0, 1), (81, .bipush 33, 2), (83, .invokevirtual 309, 3), (86, .ifCond .ne 12, 3), (89, .aload_n 0, 1), (90, .bipush 40, 2), (92, .invokevirtual 309, 3), (95, .ifCond .eq 7, 3), (98, .iconst 1, 1), (99, .goto 4, 3), (102, .iconst 0, 1), (103, .istore_n 3, 1), (104, .iload_n 3, 1), (105, .ifCond .eq 10, 3), (108, .aload_n 0, 1), (109, .invokevirtual 324, 3), (112, .goto 7, 3), (115, .aload_n 0, 1), (116, .invokevirtual 327, 3), (119, .istore_n 1, 1), (120, .iload_n 3, 1), (121, .istore_n 2, 1), (122, .goto (-68), 3), (125, .aload_n 0, 1), (126, .bipush 41, 2), (128, .invokevirtual 309, 3), (131, .ifCond .eq 11, 3), (134, .aload_n 0, 1), (135, .invokevirtual 330, 3), (138, .istore_n 1, 1), (139, .goto (-85), 3), (142, .aload_n 0, 1), (143, .invokevirtual 333, 3), (146, .istore_n 1, 1), (147, .iconst 1, 1), (148, .istore_n 2, 1), (149, .goto (-95), 3), (152, .aload_n 0, 1), (153, .iload_n 1, 1), (154, .ifCond .eq 7, 3), (157, .iconst (-1), 1), (158, .goto 7, 3), (161, .aload_n 0, 1), (162, .getfield 267, 3), (165, .putfield 17, 3), (168, .aload_n 0, 1), (169, .iconst 0, 1), (170, .putfield 163, 3), (173, .iload_n 1, 1), (174, .ifCond .eq 14, 3), (177, .aload_n 0, 1), (178, .getfield 87, 3), (181, .bipush 6, 2), (183, .aload_n 0, 1), (184, .invokevirtual 321, 3), (187, .iastore, 1), (188, .iload_n 1, 1), (189, .ireturn, 1)] = true := by decide +kernel
noncomputable def fX12_readsQuery_b188 (v1 : Int32) (h : PH) : Option (Int32 × PH) :=
  gd (v1 &&& 1 = v1) (some ((v1, h)))
set_option maxRecDepth 100000 in
theorem mX12_readsQuery_b188 {v1 : Int32} {h : PH} {r : (Int32 × PH)} (hf : fX12_readsQuery_b188 v1 h = some r) : eqz h (hX r.2) (hV r.2) := by
  unfold fX12_readsQuery_b188 at hf
  have hle := eqz_rf h
  obtain ⟨hg27, hf⟩ := gd_some hf
  have ee := Option.some.inj hf; subst ee; exact hle
set_option maxRecDepth 100000 in
theorem wX12_readsQuery_b188 {E : PE} {p : Program} {l : Launch} {e : Env} {s : State} {m : MethodId} {args : Array Value} {below : List Frame} {meth : Method} {c : Code} (X : Cx E p l e (rmv 5 0 0) s m args below meth c RX12 cX12_readsQuery 4 (some .boolean)) (hG : Gs E l) (hnm : meth.name = yX12_readsQuery.name) {v1 : Int32} {h : PH} {r : (Int32 × PH)} (hf : fX12_readsQuery_b188 v1 h = some r)  : PW E p l e (rmv 5 0 0) s m args below meth c 4 0 0 (MQ below (QG E (fun v u => v = some (.int r.1) ∧ u = r.2)) args s 0 0 (pA E)) h 188 [(1, some (.int v1))] [] := by
  unfold fX12_readsQuery_b188 at hf
  refine p_iload_n X (dcg dc_X12_readsQuery 102 rfl) rfl rfl ?_
  obtain ⟨hg27, hf⟩ := gd_some hf
  have er := Option.some.inj hf
  subst er
  exact p_zret X rfl (congrArg Value.int hg27) (dcg dc_X12_readsQuery 103 rfl) ⟨rfl, rfl⟩ (Nat.le_refl _) (Nat.le_refl _)
noncomputable def fX12_readsQuery_b165 (v0 : Nat) (v1 : Int32) (t0 : Option Nat) (t1 : Int32) (h : PH) : Option (Int32 × PH) :=
  gs t0 (fun a21 =>
  gd (hK h a21 = 12) (lt (sI h 12 a21 3 t1) (fun h24 =>
  gd (hK h24 v0 = 12) (lt (sI h24 12 v0 2 (0 : Int32)) (fun h26 =>
  if (v1 = 0) then (fX12_readsQuery_b188 v1 h26) else
  bd (fX12_endsOr v0 h26) (fun z28 =>
  gs (hR h26 12 v0 34) (fun a29 =>
  gd (hK z28.2 a29 = 20 ∧ inb (6 : Int32) (hN z28.2 a29)) (lt (sI z28.2 20 a29 (Int32.toNatClampNeg (6 : Int32)) z28.1) (fun h33 =>
  fX12_readsQuery_b188 v1 h33)))))))))
set_option maxRecDepth 100000 in
theorem mX12_readsQuery_b165 {v0 : Nat} {v1 : Int32} {t0 : Option Nat} {t1 : Int32} {h : PH} {r : (Int32 × PH)} (hf : fX12_readsQuery_b165 v0 v1 t0 t1 h = some r) : eqz h (hX r.2) (hV r.2) := by
  unfold fX12_readsQuery_b165 at hf
  have hle := eqz_rf h
  obtain ⟨a21, e22, hf⟩ := gs_some hf
  obtain ⟨hk23, hf⟩ := gd_some hf
  obtain ⟨h24, rfl, hf⟩ := lt_some hf
  obtain ⟨hk25, hf⟩ := gd_some hf
  obtain ⟨h26, rfl, hf⟩ := lt_some hf
  rcases ite_or hf with ⟨q, hf⟩ | ⟨q, hf⟩
  · have hf := if_t q hf
    exact eqz_rt (mX12_readsQuery_b188 hf) hle
  · have hf := if_f q hf
    obtain ⟨z28, hz28, hf⟩ := bd_some hf
    have hle := eqz_rt (mX12_endsOr hz28) hle
    obtain ⟨a29, e30, hf⟩ := gs_some hf
    obtain ⟨⟨hk32, hb31⟩, hf⟩ := gd_some hf
    obtain ⟨h33, rfl, hf⟩ := lt_some hf
    exact eqz_rt (mX12_readsQuery_b188 hf) hle
set_option maxRecDepth 100000 in
theorem wX12_readsQuery_b165 {E : PE} {p : Program} {l : Launch} {e : Env} {s : State} {m : MethodId} {args : Array Value} {below : List Frame} {meth : Method} {c : Code} (X : Cx E p l e (rmv 5 0 0) s m args below meth c RX12 cX12_readsQuery 4 (some .boolean)) (hG : Gs E l) (hnm : meth.name = yX12_readsQuery.name) {v0 : Nat} {v1 : Int32} {t0 : Option Nat} {t1 : Int32} {h : PH} {r : (Int32 × PH)} (hf : fX12_readsQuery_b165 v0 v1 t0 t1 h = some r)  : PW E p l e (rmv 5 0 0) s m args below meth c 4 0 0 (MQ below (QG E (fun v u => v = some (.int r.1) ∧ u = r.2)) args s 0 0 (pA E)) h 165 [(0, some (.ref v0)), (1, some (.int v1))] [.int t1, va_rf t0] := by
  unfold fX12_readsQuery_b165 at hf
  obtain ⟨a21, e22, hf⟩ := gs_some hf
  first | subst e22 | (try rw [e22])
  obtain ⟨hk23, hf⟩ := gd_some hf
  refine p_putI X fl_X12_17 rfl (by decide) (fun q hq => by cases hq; rfl) rfl rfl (dcg dc_X12_readsQuery 90 rfl) hk23 ?_
  obtain ⟨h24, rfl, hf⟩ := lt_some hf
  refine p_aload_n X (dcg dc_X12_readsQuery 91 rfl) rfl rfl ?_
  refine p_iconst (v := 0) X (dcg dc_X12_readsQuery 92 rfl) (by decide) ?_
  obtain ⟨hk25, hf⟩ := gd_some hf
  refine p_putI X fl_X12_163 rfl (by decide) (fun q hq => by cases hq; rfl) rfl rfl (dcg dc_X12_readsQuery 93 rfl) hk25 ?_
  obtain ⟨h26, rfl, hf⟩ := lt_some hf
  refine p_iload_n X (dcg dc_X12_readsQuery 94 rfl) rfl rfl ?_
  refine p_if_eq (tgt := 188) X (dcg dc_X12_readsQuery 95 rfl) (by decide) (fun q => ?_) (fun q => ?_)
  · have hf := if_t q hf
    refine p_pick [1] ?_
    exact wX12_readsQuery_b188 X hG hnm hf 
  · have hf := if_f q hf
    refine p_aload_n X (dcg dc_X12_readsQuery 96 rfl) rfl rfl ?_
    refine p_getR X fl_X12_87 rfl (by decide) (dcg dc_X12_readsQuery 97 rfl) hk25 ?_
    refine p_bipush (v := 6) X (dcg dc_X12_readsQuery 98 rfl) (by decide) ?_
    refine p_aload_n X (dcg dc_X12_readsQuery 99 rfl) rfl rfl ?_
    obtain ⟨z28, hz28, hf⟩ := bd_some hf
    refine p_callV (As := []) X ml_X12_321 (dcg dc_X12_readsQuery 100 rfl) rfl rfl hk25 (wX12_endsOr hG hz28) (by decide) (room4 (Nat.le_of_ble_eq_true rfl)) (Nat.le_refl _) (Nat.le_refl _) ?_
    rintro _ u9 ⟨rfl, e9⟩; have e9 := e9.symm; subst e9
    obtain ⟨a29, e30, hf⟩ := gs_some hf
    first | subst e30 | (try rw [e30])
    obtain ⟨⟨hk32, hb31⟩, hf⟩ := gd_some hf
    refine p_iast X (dcg dc_X12_readsQuery 101 rfl) hk32 (vp_of_inb hb31) ?_
    obtain ⟨h33, rfl, hf⟩ := lt_some hf
    refine p_pick [1] ?_
    exact wX12_readsQuery_b188 X hG hnm hf 
noncomputable def fX12_readsQuery_b152 (v0 : Nat) (v1 : Int32) (h : PH) : Option (Int32 × PH) :=
  if (v1 = 0) then (gd (hK h v0 = 12) (fX12_readsQuery_b165 v0 v1 (some v0) (hI h 12 v0 22) h)) else
  fX12_readsQuery_b165 v0 v1 (some v0) (-1 : Int32) h
set_option maxRecDepth 100000 in
theorem mX12_readsQuery_b152 {v0 : Nat} {v1 : Int32} {h : PH} {r : (Int32 × PH)} (hf : fX12_readsQuery_b152 v0 v1 h = some r) : eqz h (hX r.2) (hV r.2) := by
  unfold fX12_readsQuery_b152 at hf
  have hle := eqz_rf h
  rcases ite_or hf with ⟨q, hf⟩ | ⟨q, hf⟩
  · have hf := if_t q hf
    obtain ⟨hk20, hf⟩ := gd_some hf
    exact eqz_rt (mX12_readsQuery_b165 hf) hle
  · have hf := if_f q hf
    exact eqz_rt (mX12_readsQuery_b165 hf) hle
set_option maxRecDepth 100000 in
theorem wX12_readsQuery_b152 {E : PE} {p : Program} {l : Launch} {e : Env} {s : State} {m : MethodId} {args : Array Value} {below : List Frame} {meth : Method} {c : Code} (X : Cx E p l e (rmv 5 0 0) s m args below meth c RX12 cX12_readsQuery 4 (some .boolean)) (hG : Gs E l) (hnm : meth.name = yX12_readsQuery.name) {v0 : Nat} {v1 : Int32} {h : PH} {r : (Int32 × PH)} (hf : fX12_readsQuery_b152 v0 v1 h = some r)  : PW E p l e (rmv 5 0 0) s m args below meth c 4 0 0 (MQ below (QG E (fun v u => v = some (.int r.1) ∧ u = r.2)) args s 0 0 (pA E)) h 152 [(0, some (.ref v0)), (1, some (.int v1))] [] := by
  unfold fX12_readsQuery_b152 at hf
  refine p_aload_n X (dcg dc_X12_readsQuery 83 rfl) rfl rfl ?_
  refine p_iload_n X (dcg dc_X12_readsQuery 84 rfl) rfl rfl ?_
  refine p_if_eq (tgt := 161) X (dcg dc_X12_readsQuery 85 rfl) (by decide) (fun q => ?_) (fun q => ?_)
  · have hf := if_t q hf
    refine p_aload_n X (dcg dc_X12_readsQuery 88 rfl) rfl rfl ?_
    obtain ⟨hk20, hf⟩ := gd_some hf
    refine p_getI X fl_X12_267 rfl (by decide) (dcg dc_X12_readsQuery 89 rfl) hk20 ?_
    refine p_pick [0, 1] ?_
    exact wX12_readsQuery_b165 X hG hnm hf 
  · have hf := if_f q hf
    refine p_iconst (v := -1) X (dcg dc_X12_readsQuery 86 rfl) (by decide) ?_
    refine p_goto (tgt := 165) X (dcg dc_X12_readsQuery 87 rfl) (by decide) ?_
    refine p_pick [0, 1] ?_
    exact wX12_readsQuery_b165 X hG hnm hf 
noncomputable def fX12_readsQuery_b119 (v0 : Nat) (v3 : Int32) (t0 : Int32) (h : PH) : Option ((Int32 × Int32 × PH) ⊕ (Int32 × PH)) :=
  some (.inl (t0, v3, h))
set_option maxRecDepth 100000 in
theorem mX12_readsQuery_b119 {v0 : Nat} {v3 : Int32} {t0 : Int32} {h : PH} {x : ((Int32 × Int32 × PH) ⊕ (Int32 × PH))} (hf : fX12_readsQuery_b119 v0 v3 t0 h = some x) : (∀ w9 : (Int32 × Int32 × PH), x = .inl w9 → eqz h (hX (w9.2.2)) (hV (w9.2.2))) ∧ (∀ w9 : (Int32 × PH), x = .inr w9 → eqz h (hX w9.2) (hV w9.2)) := by
  unfold fX12_readsQuery_b119 at hf
  have hle := eqz_rf h
  have ee := Option.some.inj hf; subst ee
  exact ⟨(fun z e => by have ee := Sum.inl.inj (e); subst ee; exact hle), (fun z e => nomatch e)⟩
set_option maxRecDepth 100000 in
theorem wX12_readsQuery_b119 {E : PE} {p : Program} {l : Launch} {e : Env} {s : State} {m : MethodId} {args : Array Value} {below : List Frame} {meth : Method} {c : Code} (X : Cx E p l e (rmv 5 0 0) s m args below meth c RX12 cX12_readsQuery 4 (some .boolean)) (hG : Gs E l) (hnm : meth.name = yX12_readsQuery.name) {v0 : Nat} {v3 : Int32} {t0 : Int32} {h : PH} {r : (Int32 × PH)} {x : ((Int32 × Int32 × PH) ⊕ (Int32 × PH))} (hf : fX12_readsQuery_b119 v0 v3 t0 h = some x) (k0 : ∀ z : (Int32 × Int32 × PH), x = .inl z → PW E p l e (rmv 5 0 0) s m args below meth c 4 0 0 (MQ below (QG E (fun v u => v = some (.int r.1) ∧ u = r.2)) args s 0 0 (pA E)) (z.2.2) 54 [(0, some (.ref v0)), (1, some (.int (z.1))), (2, some (.int (z.2.1)))] []) (kf : ∀ z : (Int32 × PH), x = .inr z → z = r) : PW E p l e (rmv 5 0 0) s m args below meth c 4 0 0 (MQ below (QG E (fun v u => v = some (.int r.1) ∧ u = r.2)) args s 0 0 (pA E)) h 119 [(0, some (.ref v0)), (3, some (.int v3))] [.int t0] := by
  unfold fX12_readsQuery_b119 at hf
  refine p_istore_n X (dcg dc_X12_readsQuery 65 rfl) rfl (by decide) rfl ?_
  refine p_iload_n X (dcg dc_X12_readsQuery 66 rfl) rfl rfl ?_
  refine p_istore_n X (dcg dc_X12_readsQuery 67 rfl) rfl (by decide) rfl ?_
  refine p_goto (tgt := 54) X (dcg dc_X12_readsQuery 68 rfl) (by decide) ?_
  refine p_pick [0, 1, 2] ?_
  exact k0 _ (Option.some.inj hf).symm
noncomputable def fX12_readsQuery_b103 (v0 : Nat) (t0 : Int32) (h : PH) : Option ((Int32 × Int32 × PH) ⊕ (Int32 × PH)) :=
  if (t0 = 0) then (gd (hK h v0 = 12) (bd (fX12_readsPart v0 h) (fun z43 =>
  fX12_readsQuery_b119 v0 t0 z43.1 z43.2))) else
  gd (hK h v0 = 12) (bd (fX12_opens v0 h) (fun z45 =>
  fX12_readsQuery_b119 v0 t0 z45.1 z45.2))
set_option maxRecDepth 100000 in
theorem mX12_readsQuery_b103 {v0 : Nat} {t0 : Int32} {h : PH} {x : ((Int32 × Int32 × PH) ⊕ (Int32 × PH))} (hf : fX12_readsQuery_b103 v0 t0 h = some x) : (∀ w9 : (Int32 × Int32 × PH), x = .inl w9 → eqz h (hX (w9.2.2)) (hV (w9.2.2))) ∧ (∀ w9 : (Int32 × PH), x = .inr w9 → eqz h (hX w9.2) (hV w9.2)) := by
  unfold fX12_readsQuery_b103 at hf
  have hle := eqz_rf h
  rcases ite_or hf with ⟨q, hf⟩ | ⟨q, hf⟩
  · have hf := if_t q hf
    obtain ⟨hk42, hf⟩ := gd_some hf
    obtain ⟨z43, hz43, hf⟩ := bd_some hf
    have hle := eqz_rt (mX12_readsPart hz43) hle
    obtain ⟨c0, cf⟩ := mX12_readsQuery_b119 hf
    exact ⟨fun z e => eqz_rt (c0 z (e)) hle, fun z e => eqz_rt (cf z (e)) hle⟩
  · have hf := if_f q hf
    obtain ⟨hk44, hf⟩ := gd_some hf
    obtain ⟨z45, hz45, hf⟩ := bd_some hf
    have hle := eqz_rt (mX12_opens hz45) hle
    obtain ⟨c0, cf⟩ := mX12_readsQuery_b119 hf
    exact ⟨fun z e => eqz_rt (c0 z (e)) hle, fun z e => eqz_rt (cf z (e)) hle⟩
set_option maxRecDepth 100000 in
theorem wX12_readsQuery_b103 {E : PE} {p : Program} {l : Launch} {e : Env} {s : State} {m : MethodId} {args : Array Value} {below : List Frame} {meth : Method} {c : Code} (X : Cx E p l e (rmv 5 0 0) s m args below meth c RX12 cX12_readsQuery 4 (some .boolean)) (hG : Gs E l) (hnm : meth.name = yX12_readsQuery.name) {v0 : Nat} {t0 : Int32} {h : PH} {r : (Int32 × PH)} {x : ((Int32 × Int32 × PH) ⊕ (Int32 × PH))} (hf : fX12_readsQuery_b103 v0 t0 h = some x) (k0 : ∀ z : (Int32 × Int32 × PH), x = .inl z → PW E p l e (rmv 5 0 0) s m args below meth c 4 0 0 (MQ below (QG E (fun v u => v = some (.int r.1) ∧ u = r.2)) args s 0 0 (pA E)) (z.2.2) 54 [(0, some (.ref v0)), (1, some (.int (z.1))), (2, some (.int (z.2.1)))] []) (kf : ∀ z : (Int32 × PH), x = .inr z → z = r) : PW E p l e (rmv 5 0 0) s m args below meth c 4 0 0 (MQ below (QG E (fun v u => v = some (.int r.1) ∧ u = r.2)) args s 0 0 (pA E)) h 103 [(0, some (.ref v0))] [.int t0] := by
  unfold fX12_readsQuery_b103 at hf
  refine p_istore_n X (dcg dc_X12_readsQuery 57 rfl) rfl (by decide) rfl ?_
  refine p_iload_n X (dcg dc_X12_readsQuery 58 rfl) rfl rfl ?_
  refine p_if_eq (tgt := 115) X (dcg dc_X12_readsQuery 59 rfl) (by decide) (fun q => ?_) (fun q => ?_)
  · have hf := if_t q hf
    refine p_aload_n X (dcg dc_X12_readsQuery 63 rfl) rfl rfl ?_
    obtain ⟨hk42, hf⟩ := gd_some hf
    obtain ⟨z43, hz43, hf⟩ := bd_some hf
    refine p_callV (As := []) X ml_X12_327 (dcg dc_X12_readsQuery 64 rfl) rfl rfl hk42 (wX12_readsPart hG hz43) (by decide) (room4 (Nat.le_of_ble_eq_true rfl)) (Nat.le_refl _) (Nat.le_refl _) ?_
    rintro _ u9 ⟨rfl, e9⟩; have e9 := e9.symm; subst e9
    refine p_pick [0, 3] ?_
    exact wX12_readsQuery_b119 X hG hnm hf k0 kf
  · have hf := if_f q hf
    refine p_aload_n X (dcg dc_X12_readsQuery 60 rfl) rfl rfl ?_
    obtain ⟨hk44, hf⟩ := gd_some hf
    obtain ⟨z45, hz45, hf⟩ := bd_some hf
    refine p_callV (As := []) X ml_X12_324 (dcg dc_X12_readsQuery 61 rfl) rfl rfl hk44 (wX12_opens hG hz45) (by decide) (room4 (Nat.le_of_ble_eq_true rfl)) (Nat.le_refl _) (Nat.le_refl _) ?_
    rintro _ u9 ⟨rfl, e9⟩; have e9 := e9.symm; subst e9
    refine p_goto (tgt := 119) X (dcg dc_X12_readsQuery 62 rfl) (by decide) ?_
    refine p_pick [0, 3] ?_
    exact wX12_readsQuery_b119 X hG hnm hf k0 kf
noncomputable def fX12_readsQuery_b98 (v0 : Nat) (h : PH) : Option ((Int32 × Int32 × PH) ⊕ (Int32 × PH)) :=
  fX12_readsQuery_b103 v0 (1 : Int32) h
set_option maxRecDepth 100000 in
theorem mX12_readsQuery_b98 {v0 : Nat} {h : PH} {x : ((Int32 × Int32 × PH) ⊕ (Int32 × PH))} (hf : fX12_readsQuery_b98 v0 h = some x) : (∀ w9 : (Int32 × Int32 × PH), x = .inl w9 → eqz h (hX (w9.2.2)) (hV (w9.2.2))) ∧ (∀ w9 : (Int32 × PH), x = .inr w9 → eqz h (hX w9.2) (hV w9.2)) := by
  unfold fX12_readsQuery_b98 at hf
  have hle := eqz_rf h
  obtain ⟨c0, cf⟩ := mX12_readsQuery_b103 hf
  exact ⟨fun z e => eqz_rt (c0 z (e)) hle, fun z e => eqz_rt (cf z (e)) hle⟩
set_option maxRecDepth 100000 in
theorem wX12_readsQuery_b98 {E : PE} {p : Program} {l : Launch} {e : Env} {s : State} {m : MethodId} {args : Array Value} {below : List Frame} {meth : Method} {c : Code} (X : Cx E p l e (rmv 5 0 0) s m args below meth c RX12 cX12_readsQuery 4 (some .boolean)) (hG : Gs E l) (hnm : meth.name = yX12_readsQuery.name) {v0 : Nat} {h : PH} {r : (Int32 × PH)} {x : ((Int32 × Int32 × PH) ⊕ (Int32 × PH))} (hf : fX12_readsQuery_b98 v0 h = some x) (k0 : ∀ z : (Int32 × Int32 × PH), x = .inl z → PW E p l e (rmv 5 0 0) s m args below meth c 4 0 0 (MQ below (QG E (fun v u => v = some (.int r.1) ∧ u = r.2)) args s 0 0 (pA E)) (z.2.2) 54 [(0, some (.ref v0)), (1, some (.int (z.1))), (2, some (.int (z.2.1)))] []) (kf : ∀ z : (Int32 × PH), x = .inr z → z = r) : PW E p l e (rmv 5 0 0) s m args below meth c 4 0 0 (MQ below (QG E (fun v u => v = some (.int r.1) ∧ u = r.2)) args s 0 0 (pA E)) h 98 [(0, some (.ref v0))] [] := by
  unfold fX12_readsQuery_b98 at hf
  refine p_iconst (v := 1) X (dcg dc_X12_readsQuery 54 rfl) (by decide) ?_
  refine p_goto (tgt := 103) X (dcg dc_X12_readsQuery 55 rfl) (by decide) ?_
  refine p_pick [0] ?_
  exact wX12_readsQuery_b103 X hG hnm hf k0 kf
noncomputable def fX12_readsQuery_b76 (v0 : Nat) (v2 : Int32) (h : PH) : Option ((Int32 × Int32 × PH) ⊕ (Int32 × PH)) :=
  if (v2 = 0) then (gd (hK h v0 = 12) (bd (fX12_isSignNow v0 (41 : Int32) h) (fun z37 =>
  if (z37 = 0) then (bd (fX12_readsJoin v0 h) (fun z38 =>
  some (.inl (z38.1, (1 : Int32), z38.2)))) else
  bd (fX12_closes v0 h) (fun z39 =>
  some (.inl (z39.1, v2, z39.2)))))) else
  gd (hK h v0 = 12) (bd (fX12_isSignNow v0 (33 : Int32) h) (fun z41 =>
  if (¬ z41 = 0) then (fX12_readsQuery_b98 v0 h) else
  bd (fX12_isSignNow v0 (40 : Int32) h) (fun z46 =>
  if (z46 = 0) then (fX12_readsQuery_b103 v0 (0 : Int32) h) else
  fX12_readsQuery_b98 v0 h)))
set_option maxRecDepth 100000 in
theorem mX12_readsQuery_b76 {v0 : Nat} {v2 : Int32} {h : PH} {x : ((Int32 × Int32 × PH) ⊕ (Int32 × PH))} (hf : fX12_readsQuery_b76 v0 v2 h = some x) : (∀ w9 : (Int32 × Int32 × PH), x = .inl w9 → eqz h (hX (w9.2.2)) (hV (w9.2.2))) ∧ (∀ w9 : (Int32 × PH), x = .inr w9 → eqz h (hX w9.2) (hV w9.2)) := by
  unfold fX12_readsQuery_b76 at hf
  have hle := eqz_rf h
  rcases ite_or hf with ⟨q, hf⟩ | ⟨q, hf⟩
  · have hf := if_t q hf
    obtain ⟨hk36, hf⟩ := gd_some hf
    obtain ⟨z37, hz37, hf⟩ := bd_some hf
    rcases ite_or hf with ⟨q, hf⟩ | ⟨q, hf⟩
    · have hf := if_t q hf
      obtain ⟨z38, hz38, hf⟩ := bd_some hf
      have hle := eqz_rt (mX12_readsJoin hz38) hle
      have ee := Option.some.inj hf; subst ee
      exact ⟨(fun z e => by have ee := Sum.inl.inj (e); subst ee; exact hle), (fun z e => nomatch e)⟩
    · have hf := if_f q hf
      obtain ⟨z39, hz39, hf⟩ := bd_some hf
      have hle := eqz_rt (mX12_closes hz39) hle
      have ee := Option.some.inj hf; subst ee
      exact ⟨(fun z e => by have ee := Sum.inl.inj (e); subst ee; exact hle), (fun z e => nomatch e)⟩
  · have hf := if_f q hf
    obtain ⟨hk40, hf⟩ := gd_some hf
    obtain ⟨z41, hz41, hf⟩ := bd_some hf
    rcases ite_or hf with ⟨q, hf⟩ | ⟨q, hf⟩
    · have hf := if_t q hf
      obtain ⟨c0, cf⟩ := mX12_readsQuery_b98 hf
      exact ⟨fun z e => eqz_rt (c0 z (e)) hle, fun z e => eqz_rt (cf z (e)) hle⟩
    · have hf := if_f q hf
      obtain ⟨z46, hz46, hf⟩ := bd_some hf
      rcases ite_or hf with ⟨q, hf⟩ | ⟨q, hf⟩
      · have hf := if_t q hf
        obtain ⟨c0, cf⟩ := mX12_readsQuery_b103 hf
        exact ⟨fun z e => eqz_rt (c0 z (e)) hle, fun z e => eqz_rt (cf z (e)) hle⟩
      · have hf := if_f q hf
        obtain ⟨c0, cf⟩ := mX12_readsQuery_b98 hf
        exact ⟨fun z e => eqz_rt (c0 z (e)) hle, fun z e => eqz_rt (cf z (e)) hle⟩
set_option maxRecDepth 100000 in
theorem wX12_readsQuery_b76 {E : PE} {p : Program} {l : Launch} {e : Env} {s : State} {m : MethodId} {args : Array Value} {below : List Frame} {meth : Method} {c : Code} (X : Cx E p l e (rmv 5 0 0) s m args below meth c RX12 cX12_readsQuery 4 (some .boolean)) (hG : Gs E l) (hnm : meth.name = yX12_readsQuery.name) {v0 : Nat} {v2 : Int32} {h : PH} {r : (Int32 × PH)} {x : ((Int32 × Int32 × PH) ⊕ (Int32 × PH))} (hf : fX12_readsQuery_b76 v0 v2 h = some x) (k0 : ∀ z : (Int32 × Int32 × PH), x = .inl z → PW E p l e (rmv 5 0 0) s m args below meth c 4 0 0 (MQ below (QG E (fun v u => v = some (.int r.1) ∧ u = r.2)) args s 0 0 (pA E)) (z.2.2) 54 [(0, some (.ref v0)), (1, some (.int (z.1))), (2, some (.int (z.2.1)))] []) (kf : ∀ z : (Int32 × PH), x = .inr z → z = r) : PW E p l e (rmv 5 0 0) s m args below meth c 4 0 0 (MQ below (QG E (fun v u => v = some (.int r.1) ∧ u = r.2)) args s 0 0 (pA E)) h 76 [(0, some (.ref v0)), (2, some (.int v2))] [] := by
  unfold fX12_readsQuery_b76 at hf
  refine p_iload_n X (dcg dc_X12_readsQuery 44 rfl) rfl rfl ?_
  refine p_if_eq (tgt := 125) X (dcg dc_X12_readsQuery 45 rfl) (by decide) (fun q => ?_) (fun q => ?_)
  · have hf := if_t q hf
    refine p_aload_n X (dcg dc_X12_readsQuery 69 rfl) rfl rfl ?_
    refine p_bipush (v := 41) X (dcg dc_X12_readsQuery 70 rfl) (by decide) ?_
    obtain ⟨hk36, hf⟩ := gd_some hf
    obtain ⟨z37, hz37, hf⟩ := bd_some hf
    refine p_callV (As := [_]) X ml_X12_309 (dcg dc_X12_readsQuery 71 rfl) rfl rfl hk36 (wX12_isSignNow hG hz37) (by decide) (room4 (Nat.le_of_ble_eq_true rfl)) (Nat.le_refl _) (Nat.le_refl _) ?_
    rintro _ u9 ⟨rfl, e9⟩; have e9 := e9.symm; subst e9
    refine p_if_eq (tgt := 142) X (dcg dc_X12_readsQuery 72 rfl) (by decide) (fun q => ?_) (fun q => ?_)
    · have hf := if_t q hf
      refine p_aload_n X (dcg dc_X12_readsQuery 77 rfl) rfl rfl ?_
      obtain ⟨z38, hz38, hf⟩ := bd_some hf
      refine p_callV (As := []) X ml_X12_333 (dcg dc_X12_readsQuery 78 rfl) rfl rfl hk36 (wX12_readsJoin hG hz38) (by decide) (room4 (Nat.le_of_ble_eq_true rfl)) (Nat.le_refl _) (Nat.le_refl _) ?_
      rintro _ u9 ⟨rfl, e9⟩; have e9 := e9.symm; subst e9
      refine p_istore_n X (dcg dc_X12_readsQuery 79 rfl) rfl (by decide) rfl ?_
      refine p_iconst (v := 1) X (dcg dc_X12_readsQuery 80 rfl) (by decide) ?_
      refine p_istore_n X (dcg dc_X12_readsQuery 81 rfl) rfl (by decide) rfl ?_
      refine p_goto (tgt := 54) X (dcg dc_X12_readsQuery 82 rfl) (by decide) ?_
      refine p_pick [0, 1, 2] ?_
      exact k0 _ (Option.some.inj hf).symm
    · have hf := if_f q hf
      refine p_aload_n X (dcg dc_X12_readsQuery 73 rfl) rfl rfl ?_
      obtain ⟨z39, hz39, hf⟩ := bd_some hf
      refine p_callV (As := []) X ml_X12_330 (dcg dc_X12_readsQuery 74 rfl) rfl rfl hk36 (wX12_closes hG hz39) (by decide) (room4 (Nat.le_of_ble_eq_true rfl)) (Nat.le_refl _) (Nat.le_refl _) ?_
      rintro _ u9 ⟨rfl, e9⟩; have e9 := e9.symm; subst e9
      refine p_istore_n X (dcg dc_X12_readsQuery 75 rfl) rfl (by decide) rfl ?_
      refine p_goto (tgt := 54) X (dcg dc_X12_readsQuery 76 rfl) (by decide) ?_
      refine p_pick [0, 1, 2] ?_
      exact k0 _ (Option.some.inj hf).symm
  · have hf := if_f q hf
    refine p_aload_n X (dcg dc_X12_readsQuery 46 rfl) rfl rfl ?_
    refine p_bipush (v := 33) X (dcg dc_X12_readsQuery 47 rfl) (by decide) ?_
    obtain ⟨hk40, hf⟩ := gd_some hf
    obtain ⟨z41, hz41, hf⟩ := bd_some hf
    refine p_callV (As := [_]) X ml_X12_309 (dcg dc_X12_readsQuery 48 rfl) rfl rfl hk40 (wX12_isSignNow hG hz41) (by decide) (room4 (Nat.le_of_ble_eq_true rfl)) (Nat.le_refl _) (Nat.le_refl _) ?_
    rintro _ u9 ⟨rfl, e9⟩; have e9 := e9.symm; subst e9
    refine p_if_ne (tgt := 98) X (dcg dc_X12_readsQuery 49 rfl) (by decide) (fun q => ?_) (fun q => ?_)
    · have hf := if_t q hf
      refine p_pick [0] ?_
      exact wX12_readsQuery_b98 X hG hnm hf k0 kf
    · have hf := if_f q hf
      refine p_aload_n X (dcg dc_X12_readsQuery 50 rfl) rfl rfl ?_
      refine p_bipush (v := 40) X (dcg dc_X12_readsQuery 51 rfl) (by decide) ?_
      obtain ⟨z46, hz46, hf⟩ := bd_some hf
      refine p_callV (As := [_]) X ml_X12_309 (dcg dc_X12_readsQuery 52 rfl) rfl rfl hk40 (wX12_isSignNow hG hz46) (by decide) (room4 (Nat.le_of_ble_eq_true rfl)) (Nat.le_refl _) (Nat.le_refl _) ?_
      rintro _ u9 ⟨rfl, e9⟩; have e9 := e9.symm; subst e9
      refine p_if_eq (tgt := 102) X (dcg dc_X12_readsQuery 53 rfl) (by decide) (fun q => ?_) (fun q => ?_)
      · have hf := if_t q hf
        refine p_iconst (v := 0) X (dcg dc_X12_readsQuery 56 rfl) (by decide) ?_
        refine p_pick [0] ?_
        exact wX12_readsQuery_b103 X hG hnm hf k0 kf
      · have hf := if_f q hf
        refine p_pick [0] ?_
        exact wX12_readsQuery_b98 X hG hnm hf k0 kf
noncomputable def fX12_readsQuery_c54 (v0 : Nat) (v1 : Int32) (v2 : Int32) (h : PH) : Option ((Int32 × Int32 × PH) ⊕ (Int32 × PH)) :=
  if (v1 = 0) then (mr (fX12_readsQuery_b152 v0 v1 h)) else
  if (¬ v2 = 0) then (fX12_readsQuery_b76 v0 v2 h) else
  gd (hK h v0 = 12) (if (¬ (hI h 12 v0 21) = 0) then (fX12_readsQuery_b76 v0 v2 h) else
  if ((hI h 12 v0 42) ≤ 0) then (mr (fX12_readsQuery_b152 v0 v1 h)) else
  fX12_readsQuery_b76 v0 v2 h)
set_option maxRecDepth 100000 in
theorem mX12_readsQuery_c54 {v0 : Nat} {v1 : Int32} {v2 : Int32} {h : PH} {x : ((Int32 × Int32 × PH) ⊕ (Int32 × PH))} (hf : fX12_readsQuery_c54 v0 v1 v2 h = some x) : (∀ w9 : (Int32 × Int32 × PH), x = .inl w9 → eqz h (hX (w9.2.2)) (hV (w9.2.2))) ∧ (∀ w9 : (Int32 × PH), x = .inr w9 → eqz h (hX w9.2) (hV w9.2)) := by
  unfold fX12_readsQuery_c54 at hf
  have hle := eqz_rf h
  rcases ite_or hf with ⟨q, hf⟩ | ⟨q, hf⟩
  · have hf := if_t q hf
    obtain ⟨y34, hfm, rfl⟩ := mr_some hf; have hf := hfm; clear hfm
    have cf := mX12_readsQuery_b152 hf
    exact ⟨(fun z e => nomatch e), (fun z e => by cases e <;> exact eqz_rt cf hle)⟩
  · have hf := if_f q hf
    rcases ite_or hf with ⟨q, hf⟩ | ⟨q, hf⟩
    · have hf := if_t q hf
      obtain ⟨c0, cf⟩ := mX12_readsQuery_b76 hf
      exact ⟨fun z e => eqz_rt (c0 z (e)) hle, fun z e => eqz_rt (cf z (e)) hle⟩
    · have hf := if_f q hf
      obtain ⟨hk47, hf⟩ := gd_some hf
      rcases ite_or hf with ⟨q, hf⟩ | ⟨q, hf⟩
      · have hf := if_t q hf
        obtain ⟨c0, cf⟩ := mX12_readsQuery_b76 hf
        exact ⟨fun z e => eqz_rt (c0 z (e)) hle, fun z e => eqz_rt (cf z (e)) hle⟩
      · have hf := if_f q hf
        rcases ite_or hf with ⟨q, hf⟩ | ⟨q, hf⟩
        · have hf := if_t q hf
          obtain ⟨y48, hfm, rfl⟩ := mr_some hf; have hf := hfm; clear hfm
          have cf := mX12_readsQuery_b152 hf
          exact ⟨(fun z e => nomatch e), (fun z e => by cases e <;> exact eqz_rt cf hle)⟩
        · have hf := if_f q hf
          obtain ⟨c0, cf⟩ := mX12_readsQuery_b76 hf
          exact ⟨fun z e => eqz_rt (c0 z (e)) hle, fun z e => eqz_rt (cf z (e)) hle⟩
set_option maxRecDepth 100000 in
theorem wX12_readsQuery_c54 {E : PE} {p : Program} {l : Launch} {e : Env} {s : State} {m : MethodId} {args : Array Value} {below : List Frame} {meth : Method} {c : Code} (X : Cx E p l e (rmv 5 0 0) s m args below meth c RX12 cX12_readsQuery 4 (some .boolean)) (hG : Gs E l) (hnm : meth.name = yX12_readsQuery.name) {v0 : Nat} {v1 : Int32} {v2 : Int32} {h : PH} {r : (Int32 × PH)} {x : ((Int32 × Int32 × PH) ⊕ (Int32 × PH))} (hf : fX12_readsQuery_c54 v0 v1 v2 h = some x) (k0 : ∀ z : (Int32 × Int32 × PH), x = .inl z → PW E p l e (rmv 5 0 0) s m args below meth c 4 0 0 (MQ below (QG E (fun v u => v = some (.int r.1) ∧ u = r.2)) args s 0 0 (pA E)) (z.2.2) 54 [(0, some (.ref v0)), (1, some (.int (z.1))), (2, some (.int (z.2.1)))] []) (kf : ∀ z : (Int32 × PH), x = .inr z → z = r) : PW E p l e (rmv 5 0 0) s m args below meth c 4 0 0 (MQ below (QG E (fun v u => v = some (.int r.1) ∧ u = r.2)) args s 0 0 (pA E)) h 54 [(0, some (.ref v0)), (1, some (.int v1)), (2, some (.int v2))] [] := by
  unfold fX12_readsQuery_c54 at hf
  refine p_iload_n X (dcg dc_X12_readsQuery 34 rfl) rfl rfl ?_
  refine p_if_eq (tgt := 152) X (dcg dc_X12_readsQuery 35 rfl) (by decide) (fun q => ?_) (fun q => ?_)
  · have hf := if_t q hf
    obtain ⟨y34, hf, hy35⟩ := mr_some hf
    have hy35f := kf y34 hy35
    subst hy35f
    refine p_pick [0, 1] ?_
    exact wX12_readsQuery_b152 X hG hnm hf 
  · have hf := if_f q hf
    refine p_iload_n X (dcg dc_X12_readsQuery 36 rfl) rfl rfl ?_
    refine p_if_ne (tgt := 76) X (dcg dc_X12_readsQuery 37 rfl) (by decide) (fun q => ?_) (fun q => ?_)
    · have hf := if_t q hf
      refine p_pick [0, 2] ?_
      exact wX12_readsQuery_b76 X hG hnm hf k0 kf
    · have hf := if_f q hf
      refine p_aload_n X (dcg dc_X12_readsQuery 38 rfl) rfl rfl ?_
      obtain ⟨hk47, hf⟩ := gd_some hf
      refine p_getI X fl_X12_264 rfl (by decide) (dcg dc_X12_readsQuery 39 rfl) hk47 ?_
      refine p_if_ne (tgt := 76) X (dcg dc_X12_readsQuery 40 rfl) (by decide) (fun q => ?_) (fun q => ?_)
      · have hf := if_t q hf
        refine p_pick [0, 2] ?_
        exact wX12_readsQuery_b76 X hG hnm hf k0 kf
      · have hf := if_f q hf
        refine p_aload_n X (dcg dc_X12_readsQuery 41 rfl) rfl rfl ?_
        refine p_getI X fl_X12_281 rfl (by decide) (dcg dc_X12_readsQuery 42 rfl) hk47 ?_
        refine p_if_le (tgt := 152) X (dcg dc_X12_readsQuery 43 rfl) (by decide) (fun q => ?_) (fun q => ?_)
        · have hf := if_t q hf
          obtain ⟨y48, hf, hy49⟩ := mr_some hf
          have hy49f := kf y48 hy49
          subst hy49f
          refine p_pick [0, 1] ?_
          exact wX12_readsQuery_b152 X hG hnm hf 
        · have hf := if_f q hf
          refine p_pick [0, 2] ?_
          exact wX12_readsQuery_b76 X hG hnm hf k0 kf
noncomputable def fX12_readsQuery_l54 (v0 : Nat) (v1 : Int32) (v2 : Int32) (h : PH) : Option (Int32 × PH) := wh (fun z : (Int32 × Int32 × PH) => fX12_readsQuery_c54 v0 (z.1) (z.2.1) (z.2.2)) (v1, v2, h)
set_option maxRecDepth 100000 in
theorem mX12_readsQuery_l54 {v0 : Nat} {v1 : Int32} {v2 : Int32} {h : PH} {r : (Int32 × PH)} (hf : fX12_readsQuery_l54 v0 v1 v2 h = some r) : eqz h (hX r.2) (hV r.2) := by
  unfold fX12_readsQuery_l54 at hf
  refine wh_ind (P := fun z => eqz (z.2.2) (hX r.2) (hV r.2)) (fun z x0 hs i1 i2 => ?_) _ hf
  obtain ⟨c0, cf⟩ := mX12_readsQuery_c54 (v0 := v0) (v1 := z.1) (v2 := z.2.1) (h := z.2.2) hs
  rcases hxx : x0 with zz | zz
  · exact eqz_tr (c0 zz hxx) (i1 zz hxx)
  · have ee := i2 zz hxx; subst ee; exact cf zz hxx
set_option maxRecDepth 100000 in
theorem wX12_readsQuery_l54 {E : PE} {p : Program} {l : Launch} {e : Env} {s : State} {m : MethodId} {args : Array Value} {below : List Frame} {meth : Method} {c : Code} (X : Cx E p l e (rmv 5 0 0) s m args below meth c RX12 cX12_readsQuery 4 (some .boolean)) (hG : Gs E l) (hnm : meth.name = yX12_readsQuery.name) {v0 : Nat} {v1 : Int32} {v2 : Int32} {h : PH} {r : (Int32 × PH)} (hf : fX12_readsQuery_l54 v0 v1 v2 h = some r)  : PW E p l e (rmv 5 0 0) s m args below meth c 4 0 0 (MQ below (QG E (fun v u => v = some (.int r.1) ∧ u = r.2)) args s 0 0 (pA E)) h 54 [(0, some (.ref v0)), (1, some (.int v1)), (2, some (.int v2))] [] := by
  unfold fX12_readsQuery_l54 at hf
  refine wh_ind (P := fun z => PW E p l e (rmv 5 0 0) s m args below meth c 4 0 0 (MQ below (QG E (fun v u => v = some (.int r.1) ∧ u = r.2)) args s 0 0 (pA E)) (z.2.2) 54 [(0, some (.ref v0)), (1, some (.int (z.1))), (2, some (.int (z.2.1)))] []) (fun z x0 hs i1 i2 => ?_) _ hf
  exact wX12_readsQuery_c54 (r := r) (v0 := v0) (v1 := z.1) (v2 := z.2.1) (h := z.2.2) X hG hnm hs i1  i2
noncomputable def fX12_readsQuery (v0 : Nat) (h : PH) : Option (Int32 × PH) :=
  gd (hK h v0 = 12) (lt (sI h 12 v0 24 (0 : Int32)) (fun h2 =>
  gs (hR h2 12 v0 32) (fun a3 =>
  gd (hK h2 a3 = 20 ∧ inb (6 : Int32) (hN h2 a3)) (lt (sI h2 20 a3 (Int32.toNatClampNeg (6 : Int32)) (0 : Int32)) (fun h7 =>
  gs (hR h7 12 v0 33) (fun a8 =>
  gd (hK h7 a8 = 20 ∧ inb (6 : Int32) (hN h7 a8)) (lt (sI h7 20 a8 (Int32.toNatClampNeg (6 : Int32)) (0 : Int32)) (fun h12 =>
  lt (sI h12 12 v0 42 (0 : Int32)) (fun h13 =>
  lt (sI h13 12 v0 43 (0 : Int32)) (fun h14 =>
  lt (sI h14 12 v0 44 (0 : Int32)) (fun h15 =>
  lt (sI h15 12 v0 45 (0 : Int32)) (fun h16 =>
  bd (fX12_begins0 v0 (0 : Int32) h16) (fun z17 =>
  gd (hK z17 v0 = 12) (bd (fX12_reads v0 z17) (fun z19 =>
  fX12_readsQuery_l54 v0 (1 : Int32) (1 : Int32) z19)))))))))))))))
set_option maxRecDepth 100000 in
theorem mX12_readsQuery {v0 : Nat} {h : PH} {r : (Int32 × PH)} (hf : fX12_readsQuery v0 h = some r) : eqz h (hX r.2) (hV r.2) := by
  unfold fX12_readsQuery at hf
  have hle := eqz_rf h
  obtain ⟨hk1, hf⟩ := gd_some hf
  obtain ⟨h2, rfl, hf⟩ := lt_some hf
  obtain ⟨a3, e4, hf⟩ := gs_some hf
  obtain ⟨⟨hk6, hb5⟩, hf⟩ := gd_some hf
  obtain ⟨h7, rfl, hf⟩ := lt_some hf
  obtain ⟨a8, e9, hf⟩ := gs_some hf
  obtain ⟨⟨hk11, hb10⟩, hf⟩ := gd_some hf
  obtain ⟨h12, rfl, hf⟩ := lt_some hf
  obtain ⟨h13, rfl, hf⟩ := lt_some hf
  obtain ⟨h14, rfl, hf⟩ := lt_some hf
  obtain ⟨h15, rfl, hf⟩ := lt_some hf
  obtain ⟨h16, rfl, hf⟩ := lt_some hf
  obtain ⟨z17, hz17, hf⟩ := bd_some hf
  have hle := eqz_rt (mX12_begins0 hz17) hle
  obtain ⟨hk18, hf⟩ := gd_some hf
  obtain ⟨z19, hz19, hf⟩ := bd_some hf
  have hle := eqz_rt (mX12_reads hz19) hle
  exact eqz_rt (mX12_readsQuery_l54 hf) hle
set_option maxRecDepth 100000 in
theorem wX12_readsQuery {E : PE} {l : Launch} (hG : Gs E l) {v0 : Nat} {h : PH} {r : (Int32 × PH)} (hf : fX12_readsQuery v0 h = some r) : Ct E l 5 0 0 yX12_readsQuery cX12_readsQuery 4 (some .boolean) [.ref v0] h (fun v u => v = some (.int r.1) ∧ u = r.2) := by
  refine ct_of hG (by decide) (Nat.le_of_ble_eq_true rfl) ?_
  intro p e s m args below meth c X hnm
  show PW E p l e _ s m args below meth c _ 0 0 _ h 0 [(0, some (.ref v0))] []
  unfold fX12_readsQuery at hf
  refine p_aload_n X (dcg dc_X12_readsQuery 0 rfl) rfl rfl ?_
  refine p_iconst (v := 0) X (dcg dc_X12_readsQuery 1 rfl) (by decide) ?_
  obtain ⟨hk1, hf⟩ := gd_some hf
  refine p_putI X fl_X12_261 rfl (by decide) (fun q hq => by cases hq; rfl) rfl rfl (dcg dc_X12_readsQuery 2 rfl) hk1 ?_
  obtain ⟨h2, rfl, hf⟩ := lt_some hf
  refine p_aload_n X (dcg dc_X12_readsQuery 3 rfl) rfl rfl ?_
  refine p_getR X fl_X12_81 rfl (by decide) (dcg dc_X12_readsQuery 4 rfl) hk1 ?_
  refine p_bipush (v := 6) X (dcg dc_X12_readsQuery 5 rfl) (by decide) ?_
  refine p_iconst (v := 0) X (dcg dc_X12_readsQuery 6 rfl) (by decide) ?_
  obtain ⟨a3, e4, hf⟩ := gs_some hf
  first | subst e4 | (try rw [e4])
  obtain ⟨⟨hk6, hb5⟩, hf⟩ := gd_some hf
  refine p_iast X (dcg dc_X12_readsQuery 7 rfl) hk6 (vp_of_inb hb5) ?_
  obtain ⟨h7, rfl, hf⟩ := lt_some hf
  refine p_aload_n X (dcg dc_X12_readsQuery 8 rfl) rfl rfl ?_
  refine p_getR X fl_X12_84 rfl (by decide) (dcg dc_X12_readsQuery 9 rfl) hk1 ?_
  refine p_bipush (v := 6) X (dcg dc_X12_readsQuery 10 rfl) (by decide) ?_
  refine p_iconst (v := 0) X (dcg dc_X12_readsQuery 11 rfl) (by decide) ?_
  obtain ⟨a8, e9, hf⟩ := gs_some hf
  first | subst e9 | (try rw [e9])
  obtain ⟨⟨hk11, hb10⟩, hf⟩ := gd_some hf
  refine p_iast X (dcg dc_X12_readsQuery 12 rfl) hk11 (vp_of_inb hb10) ?_
  obtain ⟨h12, rfl, hf⟩ := lt_some hf
  refine p_aload_n X (dcg dc_X12_readsQuery 13 rfl) rfl rfl ?_
  refine p_iconst (v := 0) X (dcg dc_X12_readsQuery 14 rfl) (by decide) ?_
  refine p_putI X fl_X12_281 rfl (by decide) (fun q hq => by cases hq; rfl) rfl rfl (dcg dc_X12_readsQuery 15 rfl) hk1 ?_
  obtain ⟨h13, rfl, hf⟩ := lt_some hf
  refine p_aload_n X (dcg dc_X12_readsQuery 16 rfl) rfl rfl ?_
  refine p_iconst (v := 0) X (dcg dc_X12_readsQuery 17 rfl) (by decide) ?_
  refine p_putI X fl_X12_290 rfl (by decide) (fun q hq => by cases hq; rfl) rfl rfl (dcg dc_X12_readsQuery 18 rfl) hk1 ?_
  obtain ⟨h14, rfl, hf⟩ := lt_some hf
  refine p_aload_n X (dcg dc_X12_readsQuery 19 rfl) rfl rfl ?_
  refine p_iconst (v := 0) X (dcg dc_X12_readsQuery 20 rfl) (by decide) ?_
  refine p_putI X fl_X12_284 rfl (by decide) (fun q hq => by cases hq; rfl) rfl rfl (dcg dc_X12_readsQuery 21 rfl) hk1 ?_
  obtain ⟨h15, rfl, hf⟩ := lt_some hf
  refine p_aload_n X (dcg dc_X12_readsQuery 22 rfl) rfl rfl ?_
  refine p_iconst (v := 0) X (dcg dc_X12_readsQuery 23 rfl) (by decide) ?_
  refine p_putI X fl_X12_300 rfl (by decide) (fun q hq => by cases hq; rfl) rfl rfl (dcg dc_X12_readsQuery 24 rfl) hk1 ?_
  obtain ⟨h16, rfl, hf⟩ := lt_some hf
  refine p_aload_n X (dcg dc_X12_readsQuery 25 rfl) rfl rfl ?_
  refine p_iconst (v := 0) X (dcg dc_X12_readsQuery 26 rfl) (by decide) ?_
  obtain ⟨z17, hz17, hf⟩ := bd_some hf
  refine p_callV (As := [_]) X ml_X12_318 (dcg dc_X12_readsQuery 27 rfl) rfl rfl hk1 (wX12_begins0 hG hz17) (by decide) (room4 (Nat.le_of_ble_eq_true rfl)) (Nat.le_refl _) (Nat.le_refl _) ?_
  rintro _ u9 ⟨rfl, e9⟩; have e9 := e9.symm; subst e9
  refine p_aload_n X (dcg dc_X12_readsQuery 28 rfl) rfl rfl ?_
  obtain ⟨hk18, hf⟩ := gd_some hf
  obtain ⟨z19, hz19, hf⟩ := bd_some hf
  refine p_callV (As := []) X ml_X12_303 (dcg dc_X12_readsQuery 29 rfl) rfl rfl hk18 (wX12_reads hG hz19) (by decide) (room4 (Nat.le_of_ble_eq_true rfl)) (Nat.le_refl _) (Nat.le_refl _) ?_
  rintro _ u9 ⟨rfl, e9⟩; have e9 := e9.symm; subst e9
  refine p_iconst (v := 1) X (dcg dc_X12_readsQuery 30 rfl) (by decide) ?_
  refine p_istore_n X (dcg dc_X12_readsQuery 31 rfl) rfl (by decide) rfl ?_
  refine p_iconst (v := 1) X (dcg dc_X12_readsQuery 32 rfl) (by decide) ?_
  refine p_istore_n X (dcg dc_X12_readsQuery 33 rfl) rfl (by decide) rfl ?_
  refine p_pick [0, 1, 2] ?_
  exact wX12_readsQuery_l54 X hG hnm hf 
theorem dc_X12_copies : decs cX12_copies [(0, .aload_n 0, 1), (1, .getfield 81, 3), (4, .iload_n 2, 1), (5, .aload_n 0, 1), (6, .getfield 81, 3), (9, .iload_n 1, 1), (10, .iaload, 1), (11, .iastore, 1), (12, .aload_n 0, 1), (13, .getfield 84, 3), (16, .iload_n 2, 1), (17, .aload_n 0, 1), (18, .getfield 84, 3), (21, .iload_n 1, 1), (22, .iaload, 1), (23, .iastore, 1), (24, .aload_n 0, 1), (25, .getfield 87, 3), (28, .iload_n 2, 1), (29, .aload_n 0, 1), (30, .getfield 87, 3), (33, .iload_n 1, 1), (34, .iaload, 1), (35, .iastore, 1), (36, .iconst 0, 1), (37, .istore_n 3, 1), (38, .iload_n 3, 1), (39, .aload_n 0, 1), (40, .getfield 81, 3), (43, .iload_n 1, 1), (44, .iaload, 1), (45, .if_icmp .ge 153, 3), (48, .aload_n 0, 1), (49, .getfield 60, 3), (52, .sipush 400, 3), (55, .iload_n 2, 1), (56, .imul, 1), (57, .iload_n 3, 1), (58, .iadd, 1), (59, .aload_n 0, 1), (60, .getfield 60, 3), (63, .sipush 400, 3), (66, .iload_n 1, 1), (67, .imul, 1), (68, .iload_n 3, 1), (69, .iadd, 1), (70, .iaload, 1), (71, .iastore, 1), (72, .aload_n 0, 1), (73, .getfield 63, 3), (76, .sipush 400, 3), (79, .iload_n 2, 1), (80, .imul, 1), (81, .iload_n 3, 1), (82, .iadd, 1), (83, .aload_n 0, 1), (84, .getfield 63, 3), (87, .sipush 400, 3), (90, .iload_n 1, 1), (91, .imul, 1), (92, .iload_n 3, 1), (93, .iadd, 1), (94, .iaload, 1), (95, .iastore, 1), (96, .aload_n 0, 1), (97, .getfield 66, 3), (100, .sipush 400, 3), (103, .iload_n 2, 1), (104, .imul, 1), (105, .iload_n 3, 1), (106, .iadd, 1), (107, .aload_n 0, 1), (108, .getfield 66, 3), (111, .sipush 400, 3), (114, .iload_n 1, 1), (115, .imul, 1), (116, .iload_n 3, 1), (117, .iadd, 1), (118, .iaload, 1), (119, .iastore, 1), (120, .aload_n 0, 1), (121, .getfield 69, 3), (124, .sipush 400, 3), (127, .iload_n 2, 1), (128, .imul, 1), (129, .iload_n 3, 1), (130, .iadd, 1), (131, .aload_n 0, 1), (132, .getfield 69, 3), (135, .sipush 400, 3), (138, .iload_n 1, 1), (139, .imul, 1), (140, .iload_n 3, 1), (141, .iadd, 1), (142, .iaload, 1), (143, .iastore, 1), (144, .aload_n 0, 1), (145, .getfield 72, 3), (148, .sipush 400, 3), (151, .iload_n 2, 1), (152, .imul, 1), (153, .iload_n 3, 1), (154, .iadd, 1), (155, .aload_n 0, 1), (156, .getfield 72, 3), (159, .sipush 400, 3), (162, .iload_n 1, 1), (163, .imul, 1), (164, .iload_n 3, 1), (165, .iadd, 1), (166, .iaload, 1), (167, .iastore, 1), (168, .aload_n 0, 1), (169, .getfield 75, 3), (172, .sipush 400, 3), (175, .iload_n 2, 1), (176, .imul, 1), (177, .iload_n 3, 1), (178, .iadd, 1), (179, .aload_n 0, 1), (180, .getfield 75, 3), (183, .sipush 400, 3), (186, .iload_n 1, 1), (187, .imul, 1), (188, .iload_n 3, 1), (189, .iadd, 1), (190, .iaload, 1), (191, .iastore, 1), (192, .iinc 3 1, 3), (195, .goto (-157), 3), (198, .iconst 0, 1), (199, .istore_n 3, 1), (200, .iload_n 3, 1), (201, .bipush 20, 2), (203, .if_icmp .ge 31, 3), (206, .aload_n 0, 1), (207, .getfield 78, 3), (210, .bipush 20, 2), (212, .iload_n 2, 1), (213, .imul, 1), (214, .iload_n 3, 1), (215, .iadd, 1), (216, .aload_n 0, 1), (217, .getfield 78, 3), (220, .bipush 20, 2), (222, .iload_n 1, 1), (223, .imul, 1), (224, .iload_n 3, 1), (225, .iadd, 1), (226, .iaload, 1), (227, .iastore, 1), (228, .iinc 3 1, 3), (231, .goto (-31), 3), (234, .return_, 1)] = true := by decide +kernel
noncomputable def fX12_copies_c200 (v0 : Nat) (v1 : Int32) (v2 : Int32) (v3 : Int32) (h : PH) : Option ((Int32 × PH) ⊕ PH) :=
  if ((20 : Int32) ≤ v3) then (mr (some (h))) else
  gd (hK h v0 = 12) (gs (hR h 12 v0 31) (fun a30 =>
  gd (hK h a30 = 20 ∧ inb (((20 : Int32) * v1) + v3) (hN h a30)) (gd (inb (((20 : Int32) * v2) + v3) (hN h a30)) (lt (sI h 20 a30 (Int32.toNatClampNeg (((20 : Int32) * v2) + v3)) (hI h 20 a30 (Int32.toNatClampNeg (((20 : Int32) * v1) + v3)))) (fun h35 =>
  some (.inl ((v3 + 1), h35)))))))
set_option maxRecDepth 100000 in
theorem mX12_copies_c200 {v0 : Nat} {v1 : Int32} {v2 : Int32} {v3 : Int32} {h : PH} {x : ((Int32 × PH) ⊕ PH)} (hf : fX12_copies_c200 v0 v1 v2 v3 h = some x) : (∀ w9 : (Int32 × PH), x = .inl w9 → eqz h (hX (w9.2)) (hV (w9.2))) ∧ (∀ w9 : PH, x = .inr w9 → eqz h (hX w9) (hV w9)) := by
  unfold fX12_copies_c200 at hf
  have hle := eqz_rf h
  rcases ite_or hf with ⟨q, hf⟩ | ⟨q, hf⟩
  · have hf := if_t q hf
    obtain ⟨y27, hfm, rfl⟩ := mr_some hf; have hf := hfm; clear hfm
    have ee := Option.some.inj hf; subst ee
    exact ⟨(fun z e => nomatch e), (fun z e => by have ee := Sum.inr.inj (e); subst ee; exact hle)⟩
  · have hf := if_f q hf
    obtain ⟨hk29, hf⟩ := gd_some hf
    obtain ⟨a30, e31, hf⟩ := gs_some hf
    obtain ⟨⟨hk33, hb32⟩, hf⟩ := gd_some hf
    obtain ⟨hb34, hf⟩ := gd_some hf
    obtain ⟨h35, rfl, hf⟩ := lt_some hf
    have ee := Option.some.inj hf; subst ee
    exact ⟨(fun z e => by have ee := Sum.inl.inj (e); subst ee; exact hle), (fun z e => nomatch e)⟩
set_option maxRecDepth 100000 in
theorem wX12_copies_c200 {E : PE} {p : Program} {l : Launch} {e : Env} {s : State} {m : MethodId} {args : Array Value} {below : List Frame} {meth : Method} {c : Code} (X : Cx E p l e (rmv 0 0 0) s m args below meth c RX12 cX12_copies 4 (none)) (hG : Gs E l) (hnm : meth.name = yX12_copies.name) {v0 : Nat} {v1 : Int32} {v2 : Int32} {v3 : Int32} {h : PH} {r : PH} {x : ((Int32 × PH) ⊕ PH)} (hf : fX12_copies_c200 v0 v1 v2 v3 h = some x) (k0 : ∀ z : (Int32 × PH), x = .inl z → PW E p l e (rmv 0 0 0) s m args below meth c 4 0 0 (MQ below (QG E (fun v u => v = none ∧ u = r)) args s 0 0 (pA E)) (z.2) 200 [(0, some (.ref v0)), (1, some (.int v1)), (2, some (.int v2)), (3, some (.int (z.1)))] []) (kf : ∀ z : PH, x = .inr z → z = r) : PW E p l e (rmv 0 0 0) s m args below meth c 4 0 0 (MQ below (QG E (fun v u => v = none ∧ u = r)) args s 0 0 (pA E)) h 200 [(0, some (.ref v0)), (1, some (.int v1)), (2, some (.int v2)), (3, some (.int v3))] [] := by
  unfold fX12_copies_c200 at hf
  refine p_iload_n X (dcg dc_X12_copies 132 rfl) rfl rfl ?_
  refine p_bipush (v := 20) X (dcg dc_X12_copies 133 rfl) (by decide) ?_
  refine p_icmp_ge (tgt := 234) X (dcg dc_X12_copies 134 rfl) (by decide) (fun q => ?_) (fun q => ?_)
  · have hf := if_t q hf
    obtain ⟨y27, hf, hy28⟩ := mr_some hf
    have hy28f := kf y27 hy28
    subst hy28f
    have er := Option.some.inj hf
    subst er
    exact p_vret X rfl (dcg dc_X12_copies 153 rfl) ⟨rfl, rfl⟩ (Nat.le_refl _) (Nat.le_refl _)
  · have hf := if_f q hf
    refine p_aload_n X (dcg dc_X12_copies 135 rfl) rfl rfl ?_
    obtain ⟨hk29, hf⟩ := gd_some hf
    refine p_getR X fl_X12_78 rfl (by decide) (dcg dc_X12_copies 136 rfl) hk29 ?_
    refine p_bipush (v := 20) X (dcg dc_X12_copies 137 rfl) (by decide) ?_
    refine p_iload_n X (dcg dc_X12_copies 138 rfl) rfl rfl ?_
    refine p_imul X (dcg dc_X12_copies 139 rfl) ?_
    refine p_iload_n X (dcg dc_X12_copies 140 rfl) rfl rfl ?_
    refine p_iadd X (dcg dc_X12_copies 141 rfl) ?_
    refine p_aload_n X (dcg dc_X12_copies 142 rfl) rfl rfl ?_
    refine p_getR X fl_X12_78 rfl (by decide) (dcg dc_X12_copies 143 rfl) hk29 ?_
    refine p_bipush (v := 20) X (dcg dc_X12_copies 144 rfl) (by decide) ?_
    refine p_iload_n X (dcg dc_X12_copies 145 rfl) rfl rfl ?_
    refine p_imul X (dcg dc_X12_copies 146 rfl) ?_
    refine p_iload_n X (dcg dc_X12_copies 147 rfl) rfl rfl ?_
    refine p_iadd X (dcg dc_X12_copies 148 rfl) ?_
    obtain ⟨a30, e31, hf⟩ := gs_some hf
    first | subst e31 | (try rw [e31])
    obtain ⟨⟨hk33, hb32⟩, hf⟩ := gd_some hf
    refine p_iald X (dcg dc_X12_copies 149 rfl) hk33 (vp_of_inb hb32) ?_
    obtain ⟨hb34, hf⟩ := gd_some hf
    refine p_iast X (dcg dc_X12_copies 150 rfl) hk33 (vp_of_inb hb34) ?_
    obtain ⟨h35, rfl, hf⟩ := lt_some hf
    refine p_iinc (v := 1) X (dcg dc_X12_copies 151 rfl) rfl (by decide) (by decide) rfl ?_
    refine p_goto (tgt := 200) X (dcg dc_X12_copies 152 rfl) (by decide) ?_
    refine p_pick [0, 1, 2, 3] ?_
    exact k0 _ (Option.some.inj hf).symm
noncomputable def fX12_copies_l200 (v0 : Nat) (v1 : Int32) (v2 : Int32) (v3 : Int32) (h : PH) : Option PH := wh (fun z : (Int32 × PH) => fX12_copies_c200 v0 v1 v2 (z.1) (z.2)) (v3, h)
set_option maxRecDepth 100000 in
theorem mX12_copies_l200 {v0 : Nat} {v1 : Int32} {v2 : Int32} {v3 : Int32} {h : PH} {r : PH} (hf : fX12_copies_l200 v0 v1 v2 v3 h = some r) : eqz h (hX r) (hV r) := by
  unfold fX12_copies_l200 at hf
  refine wh_ind (P := fun z => eqz (z.2) (hX r) (hV r)) (fun z x0 hs i1 i2 => ?_) _ hf
  obtain ⟨c0, cf⟩ := mX12_copies_c200 (v0 := v0) (v1 := v1) (v2 := v2) (v3 := z.1) (h := z.2) hs
  rcases hxx : x0 with zz | zz
  · exact eqz_tr (c0 zz hxx) (i1 zz hxx)
  · have ee := i2 zz hxx; subst ee; exact cf zz hxx
set_option maxRecDepth 100000 in
theorem wX12_copies_l200 {E : PE} {p : Program} {l : Launch} {e : Env} {s : State} {m : MethodId} {args : Array Value} {below : List Frame} {meth : Method} {c : Code} (X : Cx E p l e (rmv 0 0 0) s m args below meth c RX12 cX12_copies 4 (none)) (hG : Gs E l) (hnm : meth.name = yX12_copies.name) {v0 : Nat} {v1 : Int32} {v2 : Int32} {v3 : Int32} {h : PH} {r : PH} (hf : fX12_copies_l200 v0 v1 v2 v3 h = some r)  : PW E p l e (rmv 0 0 0) s m args below meth c 4 0 0 (MQ below (QG E (fun v u => v = none ∧ u = r)) args s 0 0 (pA E)) h 200 [(0, some (.ref v0)), (1, some (.int v1)), (2, some (.int v2)), (3, some (.int v3))] [] := by
  unfold fX12_copies_l200 at hf
  refine wh_ind (P := fun z => PW E p l e (rmv 0 0 0) s m args below meth c 4 0 0 (MQ below (QG E (fun v u => v = none ∧ u = r)) args s 0 0 (pA E)) (z.2) 200 [(0, some (.ref v0)), (1, some (.int v1)), (2, some (.int v2)), (3, some (.int (z.1)))] []) (fun z x0 hs i1 i2 => ?_) _ hf
  exact wX12_copies_c200 (r := r) (v0 := v0) (v1 := v1) (v2 := v2) (v3 := z.1) (h := z.2) X hG hnm hs i1  i2
noncomputable def fX12_copies_c38 (v0 : Nat) (v1 : Int32) (v2 : Int32) (v3 : Int32) (h : PH) : Option ((Int32 × PH) ⊕ PH) :=
  gd (hK h v0 = 12) (gs (hR h 12 v0 32) (fun a21 =>
  gd (hK h a21 = 20 ∧ inb v1 (hN h a21)) (if ((hI h 20 a21 (Int32.toNatClampNeg v1)) ≤ v3) then (mr (fX12_copies_l200 v0 v1 v2 (0 : Int32) h)) else
  gs (hR h 12 v0 25) (fun a36 =>
  gd (hK h a36 = 20 ∧ inb (((400 : Int32) * v1) + v3) (hN h a36)) (gd (inb (((400 : Int32) * v2) + v3) (hN h a36)) (lt (sI h 20 a36 (Int32.toNatClampNeg (((400 : Int32) * v2) + v3)) (hI h 20 a36 (Int32.toNatClampNeg (((400 : Int32) * v1) + v3)))) (fun h41 =>
  gs (hR h41 12 v0 26) (fun a42 =>
  gd (hK h41 a42 = 20 ∧ inb (((400 : Int32) * v1) + v3) (hN h41 a42)) (gd (inb (((400 : Int32) * v2) + v3) (hN h41 a42)) (lt (sI h41 20 a42 (Int32.toNatClampNeg (((400 : Int32) * v2) + v3)) (hI h41 20 a42 (Int32.toNatClampNeg (((400 : Int32) * v1) + v3)))) (fun h47 =>
  gs (hR h47 12 v0 27) (fun a48 =>
  gd (hK h47 a48 = 20 ∧ inb (((400 : Int32) * v1) + v3) (hN h47 a48)) (gd (inb (((400 : Int32) * v2) + v3) (hN h47 a48)) (lt (sI h47 20 a48 (Int32.toNatClampNeg (((400 : Int32) * v2) + v3)) (hI h47 20 a48 (Int32.toNatClampNeg (((400 : Int32) * v1) + v3)))) (fun h53 =>
  gs (hR h53 12 v0 28) (fun a54 =>
  gd (hK h53 a54 = 20 ∧ inb (((400 : Int32) * v1) + v3) (hN h53 a54)) (gd (inb (((400 : Int32) * v2) + v3) (hN h53 a54)) (lt (sI h53 20 a54 (Int32.toNatClampNeg (((400 : Int32) * v2) + v3)) (hI h53 20 a54 (Int32.toNatClampNeg (((400 : Int32) * v1) + v3)))) (fun h59 =>
  gs (hR h59 12 v0 29) (fun a60 =>
  gd (hK h59 a60 = 20 ∧ inb (((400 : Int32) * v1) + v3) (hN h59 a60)) (gd (inb (((400 : Int32) * v2) + v3) (hN h59 a60)) (lt (sI h59 20 a60 (Int32.toNatClampNeg (((400 : Int32) * v2) + v3)) (hI h59 20 a60 (Int32.toNatClampNeg (((400 : Int32) * v1) + v3)))) (fun h65 =>
  gs (hR h65 12 v0 30) (fun a66 =>
  gd (hK h65 a66 = 20 ∧ inb (((400 : Int32) * v1) + v3) (hN h65 a66)) (gd (inb (((400 : Int32) * v2) + v3) (hN h65 a66)) (lt (sI h65 20 a66 (Int32.toNatClampNeg (((400 : Int32) * v2) + v3)) (hI h65 20 a66 (Int32.toNatClampNeg (((400 : Int32) * v1) + v3)))) (fun h71 =>
  some (.inl ((v3 + 1), h71)))))))))))))))))))))))))))))
set_option maxRecDepth 100000 in
theorem mX12_copies_c38 {v0 : Nat} {v1 : Int32} {v2 : Int32} {v3 : Int32} {h : PH} {x : ((Int32 × PH) ⊕ PH)} (hf : fX12_copies_c38 v0 v1 v2 v3 h = some x) : (∀ w9 : (Int32 × PH), x = .inl w9 → eqz h (hX (w9.2)) (hV (w9.2))) ∧ (∀ w9 : PH, x = .inr w9 → eqz h (hX w9) (hV w9)) := by
  unfold fX12_copies_c38 at hf
  have hle := eqz_rf h
  obtain ⟨hk20, hf⟩ := gd_some hf
  obtain ⟨a21, e22, hf⟩ := gs_some hf
  obtain ⟨⟨hk24, hb23⟩, hf⟩ := gd_some hf
  rcases ite_or hf with ⟨q, hf⟩ | ⟨q, hf⟩
  · have hf := if_t q hf
    obtain ⟨y25, hfm, rfl⟩ := mr_some hf; have hf := hfm; clear hfm
    have cf := mX12_copies_l200 hf
    exact ⟨(fun z e => nomatch e), (fun z e => by cases e <;> exact eqz_rt cf hle)⟩
  · have hf := if_f q hf
    obtain ⟨a36, e37, hf⟩ := gs_some hf
    obtain ⟨⟨hk39, hb38⟩, hf⟩ := gd_some hf
    obtain ⟨hb40, hf⟩ := gd_some hf
    obtain ⟨h41, rfl, hf⟩ := lt_some hf
    obtain ⟨a42, e43, hf⟩ := gs_some hf
    obtain ⟨⟨hk45, hb44⟩, hf⟩ := gd_some hf
    obtain ⟨hb46, hf⟩ := gd_some hf
    obtain ⟨h47, rfl, hf⟩ := lt_some hf
    obtain ⟨a48, e49, hf⟩ := gs_some hf
    obtain ⟨⟨hk51, hb50⟩, hf⟩ := gd_some hf
    obtain ⟨hb52, hf⟩ := gd_some hf
    obtain ⟨h53, rfl, hf⟩ := lt_some hf
    obtain ⟨a54, e55, hf⟩ := gs_some hf
    obtain ⟨⟨hk57, hb56⟩, hf⟩ := gd_some hf
    obtain ⟨hb58, hf⟩ := gd_some hf
    obtain ⟨h59, rfl, hf⟩ := lt_some hf
    obtain ⟨a60, e61, hf⟩ := gs_some hf
    obtain ⟨⟨hk63, hb62⟩, hf⟩ := gd_some hf
    obtain ⟨hb64, hf⟩ := gd_some hf
    obtain ⟨h65, rfl, hf⟩ := lt_some hf
    obtain ⟨a66, e67, hf⟩ := gs_some hf
    obtain ⟨⟨hk69, hb68⟩, hf⟩ := gd_some hf
    obtain ⟨hb70, hf⟩ := gd_some hf
    obtain ⟨h71, rfl, hf⟩ := lt_some hf
    have ee := Option.some.inj hf; subst ee
    exact ⟨(fun z e => by have ee := Sum.inl.inj (e); subst ee; exact hle), (fun z e => nomatch e)⟩
set_option maxRecDepth 100000 in
theorem wX12_copies_c38 {E : PE} {p : Program} {l : Launch} {e : Env} {s : State} {m : MethodId} {args : Array Value} {below : List Frame} {meth : Method} {c : Code} (X : Cx E p l e (rmv 0 0 0) s m args below meth c RX12 cX12_copies 4 (none)) (hG : Gs E l) (hnm : meth.name = yX12_copies.name) {v0 : Nat} {v1 : Int32} {v2 : Int32} {v3 : Int32} {h : PH} {r : PH} {x : ((Int32 × PH) ⊕ PH)} (hf : fX12_copies_c38 v0 v1 v2 v3 h = some x) (k0 : ∀ z : (Int32 × PH), x = .inl z → PW E p l e (rmv 0 0 0) s m args below meth c 4 0 0 (MQ below (QG E (fun v u => v = none ∧ u = r)) args s 0 0 (pA E)) (z.2) 38 [(0, some (.ref v0)), (1, some (.int v1)), (2, some (.int v2)), (3, some (.int (z.1)))] []) (kf : ∀ z : PH, x = .inr z → z = r) : PW E p l e (rmv 0 0 0) s m args below meth c 4 0 0 (MQ below (QG E (fun v u => v = none ∧ u = r)) args s 0 0 (pA E)) h 38 [(0, some (.ref v0)), (1, some (.int v1)), (2, some (.int v2)), (3, some (.int v3))] [] := by
  unfold fX12_copies_c38 at hf
  refine p_iload_n X (dcg dc_X12_copies 26 rfl) rfl rfl ?_
  refine p_aload_n X (dcg dc_X12_copies 27 rfl) rfl rfl ?_
  obtain ⟨hk20, hf⟩ := gd_some hf
  refine p_getR X fl_X12_81 rfl (by decide) (dcg dc_X12_copies 28 rfl) hk20 ?_
  refine p_iload_n X (dcg dc_X12_copies 29 rfl) rfl rfl ?_
  obtain ⟨a21, e22, hf⟩ := gs_some hf
  first | subst e22 | (try rw [e22])
  obtain ⟨⟨hk24, hb23⟩, hf⟩ := gd_some hf
  refine p_iald X (dcg dc_X12_copies 30 rfl) hk24 (vp_of_inb hb23) ?_
  refine p_icmp_ge (tgt := 198) X (dcg dc_X12_copies 31 rfl) (by decide) (fun q => ?_) (fun q => ?_)
  · have hf := if_t q hf
    obtain ⟨y25, hf, hy26⟩ := mr_some hf
    have hy26f := kf y25 hy26
    subst hy26f
    refine p_iconst (v := 0) X (dcg dc_X12_copies 130 rfl) (by decide) ?_
    refine p_istore_n X (dcg dc_X12_copies 131 rfl) rfl (by decide) rfl ?_
    refine p_pick [0, 1, 2, 3] ?_
    exact wX12_copies_l200 X hG hnm hf 
  · have hf := if_f q hf
    refine p_aload_n X (dcg dc_X12_copies 32 rfl) rfl rfl ?_
    refine p_getR X fl_X12_60 rfl (by decide) (dcg dc_X12_copies 33 rfl) hk20 ?_
    refine p_sipush (v := 400) X (dcg dc_X12_copies 34 rfl) (by decide) ?_
    refine p_iload_n X (dcg dc_X12_copies 35 rfl) rfl rfl ?_
    refine p_imul X (dcg dc_X12_copies 36 rfl) ?_
    refine p_iload_n X (dcg dc_X12_copies 37 rfl) rfl rfl ?_
    refine p_iadd X (dcg dc_X12_copies 38 rfl) ?_
    refine p_aload_n X (dcg dc_X12_copies 39 rfl) rfl rfl ?_
    refine p_getR X fl_X12_60 rfl (by decide) (dcg dc_X12_copies 40 rfl) hk20 ?_
    refine p_sipush (v := 400) X (dcg dc_X12_copies 41 rfl) (by decide) ?_
    refine p_iload_n X (dcg dc_X12_copies 42 rfl) rfl rfl ?_
    refine p_imul X (dcg dc_X12_copies 43 rfl) ?_
    refine p_iload_n X (dcg dc_X12_copies 44 rfl) rfl rfl ?_
    refine p_iadd X (dcg dc_X12_copies 45 rfl) ?_
    obtain ⟨a36, e37, hf⟩ := gs_some hf
    first | subst e37 | (try rw [e37])
    obtain ⟨⟨hk39, hb38⟩, hf⟩ := gd_some hf
    refine p_iald X (dcg dc_X12_copies 46 rfl) hk39 (vp_of_inb hb38) ?_
    obtain ⟨hb40, hf⟩ := gd_some hf
    refine p_iast X (dcg dc_X12_copies 47 rfl) hk39 (vp_of_inb hb40) ?_
    obtain ⟨h41, rfl, hf⟩ := lt_some hf
    refine p_aload_n X (dcg dc_X12_copies 48 rfl) rfl rfl ?_
    refine p_getR X fl_X12_63 rfl (by decide) (dcg dc_X12_copies 49 rfl) hk20 ?_
    refine p_sipush (v := 400) X (dcg dc_X12_copies 50 rfl) (by decide) ?_
    refine p_iload_n X (dcg dc_X12_copies 51 rfl) rfl rfl ?_
    refine p_imul X (dcg dc_X12_copies 52 rfl) ?_
    refine p_iload_n X (dcg dc_X12_copies 53 rfl) rfl rfl ?_
    refine p_iadd X (dcg dc_X12_copies 54 rfl) ?_
    refine p_aload_n X (dcg dc_X12_copies 55 rfl) rfl rfl ?_
    refine p_getR X fl_X12_63 rfl (by decide) (dcg dc_X12_copies 56 rfl) hk20 ?_
    refine p_sipush (v := 400) X (dcg dc_X12_copies 57 rfl) (by decide) ?_
    refine p_iload_n X (dcg dc_X12_copies 58 rfl) rfl rfl ?_
    refine p_imul X (dcg dc_X12_copies 59 rfl) ?_
    refine p_iload_n X (dcg dc_X12_copies 60 rfl) rfl rfl ?_
    refine p_iadd X (dcg dc_X12_copies 61 rfl) ?_
    obtain ⟨a42, e43, hf⟩ := gs_some hf
    first | subst e43 | (try rw [e43])
    obtain ⟨⟨hk45, hb44⟩, hf⟩ := gd_some hf
    refine p_iald X (dcg dc_X12_copies 62 rfl) hk45 (vp_of_inb hb44) ?_
    obtain ⟨hb46, hf⟩ := gd_some hf
    refine p_iast X (dcg dc_X12_copies 63 rfl) hk45 (vp_of_inb hb46) ?_
    obtain ⟨h47, rfl, hf⟩ := lt_some hf
    refine p_aload_n X (dcg dc_X12_copies 64 rfl) rfl rfl ?_
    refine p_getR X fl_X12_66 rfl (by decide) (dcg dc_X12_copies 65 rfl) hk20 ?_
    refine p_sipush (v := 400) X (dcg dc_X12_copies 66 rfl) (by decide) ?_
    refine p_iload_n X (dcg dc_X12_copies 67 rfl) rfl rfl ?_
    refine p_imul X (dcg dc_X12_copies 68 rfl) ?_
    refine p_iload_n X (dcg dc_X12_copies 69 rfl) rfl rfl ?_
    refine p_iadd X (dcg dc_X12_copies 70 rfl) ?_
    refine p_aload_n X (dcg dc_X12_copies 71 rfl) rfl rfl ?_
    refine p_getR X fl_X12_66 rfl (by decide) (dcg dc_X12_copies 72 rfl) hk20 ?_
    refine p_sipush (v := 400) X (dcg dc_X12_copies 73 rfl) (by decide) ?_
    refine p_iload_n X (dcg dc_X12_copies 74 rfl) rfl rfl ?_
    refine p_imul X (dcg dc_X12_copies 75 rfl) ?_
    refine p_iload_n X (dcg dc_X12_copies 76 rfl) rfl rfl ?_
    refine p_iadd X (dcg dc_X12_copies 77 rfl) ?_
    obtain ⟨a48, e49, hf⟩ := gs_some hf
    first | subst e49 | (try rw [e49])
    obtain ⟨⟨hk51, hb50⟩, hf⟩ := gd_some hf
    refine p_iald X (dcg dc_X12_copies 78 rfl) hk51 (vp_of_inb hb50) ?_
    obtain ⟨hb52, hf⟩ := gd_some hf
    refine p_iast X (dcg dc_X12_copies 79 rfl) hk51 (vp_of_inb hb52) ?_
    obtain ⟨h53, rfl, hf⟩ := lt_some hf
    refine p_aload_n X (dcg dc_X12_copies 80 rfl) rfl rfl ?_
    refine p_getR X fl_X12_69 rfl (by decide) (dcg dc_X12_copies 81 rfl) hk20 ?_
    refine p_sipush (v := 400) X (dcg dc_X12_copies 82 rfl) (by decide) ?_
    refine p_iload_n X (dcg dc_X12_copies 83 rfl) rfl rfl ?_
    refine p_imul X (dcg dc_X12_copies 84 rfl) ?_
    refine p_iload_n X (dcg dc_X12_copies 85 rfl) rfl rfl ?_
    refine p_iadd X (dcg dc_X12_copies 86 rfl) ?_
    refine p_aload_n X (dcg dc_X12_copies 87 rfl) rfl rfl ?_
    refine p_getR X fl_X12_69 rfl (by decide) (dcg dc_X12_copies 88 rfl) hk20 ?_
    refine p_sipush (v := 400) X (dcg dc_X12_copies 89 rfl) (by decide) ?_
    refine p_iload_n X (dcg dc_X12_copies 90 rfl) rfl rfl ?_
    refine p_imul X (dcg dc_X12_copies 91 rfl) ?_
    refine p_iload_n X (dcg dc_X12_copies 92 rfl) rfl rfl ?_
    refine p_iadd X (dcg dc_X12_copies 93 rfl) ?_
    obtain ⟨a54, e55, hf⟩ := gs_some hf
    first | subst e55 | (try rw [e55])
    obtain ⟨⟨hk57, hb56⟩, hf⟩ := gd_some hf
    refine p_iald X (dcg dc_X12_copies 94 rfl) hk57 (vp_of_inb hb56) ?_
    obtain ⟨hb58, hf⟩ := gd_some hf
    refine p_iast X (dcg dc_X12_copies 95 rfl) hk57 (vp_of_inb hb58) ?_
    obtain ⟨h59, rfl, hf⟩ := lt_some hf
    refine p_aload_n X (dcg dc_X12_copies 96 rfl) rfl rfl ?_
    refine p_getR X fl_X12_72 rfl (by decide) (dcg dc_X12_copies 97 rfl) hk20 ?_
    refine p_sipush (v := 400) X (dcg dc_X12_copies 98 rfl) (by decide) ?_
    refine p_iload_n X (dcg dc_X12_copies 99 rfl) rfl rfl ?_
    refine p_imul X (dcg dc_X12_copies 100 rfl) ?_
    refine p_iload_n X (dcg dc_X12_copies 101 rfl) rfl rfl ?_
    refine p_iadd X (dcg dc_X12_copies 102 rfl) ?_
    refine p_aload_n X (dcg dc_X12_copies 103 rfl) rfl rfl ?_
    refine p_getR X fl_X12_72 rfl (by decide) (dcg dc_X12_copies 104 rfl) hk20 ?_
    refine p_sipush (v := 400) X (dcg dc_X12_copies 105 rfl) (by decide) ?_
    refine p_iload_n X (dcg dc_X12_copies 106 rfl) rfl rfl ?_
    refine p_imul X (dcg dc_X12_copies 107 rfl) ?_
    refine p_iload_n X (dcg dc_X12_copies 108 rfl) rfl rfl ?_
    refine p_iadd X (dcg dc_X12_copies 109 rfl) ?_
    obtain ⟨a60, e61, hf⟩ := gs_some hf
    first | subst e61 | (try rw [e61])
    obtain ⟨⟨hk63, hb62⟩, hf⟩ := gd_some hf
    refine p_iald X (dcg dc_X12_copies 110 rfl) hk63 (vp_of_inb hb62) ?_
    obtain ⟨hb64, hf⟩ := gd_some hf
    refine p_iast X (dcg dc_X12_copies 111 rfl) hk63 (vp_of_inb hb64) ?_
    obtain ⟨h65, rfl, hf⟩ := lt_some hf
    refine p_aload_n X (dcg dc_X12_copies 112 rfl) rfl rfl ?_
    refine p_getR X fl_X12_75 rfl (by decide) (dcg dc_X12_copies 113 rfl) hk20 ?_
    refine p_sipush (v := 400) X (dcg dc_X12_copies 114 rfl) (by decide) ?_
    refine p_iload_n X (dcg dc_X12_copies 115 rfl) rfl rfl ?_
    refine p_imul X (dcg dc_X12_copies 116 rfl) ?_
    refine p_iload_n X (dcg dc_X12_copies 117 rfl) rfl rfl ?_
    refine p_iadd X (dcg dc_X12_copies 118 rfl) ?_
    refine p_aload_n X (dcg dc_X12_copies 119 rfl) rfl rfl ?_
    refine p_getR X fl_X12_75 rfl (by decide) (dcg dc_X12_copies 120 rfl) hk20 ?_
    refine p_sipush (v := 400) X (dcg dc_X12_copies 121 rfl) (by decide) ?_
    refine p_iload_n X (dcg dc_X12_copies 122 rfl) rfl rfl ?_
    refine p_imul X (dcg dc_X12_copies 123 rfl) ?_
    refine p_iload_n X (dcg dc_X12_copies 124 rfl) rfl rfl ?_
    refine p_iadd X (dcg dc_X12_copies 125 rfl) ?_
    obtain ⟨a66, e67, hf⟩ := gs_some hf
    first | subst e67 | (try rw [e67])
    obtain ⟨⟨hk69, hb68⟩, hf⟩ := gd_some hf
    refine p_iald X (dcg dc_X12_copies 126 rfl) hk69 (vp_of_inb hb68) ?_
    obtain ⟨hb70, hf⟩ := gd_some hf
    refine p_iast X (dcg dc_X12_copies 127 rfl) hk69 (vp_of_inb hb70) ?_
    obtain ⟨h71, rfl, hf⟩ := lt_some hf
    refine p_iinc (v := 1) X (dcg dc_X12_copies 128 rfl) rfl (by decide) (by decide) rfl ?_
    refine p_goto (tgt := 38) X (dcg dc_X12_copies 129 rfl) (by decide) ?_
    refine p_pick [0, 1, 2, 3] ?_
    exact k0 _ (Option.some.inj hf).symm
noncomputable def fX12_copies_l38 (v0 : Nat) (v1 : Int32) (v2 : Int32) (v3 : Int32) (h : PH) : Option PH := wh (fun z : (Int32 × PH) => fX12_copies_c38 v0 v1 v2 (z.1) (z.2)) (v3, h)
set_option maxRecDepth 100000 in
theorem mX12_copies_l38 {v0 : Nat} {v1 : Int32} {v2 : Int32} {v3 : Int32} {h : PH} {r : PH} (hf : fX12_copies_l38 v0 v1 v2 v3 h = some r) : eqz h (hX r) (hV r) := by
  unfold fX12_copies_l38 at hf
  refine wh_ind (P := fun z => eqz (z.2) (hX r) (hV r)) (fun z x0 hs i1 i2 => ?_) _ hf
  obtain ⟨c0, cf⟩ := mX12_copies_c38 (v0 := v0) (v1 := v1) (v2 := v2) (v3 := z.1) (h := z.2) hs
  rcases hxx : x0 with zz | zz
  · exact eqz_tr (c0 zz hxx) (i1 zz hxx)
  · have ee := i2 zz hxx; subst ee; exact cf zz hxx
set_option maxRecDepth 100000 in
theorem wX12_copies_l38 {E : PE} {p : Program} {l : Launch} {e : Env} {s : State} {m : MethodId} {args : Array Value} {below : List Frame} {meth : Method} {c : Code} (X : Cx E p l e (rmv 0 0 0) s m args below meth c RX12 cX12_copies 4 (none)) (hG : Gs E l) (hnm : meth.name = yX12_copies.name) {v0 : Nat} {v1 : Int32} {v2 : Int32} {v3 : Int32} {h : PH} {r : PH} (hf : fX12_copies_l38 v0 v1 v2 v3 h = some r)  : PW E p l e (rmv 0 0 0) s m args below meth c 4 0 0 (MQ below (QG E (fun v u => v = none ∧ u = r)) args s 0 0 (pA E)) h 38 [(0, some (.ref v0)), (1, some (.int v1)), (2, some (.int v2)), (3, some (.int v3))] [] := by
  unfold fX12_copies_l38 at hf
  refine wh_ind (P := fun z => PW E p l e (rmv 0 0 0) s m args below meth c 4 0 0 (MQ below (QG E (fun v u => v = none ∧ u = r)) args s 0 0 (pA E)) (z.2) 38 [(0, some (.ref v0)), (1, some (.int v1)), (2, some (.int v2)), (3, some (.int (z.1)))] []) (fun z x0 hs i1 i2 => ?_) _ hf
  exact wX12_copies_c38 (r := r) (v0 := v0) (v1 := v1) (v2 := v2) (v3 := z.1) (h := z.2) X hG hnm hs i1  i2
noncomputable def fX12_copies (v0 : Nat) (v1 : Int32) (v2 : Int32) (h : PH) : Option PH :=
  gd (hK h v0 = 12) (gs (hR h 12 v0 32) (fun a2 =>
  gd (hK h a2 = 20 ∧ inb v1 (hN h a2)) (gd (inb v2 (hN h a2)) (lt (sI h 20 a2 (Int32.toNatClampNeg v2) (hI h 20 a2 (Int32.toNatClampNeg v1))) (fun h7 =>
  gs (hR h7 12 v0 33) (fun a8 =>
  gd (hK h7 a8 = 20 ∧ inb v1 (hN h7 a8)) (gd (inb v2 (hN h7 a8)) (lt (sI h7 20 a8 (Int32.toNatClampNeg v2) (hI h7 20 a8 (Int32.toNatClampNeg v1))) (fun h13 =>
  gs (hR h13 12 v0 34) (fun a14 =>
  gd (hK h13 a14 = 20 ∧ inb v1 (hN h13 a14)) (gd (inb v2 (hN h13 a14)) (lt (sI h13 20 a14 (Int32.toNatClampNeg v2) (hI h13 20 a14 (Int32.toNatClampNeg v1))) (fun h19 =>
  fX12_copies_l38 v0 v1 v2 (0 : Int32) h19)))))))))))))
set_option maxRecDepth 100000 in
theorem mX12_copies {v0 : Nat} {v1 : Int32} {v2 : Int32} {h : PH} {r : PH} (hf : fX12_copies v0 v1 v2 h = some r) : eqz h (hX r) (hV r) := by
  unfold fX12_copies at hf
  have hle := eqz_rf h
  obtain ⟨hk1, hf⟩ := gd_some hf
  obtain ⟨a2, e3, hf⟩ := gs_some hf
  obtain ⟨⟨hk5, hb4⟩, hf⟩ := gd_some hf
  obtain ⟨hb6, hf⟩ := gd_some hf
  obtain ⟨h7, rfl, hf⟩ := lt_some hf
  obtain ⟨a8, e9, hf⟩ := gs_some hf
  obtain ⟨⟨hk11, hb10⟩, hf⟩ := gd_some hf
  obtain ⟨hb12, hf⟩ := gd_some hf
  obtain ⟨h13, rfl, hf⟩ := lt_some hf
  obtain ⟨a14, e15, hf⟩ := gs_some hf
  obtain ⟨⟨hk17, hb16⟩, hf⟩ := gd_some hf
  obtain ⟨hb18, hf⟩ := gd_some hf
  obtain ⟨h19, rfl, hf⟩ := lt_some hf
  exact eqz_rt (mX12_copies_l38 hf) hle
set_option maxRecDepth 100000 in
theorem wX12_copies {E : PE} {l : Launch} (hG : Gs E l) {v0 : Nat} {v1 : Int32} {v2 : Int32} {h : PH} {r : PH} (hf : fX12_copies v0 v1 v2 h = some r) : Ct E l 0 0 0 yX12_copies cX12_copies 4 (none) [.ref v0, .int v1, .int v2] h (fun v u => v = none ∧ u = r) := by
  refine ct_of hG (by decide) (Nat.le_of_ble_eq_true rfl) ?_
  intro p e s m args below meth c X hnm
  show PW E p l e _ s m args below meth c _ 0 0 _ h 0 [(0, some (.ref v0)), (1, some (.int v1)), (2, some (.int v2))] []
  unfold fX12_copies at hf
  refine p_aload_n X (dcg dc_X12_copies 0 rfl) rfl rfl ?_
  obtain ⟨hk1, hf⟩ := gd_some hf
  refine p_getR X fl_X12_81 rfl (by decide) (dcg dc_X12_copies 1 rfl) hk1 ?_
  refine p_iload_n X (dcg dc_X12_copies 2 rfl) rfl rfl ?_
  refine p_aload_n X (dcg dc_X12_copies 3 rfl) rfl rfl ?_
  refine p_getR X fl_X12_81 rfl (by decide) (dcg dc_X12_copies 4 rfl) hk1 ?_
  refine p_iload_n X (dcg dc_X12_copies 5 rfl) rfl rfl ?_
  obtain ⟨a2, e3, hf⟩ := gs_some hf
  first | subst e3 | (try rw [e3])
  obtain ⟨⟨hk5, hb4⟩, hf⟩ := gd_some hf
  refine p_iald X (dcg dc_X12_copies 6 rfl) hk5 (vp_of_inb hb4) ?_
  obtain ⟨hb6, hf⟩ := gd_some hf
  refine p_iast X (dcg dc_X12_copies 7 rfl) hk5 (vp_of_inb hb6) ?_
  obtain ⟨h7, rfl, hf⟩ := lt_some hf
  refine p_aload_n X (dcg dc_X12_copies 8 rfl) rfl rfl ?_
  refine p_getR X fl_X12_84 rfl (by decide) (dcg dc_X12_copies 9 rfl) hk1 ?_
  refine p_iload_n X (dcg dc_X12_copies 10 rfl) rfl rfl ?_
  refine p_aload_n X (dcg dc_X12_copies 11 rfl) rfl rfl ?_
  refine p_getR X fl_X12_84 rfl (by decide) (dcg dc_X12_copies 12 rfl) hk1 ?_
  refine p_iload_n X (dcg dc_X12_copies 13 rfl) rfl rfl ?_
  obtain ⟨a8, e9, hf⟩ := gs_some hf
  first | subst e9 | (try rw [e9])
  obtain ⟨⟨hk11, hb10⟩, hf⟩ := gd_some hf
  refine p_iald X (dcg dc_X12_copies 14 rfl) hk11 (vp_of_inb hb10) ?_
  obtain ⟨hb12, hf⟩ := gd_some hf
  refine p_iast X (dcg dc_X12_copies 15 rfl) hk11 (vp_of_inb hb12) ?_
  obtain ⟨h13, rfl, hf⟩ := lt_some hf
  refine p_aload_n X (dcg dc_X12_copies 16 rfl) rfl rfl ?_
  refine p_getR X fl_X12_87 rfl (by decide) (dcg dc_X12_copies 17 rfl) hk1 ?_
  refine p_iload_n X (dcg dc_X12_copies 18 rfl) rfl rfl ?_
  refine p_aload_n X (dcg dc_X12_copies 19 rfl) rfl rfl ?_
  refine p_getR X fl_X12_87 rfl (by decide) (dcg dc_X12_copies 20 rfl) hk1 ?_
  refine p_iload_n X (dcg dc_X12_copies 21 rfl) rfl rfl ?_
  obtain ⟨a14, e15, hf⟩ := gs_some hf
  first | subst e15 | (try rw [e15])
  obtain ⟨⟨hk17, hb16⟩, hf⟩ := gd_some hf
  refine p_iald X (dcg dc_X12_copies 22 rfl) hk17 (vp_of_inb hb16) ?_
  obtain ⟨hb18, hf⟩ := gd_some hf
  refine p_iast X (dcg dc_X12_copies 23 rfl) hk17 (vp_of_inb hb18) ?_
  obtain ⟨h19, rfl, hf⟩ := lt_some hf
  refine p_iconst (v := 0) X (dcg dc_X12_copies 24 rfl) (by decide) ?_
  refine p_istore_n X (dcg dc_X12_copies 25 rfl) rfl (by decide) rfl ?_
  refine p_pick [0, 1, 2, 3] ?_
  exact wX12_copies_l38 X hG hnm hf 
theorem dc_X12_score : decs cX12_score [(0, .iconst 0, 1), (1, .istore_n 3, 1), (2, .aload_n 0, 1), (3, .getfield 114, 3), (6, .aload_n 0, 1), (7, .getfield 87, 3), (10, .iload_n 1, 1), (11, .iaload, 1), (12, .iconst 0, 1), (13, .bastore, 1), (14, .aload_n 0, 1), (15, .getfield 81, 3), (18, .iload_n 1, 1), (19, .iaload, 1), (20, .iconst 1, 1), (21, .isub, 1), (22, .istore 4, 2), (24, .iload 4, 2), (26, .ifCond .lt 123, 3), (29, .aload_n 0, 1), (30, .getfield 60, 3), (33, .sipush 400, 3), (36, .iload_n 1, 1), (37, .imul, 1), (38, .iload 4, 2), (40, .iadd, 1), (41, .iaload, 1), (42, .istore 5, 2), (44, .aload_n 0, 1), (45, .getfield 72, 3), (48, .sipush 400, 3), (51, .iload_n 1, 1), (52, .imul, 1), (53, .iload 4, 2), (55, .iadd, 1), (56, .iaload, 1), (57, .istore 6, 2), (59, .iload 6, 2), (61, .iconst (-1), 1), (62, .if_icmp .eq 54, 3), (65, .aload_n 0, 1), (66, .getfield 114, 3), (69, .iload 6, 2), (71, .aload_n 0, 1), (72, .getfield 114, 3), (75, .iload 4, 2), (77, .baload, 1), (78, .iload 5, 2), (80, .iconst 4, 1), (81, .if_icmp .ne 7, 3), (84, .iconst 1, 1), (85, .goto 4, 3), (88, .iconst 0, 1), (89, .if_icmp .eq 7, 3), (92, .iconst 1, 1), (93, .goto 4, 3), (96, .iconst 0, 1), (97, .bastore, 1), (98, .aload_n 0, 1), (99, .getfield 75, 3), (102, .sipush 400, 3), (105, .iload_n 1, 1), (106, .imul, 1), (107, .iload 6, 2), (109, .iadd, 1), (110, .iaload, 1), (111, .istore 6, 2), (113, .goto (-54), 3), (116, .iload 5, 2), (118, .iconst 4, 1), (119, .if_icmp .ge 24, 3), (122, .aload_n 0, 1), (123, .getfield 114, 3), (126, .iload 4, 2), (128, .baload, 1), (129, .ifCond .ne 14, 3), (132, .iload_n 3, 1), (133, .aload_n 0, 1), (134, .iload_n 1, 1), (135, .iload 4, 2), (137, .iload_n 2, 1), (138, .invokevirtual 340, 3), (141, .iadd, 1), (142, .istore_n 3, 1), (143, .iinc 4 (-1), 3), (146, .goto (-122), 3), (149, .iload_n 3, 1), (150, .ireturn, 1)] = true := by decide +kernel
noncomputable def fX12_score_b143 (v0 : Nat) (v1 : Int32) (v2 : Int32) (v3 : Int32) (v4 : Int32) (h : PH) : Option ((Int32 × Int32 × PH) ⊕ (Int32 × PH)) :=
  some (.inl (v3, (v4 + (-1)), h))
set_option maxRecDepth 100000 in
theorem mX12_score_b143 {v0 : Nat} {v1 : Int32} {v2 : Int32} {v3 : Int32} {v4 : Int32} {h : PH} {x : ((Int32 × Int32 × PH) ⊕ (Int32 × PH))} (hf : fX12_score_b143 v0 v1 v2 v3 v4 h = some x) : (∀ w9 : (Int32 × Int32 × PH), x = .inl w9 → eqz h (hX (w9.2.2)) (hV (w9.2.2))) ∧ (∀ w9 : (Int32 × PH), x = .inr w9 → eqz h (hX w9.2) (hV w9.2)) := by
  unfold fX12_score_b143 at hf
  have hle := eqz_rf h
  have ee := Option.some.inj hf; subst ee
  exact ⟨(fun z e => by have ee := Sum.inl.inj (e); subst ee; exact hle), (fun z e => nomatch e)⟩
set_option maxRecDepth 100000 in
theorem wX12_score_b143 {E : PE} {p : Program} {l : Launch} {e : Env} {s : State} {m : MethodId} {args : Array Value} {below : List Frame} {meth : Method} {c : Code} (X : Cx E p l e (rmv 3 0 0) s m args below meth c RX12 cX12_score 7 (some .int)) (hG : Gs E l) (hnm : meth.name = yX12_score.name) {v0 : Nat} {v1 : Int32} {v2 : Int32} {v3 : Int32} {v4 : Int32} {h : PH} {r : (Int32 × PH)} {x : ((Int32 × Int32 × PH) ⊕ (Int32 × PH))} (hf : fX12_score_b143 v0 v1 v2 v3 v4 h = some x) (k0 : ∀ z : (Int32 × Int32 × PH), x = .inl z → PW E p l e (rmv 3 0 0) s m args below meth c 7 0 0 (MQ below (QG E (fun v u => v = some (.int r.1) ∧ u = r.2)) args s 0 0 (pA E)) (z.2.2) 24 [(0, some (.ref v0)), (1, some (.int v1)), (2, some (.int v2)), (3, some (.int (z.1))), (4, some (.int (z.2.1)))] []) (kf : ∀ z : (Int32 × PH), x = .inr z → z = r) : PW E p l e (rmv 3 0 0) s m args below meth c 7 0 0 (MQ below (QG E (fun v u => v = some (.int r.1) ∧ u = r.2)) args s 0 0 (pA E)) h 143 [(0, some (.ref v0)), (1, some (.int v1)), (2, some (.int v2)), (3, some (.int v3)), (4, some (.int v4))] [] := by
  unfold fX12_score_b143 at hf
  refine p_iinc (v := -1) X (dcg dc_X12_score 84 rfl) rfl (by decide) (by decide) rfl ?_
  refine p_goto (tgt := 24) X (dcg dc_X12_score 85 rfl) (by decide) ?_
  refine p_pick [0, 1, 2, 3, 4] ?_
  exact k0 _ (Option.some.inj hf).symm
noncomputable def fX12_score_b97 (v0 : Nat) (v1 : Int32) (v2 : Int32) (v3 : Int32) (v4 : Int32) (v5 : Int32) (v6 : Int32) (t0 : Option Nat) (t1 : Int32) (t2 : Int32) (h : PH) : Option ((Int32 × PH) ⊕ ((Int32 × Int32 × PH) ⊕ (Int32 × PH))) :=
  gs t0 (fun a39 =>
  gd (hK h a39 = 21 ∧ inb t1 (hN h a39)) (lt (sI h 21 a39 (Int32.toNatClampNeg t1) (t2 &&& 1)) (fun h43 =>
  gd (hK h43 v0 = 12) (gs (hR h43 12 v0 30) (fun a45 =>
  gd (hK h43 a45 = 20 ∧ inb (((400 : Int32) * v1) + v6) (hN h43 a45)) (some (.inl ((hI h43 20 a45 (Int32.toNatClampNeg (((400 : Int32) * v1) + v6))), h43))))))))
set_option maxRecDepth 100000 in
theorem mX12_score_b97 {v0 : Nat} {v1 : Int32} {v2 : Int32} {v3 : Int32} {v4 : Int32} {v5 : Int32} {v6 : Int32} {t0 : Option Nat} {t1 : Int32} {t2 : Int32} {h : PH} {x : ((Int32 × PH) ⊕ ((Int32 × Int32 × PH) ⊕ (Int32 × PH)))} (hf : fX12_score_b97 v0 v1 v2 v3 v4 v5 v6 t0 t1 t2 h = some x) : (∀ w9 : (Int32 × PH), x = .inl w9 → eqz h (hX (w9.2)) (hV (w9.2))) ∧ (∀ w9 : (Int32 × Int32 × PH), x = .inr (.inl w9) → eqz h (hX (w9.2.2)) (hV (w9.2.2))) ∧ (∀ w9 : (Int32 × PH), x = .inr (.inr w9) → eqz h (hX w9.2) (hV w9.2)) := by
  unfold fX12_score_b97 at hf
  have hle := eqz_rf h
  obtain ⟨a39, e40, hf⟩ := gs_some hf
  obtain ⟨⟨hk42, hb41⟩, hf⟩ := gd_some hf
  obtain ⟨h43, rfl, hf⟩ := lt_some hf
  obtain ⟨hk44, hf⟩ := gd_some hf
  obtain ⟨a45, e46, hf⟩ := gs_some hf
  obtain ⟨⟨hk48, hb47⟩, hf⟩ := gd_some hf
  have ee := Option.some.inj hf; subst ee
  exact ⟨(fun z e => by have ee := Sum.inl.inj (e); subst ee; exact hle), (fun z e => nomatch e), (fun z e => nomatch e)⟩
set_option maxRecDepth 100000 in
theorem wX12_score_b97 {E : PE} {p : Program} {l : Launch} {e : Env} {s : State} {m : MethodId} {args : Array Value} {below : List Frame} {meth : Method} {c : Code} (X : Cx E p l e (rmv 3 0 0) s m args below meth c RX12 cX12_score 7 (some .int)) (hG : Gs E l) (hnm : meth.name = yX12_score.name) {v0 : Nat} {v1 : Int32} {v2 : Int32} {v3 : Int32} {v4 : Int32} {v5 : Int32} {v6 : Int32} {t0 : Option Nat} {t1 : Int32} {t2 : Int32} {h : PH} {r : (Int32 × PH)} {x : ((Int32 × PH) ⊕ ((Int32 × Int32 × PH) ⊕ (Int32 × PH)))} (hf : fX12_score_b97 v0 v1 v2 v3 v4 v5 v6 t0 t1 t2 h = some x) (k0 : ∀ z : (Int32 × PH), x = .inl z → PW E p l e (rmv 3 0 0) s m args below meth c 7 0 0 (MQ below (QG E (fun v u => v = some (.int r.1) ∧ u = r.2)) args s 0 0 (pA E)) (z.2) 59 [(0, some (.ref v0)), (1, some (.int v1)), (2, some (.int v2)), (3, some (.int v3)), (4, some (.int v4)), (5, some (.int v5)), (6, some (.int (z.1)))] []) (k1 : ∀ z : (Int32 × Int32 × PH), x = .inr (.inl z) → PW E p l e (rmv 3 0 0) s m args below meth c 7 0 0 (MQ below (QG E (fun v u => v = some (.int r.1) ∧ u = r.2)) args s 0 0 (pA E)) (z.2.2) 24 [(0, some (.ref v0)), (1, some (.int v1)), (2, some (.int v2)), (3, some (.int (z.1))), (4, some (.int (z.2.1)))] []) (kf : ∀ z : (Int32 × PH), x = .inr (.inr z) → z = r) : PW E p l e (rmv 3 0 0) s m args below meth c 7 0 0 (MQ below (QG E (fun v u => v = some (.int r.1) ∧ u = r.2)) args s 0 0 (pA E)) h 97 [(0, some (.ref v0)), (1, some (.int v1)), (2, some (.int v2)), (3, some (.int v3)), (4, some (.int v4)), (5, some (.int v5)), (6, some (.int v6))] [.int t2, .int t1, va_rf t0] := by
  unfold fX12_score_b97 at hf
  obtain ⟨a39, e40, hf⟩ := gs_some hf
  first | subst e40 | (try rw [e40])
  obtain ⟨⟨hk42, hb41⟩, hf⟩ := gd_some hf
  refine p_zast X (dcg dc_X12_score 57 rfl) hk42 (vp_of_inb hb41) ?_
  obtain ⟨h43, rfl, hf⟩ := lt_some hf
  refine p_aload_n X (dcg dc_X12_score 58 rfl) rfl rfl ?_
  obtain ⟨hk44, hf⟩ := gd_some hf
  refine p_getR X fl_X12_75 rfl (by decide) (dcg dc_X12_score 59 rfl) hk44 ?_
  refine p_sipush (v := 400) X (dcg dc_X12_score 60 rfl) (by decide) ?_
  refine p_iload_n X (dcg dc_X12_score 61 rfl) rfl rfl ?_
  refine p_imul X (dcg dc_X12_score 62 rfl) ?_
  refine p_iload X (dcg dc_X12_score 63 rfl) rfl ?_
  refine p_iadd X (dcg dc_X12_score 64 rfl) ?_
  obtain ⟨a45, e46, hf⟩ := gs_some hf
  first | subst e46 | (try rw [e46])
  obtain ⟨⟨hk48, hb47⟩, hf⟩ := gd_some hf
  refine p_iald X (dcg dc_X12_score 65 rfl) hk48 (vp_of_inb hb47) ?_
  refine p_istore X (dcg dc_X12_score 66 rfl) (by decide) rfl ?_
  refine p_goto (tgt := 59) X (dcg dc_X12_score 67 rfl) (by decide) ?_
  refine p_pick [0, 1, 2, 3, 4, 5, 6] ?_
  exact k0 _ (Option.some.inj hf).symm
noncomputable def fX12_score_b89 (v0 : Nat) (v1 : Int32) (v2 : Int32) (v3 : Int32) (v4 : Int32) (v5 : Int32) (v6 : Int32) (t0 : Option Nat) (t1 : Int32) (t2 : Int32) (t3 : Int32) (h : PH) : Option ((Int32 × PH) ⊕ ((Int32 × Int32 × PH) ⊕ (Int32 × PH))) :=
  if (t2 = t3) then (fX12_score_b97 v0 v1 v2 v3 v4 v5 v6 t0 t1 (0 : Int32) h) else
  fX12_score_b97 v0 v1 v2 v3 v4 v5 v6 t0 t1 (1 : Int32) h
set_option maxRecDepth 100000 in
theorem mX12_score_b89 {v0 : Nat} {v1 : Int32} {v2 : Int32} {v3 : Int32} {v4 : Int32} {v5 : Int32} {v6 : Int32} {t0 : Option Nat} {t1 : Int32} {t2 : Int32} {t3 : Int32} {h : PH} {x : ((Int32 × PH) ⊕ ((Int32 × Int32 × PH) ⊕ (Int32 × PH)))} (hf : fX12_score_b89 v0 v1 v2 v3 v4 v5 v6 t0 t1 t2 t3 h = some x) : (∀ w9 : (Int32 × PH), x = .inl w9 → eqz h (hX (w9.2)) (hV (w9.2))) ∧ (∀ w9 : (Int32 × Int32 × PH), x = .inr (.inl w9) → eqz h (hX (w9.2.2)) (hV (w9.2.2))) ∧ (∀ w9 : (Int32 × PH), x = .inr (.inr w9) → eqz h (hX w9.2) (hV w9.2)) := by
  unfold fX12_score_b89 at hf
  have hle := eqz_rf h
  rcases ite_or hf with ⟨q, hf⟩ | ⟨q, hf⟩
  · have hf := if_t q hf
    obtain ⟨c0, c1, cf⟩ := mX12_score_b97 hf
    exact ⟨fun z e => eqz_rt (c0 z (e)) hle, fun z e => eqz_rt (c1 z (e)) hle, fun z e => eqz_rt (cf z (e)) hle⟩
  · have hf := if_f q hf
    obtain ⟨c0, c1, cf⟩ := mX12_score_b97 hf
    exact ⟨fun z e => eqz_rt (c0 z (e)) hle, fun z e => eqz_rt (c1 z (e)) hle, fun z e => eqz_rt (cf z (e)) hle⟩
set_option maxRecDepth 100000 in
theorem wX12_score_b89 {E : PE} {p : Program} {l : Launch} {e : Env} {s : State} {m : MethodId} {args : Array Value} {below : List Frame} {meth : Method} {c : Code} (X : Cx E p l e (rmv 3 0 0) s m args below meth c RX12 cX12_score 7 (some .int)) (hG : Gs E l) (hnm : meth.name = yX12_score.name) {v0 : Nat} {v1 : Int32} {v2 : Int32} {v3 : Int32} {v4 : Int32} {v5 : Int32} {v6 : Int32} {t0 : Option Nat} {t1 : Int32} {t2 : Int32} {t3 : Int32} {h : PH} {r : (Int32 × PH)} {x : ((Int32 × PH) ⊕ ((Int32 × Int32 × PH) ⊕ (Int32 × PH)))} (hf : fX12_score_b89 v0 v1 v2 v3 v4 v5 v6 t0 t1 t2 t3 h = some x) (k0 : ∀ z : (Int32 × PH), x = .inl z → PW E p l e (rmv 3 0 0) s m args below meth c 7 0 0 (MQ below (QG E (fun v u => v = some (.int r.1) ∧ u = r.2)) args s 0 0 (pA E)) (z.2) 59 [(0, some (.ref v0)), (1, some (.int v1)), (2, some (.int v2)), (3, some (.int v3)), (4, some (.int v4)), (5, some (.int v5)), (6, some (.int (z.1)))] []) (k1 : ∀ z : (Int32 × Int32 × PH), x = .inr (.inl z) → PW E p l e (rmv 3 0 0) s m args below meth c 7 0 0 (MQ below (QG E (fun v u => v = some (.int r.1) ∧ u = r.2)) args s 0 0 (pA E)) (z.2.2) 24 [(0, some (.ref v0)), (1, some (.int v1)), (2, some (.int v2)), (3, some (.int (z.1))), (4, some (.int (z.2.1)))] []) (kf : ∀ z : (Int32 × PH), x = .inr (.inr z) → z = r) : PW E p l e (rmv 3 0 0) s m args below meth c 7 0 0 (MQ below (QG E (fun v u => v = some (.int r.1) ∧ u = r.2)) args s 0 0 (pA E)) h 89 [(0, some (.ref v0)), (1, some (.int v1)), (2, some (.int v2)), (3, some (.int v3)), (4, some (.int v4)), (5, some (.int v5)), (6, some (.int v6))] [.int t3, .int t2, .int t1, va_rf t0] := by
  unfold fX12_score_b89 at hf
  refine p_icmp_eq (tgt := 96) X (dcg dc_X12_score 53 rfl) (by decide) (fun q => ?_) (fun q => ?_)
  · have hf := if_t q hf
    refine p_iconst (v := 0) X (dcg dc_X12_score 56 rfl) (by decide) ?_
    refine p_pick [0, 1, 2, 3, 4, 5, 6] ?_
    exact wX12_score_b97 X hG hnm hf k0 k1 kf
  · have hf := if_f q hf
    refine p_iconst (v := 1) X (dcg dc_X12_score 54 rfl) (by decide) ?_
    refine p_goto (tgt := 97) X (dcg dc_X12_score 55 rfl) (by decide) ?_
    refine p_pick [0, 1, 2, 3, 4, 5, 6] ?_
    exact wX12_score_b97 X hG hnm hf k0 k1 kf
noncomputable def fX12_score_c59 (v0 : Nat) (v1 : Int32) (v2 : Int32) (v3 : Int32) (v4 : Int32) (v5 : Int32) (v6 : Int32) (h : PH) : Option ((Int32 × PH) ⊕ ((Int32 × Int32 × PH) ⊕ (Int32 × PH))) :=
  if (v6 = (-1 : Int32)) then (mr (if ((4 : Int32) ≤ v5) then (fX12_score_b143 v0 v1 v2 v3 v4 h) else
  gd (hK h v0 = 12) (gs (hR h 12 v0 47) (fun a29 =>
  gd (hK h a29 = 21 ∧ inb v4 (hN h a29)) (if (¬ (hI h 21 a29 (Int32.toNatClampNeg v4)) = 0) then (fX12_score_b143 v0 v1 v2 v3 v4 h) else
  bd (fX12_meets v0 v1 v4 v2 h) (fun z33 =>
  fX12_score_b143 v0 v1 v2 (v3 + z33) v4 h)))))) else
  gd (hK h v0 = 12) (gs (hR h 12 v0 47) (fun a35 =>
  gd (hK h a35 = 21 ∧ inb v4 (hN h a35)) (if (¬ v5 = (4 : Int32)) then (fX12_score_b89 v0 v1 v2 v3 v4 v5 v6 (some a35) v6 (hI h 21 a35 (Int32.toNatClampNeg v4)) (0 : Int32) h) else
  fX12_score_b89 v0 v1 v2 v3 v4 v5 v6 (some a35) v6 (hI h 21 a35 (Int32.toNatClampNeg v4)) (1 : Int32) h)))
set_option maxRecDepth 100000 in
theorem mX12_score_c59 {v0 : Nat} {v1 : Int32} {v2 : Int32} {v3 : Int32} {v4 : Int32} {v5 : Int32} {v6 : Int32} {h : PH} {x : ((Int32 × PH) ⊕ ((Int32 × Int32 × PH) ⊕ (Int32 × PH)))} (hf : fX12_score_c59 v0 v1 v2 v3 v4 v5 v6 h = some x) : (∀ w9 : (Int32 × PH), x = .inl w9 → eqz h (hX (w9.2)) (hV (w9.2))) ∧ (∀ w9 : (Int32 × Int32 × PH), x = .inr (.inl w9) → eqz h (hX (w9.2.2)) (hV (w9.2.2))) ∧ (∀ w9 : (Int32 × PH), x = .inr (.inr w9) → eqz h (hX w9.2) (hV w9.2)) := by
  unfold fX12_score_c59 at hf
  have hle := eqz_rf h
  rcases ite_or hf with ⟨q, hf⟩ | ⟨q, hf⟩
  · have hf := if_t q hf
    obtain ⟨y26, hfm, rfl⟩ := mr_some hf; have hf := hfm; clear hfm
    rcases ite_or hf with ⟨q, hf⟩ | ⟨q, hf⟩
    · have hf := if_t q hf
      obtain ⟨c0, cf⟩ := mX12_score_b143 hf
      exact ⟨(fun z e => nomatch e), fun z e => eqz_rt (c0 z (Sum.inr.inj (e))) hle, fun z e => eqz_rt (cf z (Sum.inr.inj (e))) hle⟩
    · have hf := if_f q hf
      obtain ⟨hk28, hf⟩ := gd_some hf
      obtain ⟨a29, e30, hf⟩ := gs_some hf
      obtain ⟨⟨hk32, hb31⟩, hf⟩ := gd_some hf
      rcases ite_or hf with ⟨q, hf⟩ | ⟨q, hf⟩
      · have hf := if_t q hf
        obtain ⟨c0, cf⟩ := mX12_score_b143 hf
        exact ⟨(fun z e => nomatch e), fun z e => eqz_rt (c0 z (Sum.inr.inj (e))) hle, fun z e => eqz_rt (cf z (Sum.inr.inj (e))) hle⟩
      · have hf := if_f q hf
        obtain ⟨z33, hz33, hf⟩ := bd_some hf
        obtain ⟨c0, cf⟩ := mX12_score_b143 hf
        exact ⟨(fun z e => nomatch e), fun z e => eqz_rt (c0 z (Sum.inr.inj (e))) hle, fun z e => eqz_rt (cf z (Sum.inr.inj (e))) hle⟩
  · have hf := if_f q hf
    obtain ⟨hk34, hf⟩ := gd_some hf
    obtain ⟨a35, e36, hf⟩ := gs_some hf
    obtain ⟨⟨hk38, hb37⟩, hf⟩ := gd_some hf
    rcases ite_or hf with ⟨q, hf⟩ | ⟨q, hf⟩
    · have hf := if_t q hf
      obtain ⟨c0, c1, cf⟩ := mX12_score_b89 hf
      exact ⟨fun z e => eqz_rt (c0 z (e)) hle, fun z e => eqz_rt (c1 z (e)) hle, fun z e => eqz_rt (cf z (e)) hle⟩
    · have hf := if_f q hf
      obtain ⟨c0, c1, cf⟩ := mX12_score_b89 hf
      exact ⟨fun z e => eqz_rt (c0 z (e)) hle, fun z e => eqz_rt (c1 z (e)) hle, fun z e => eqz_rt (cf z (e)) hle⟩
set_option maxRecDepth 100000 in
theorem wX12_score_c59 {E : PE} {p : Program} {l : Launch} {e : Env} {s : State} {m : MethodId} {args : Array Value} {below : List Frame} {meth : Method} {c : Code} (X : Cx E p l e (rmv 3 0 0) s m args below meth c RX12 cX12_score 7 (some .int)) (hG : Gs E l) (hnm : meth.name = yX12_score.name) {v0 : Nat} {v1 : Int32} {v2 : Int32} {v3 : Int32} {v4 : Int32} {v5 : Int32} {v6 : Int32} {h : PH} {r : (Int32 × PH)} {x : ((Int32 × PH) ⊕ ((Int32 × Int32 × PH) ⊕ (Int32 × PH)))} (hf : fX12_score_c59 v0 v1 v2 v3 v4 v5 v6 h = some x) (k0 : ∀ z : (Int32 × PH), x = .inl z → PW E p l e (rmv 3 0 0) s m args below meth c 7 0 0 (MQ below (QG E (fun v u => v = some (.int r.1) ∧ u = r.2)) args s 0 0 (pA E)) (z.2) 59 [(0, some (.ref v0)), (1, some (.int v1)), (2, some (.int v2)), (3, some (.int v3)), (4, some (.int v4)), (5, some (.int v5)), (6, some (.int (z.1)))] []) (k1 : ∀ z : (Int32 × Int32 × PH), x = .inr (.inl z) → PW E p l e (rmv 3 0 0) s m args below meth c 7 0 0 (MQ below (QG E (fun v u => v = some (.int r.1) ∧ u = r.2)) args s 0 0 (pA E)) (z.2.2) 24 [(0, some (.ref v0)), (1, some (.int v1)), (2, some (.int v2)), (3, some (.int (z.1))), (4, some (.int (z.2.1)))] []) (kf : ∀ z : (Int32 × PH), x = .inr (.inr z) → z = r) : PW E p l e (rmv 3 0 0) s m args below meth c 7 0 0 (MQ below (QG E (fun v u => v = some (.int r.1) ∧ u = r.2)) args s 0 0 (pA E)) h 59 [(0, some (.ref v0)), (1, some (.int v1)), (2, some (.int v2)), (3, some (.int v3)), (4, some (.int v4)), (5, some (.int v5)), (6, some (.int v6))] [] := by
  unfold fX12_score_c59 at hf
  refine p_iload X (dcg dc_X12_score 37 rfl) rfl ?_
  refine p_iconst (v := -1) X (dcg dc_X12_score 38 rfl) (by decide) ?_
  refine p_icmp_eq (tgt := 116) X (dcg dc_X12_score 39 rfl) (by decide) (fun q => ?_) (fun q => ?_)
  · have hf := if_t q hf
    obtain ⟨y26, hf, hy27⟩ := mr_some hf
    refine p_iload X (dcg dc_X12_score 68 rfl) rfl ?_
    refine p_iconst (v := 4) X (dcg dc_X12_score 69 rfl) (by decide) ?_
    refine p_icmp_ge (tgt := 143) X (dcg dc_X12_score 70 rfl) (by decide) (fun q => ?_) (fun q => ?_)
    · have hf := if_t q hf
      refine p_pick [0, 1, 2, 3, 4] ?_
      exact wX12_score_b143 X hG hnm hf (fun z0 e0 => k1 z0 (hy27.trans (congrArg Sum.inr e0))) (fun z0 e0 => kf z0 (hy27.trans (congrArg Sum.inr e0)))
    · have hf := if_f q hf
      refine p_aload_n X (dcg dc_X12_score 71 rfl) rfl rfl ?_
      obtain ⟨hk28, hf⟩ := gd_some hf
      refine p_getR X fl_X12_114 rfl (by decide) (dcg dc_X12_score 72 rfl) hk28 ?_
      refine p_iload X (dcg dc_X12_score 73 rfl) rfl ?_
      obtain ⟨a29, e30, hf⟩ := gs_some hf
      first | subst e30 | (try rw [e30])
      obtain ⟨⟨hk32, hb31⟩, hf⟩ := gd_some hf
      refine p_zald X (dcg dc_X12_score 74 rfl) hk32 (vp_of_inb hb31) ?_
      refine p_if_ne (tgt := 143) X (dcg dc_X12_score 75 rfl) (by decide) (fun q => ?_) (fun q => ?_)
      · have hf := if_t q hf
        refine p_pick [0, 1, 2, 3, 4] ?_
        exact wX12_score_b143 X hG hnm hf (fun z0 e0 => k1 z0 (hy27.trans (congrArg Sum.inr e0))) (fun z0 e0 => kf z0 (hy27.trans (congrArg Sum.inr e0)))
      · have hf := if_f q hf
        refine p_iload_n X (dcg dc_X12_score 76 rfl) rfl rfl ?_
        refine p_aload_n X (dcg dc_X12_score 77 rfl) rfl rfl ?_
        refine p_iload_n X (dcg dc_X12_score 78 rfl) rfl rfl ?_
        refine p_iload X (dcg dc_X12_score 79 rfl) rfl ?_
        refine p_iload_n X (dcg dc_X12_score 80 rfl) rfl rfl ?_
        obtain ⟨z33, hz33, hf⟩ := bd_some hf
        refine p_callV (As := [_, _, _]) X ml_X12_340 (dcg dc_X12_score 81 rfl) rfl rfl hk28 (wX12_meets hG hz33) (by decide) (room4 (Nat.le_of_ble_eq_true rfl)) (Nat.le_refl _) (Nat.le_refl _) ?_
        rintro _ u9 ⟨rfl, e9⟩; have e9 := e9.symm; subst e9
        refine p_iadd X (dcg dc_X12_score 82 rfl) ?_
        refine p_istore_n X (dcg dc_X12_score 83 rfl) rfl (by decide) rfl ?_
        refine p_pick [0, 1, 2, 3, 4] ?_
        exact wX12_score_b143 X hG hnm hf (fun z0 e0 => k1 z0 (hy27.trans (congrArg Sum.inr e0))) (fun z0 e0 => kf z0 (hy27.trans (congrArg Sum.inr e0)))
  · have hf := if_f q hf
    refine p_aload_n X (dcg dc_X12_score 40 rfl) rfl rfl ?_
    obtain ⟨hk34, hf⟩ := gd_some hf
    refine p_getR X fl_X12_114 rfl (by decide) (dcg dc_X12_score 41 rfl) hk34 ?_
    refine p_iload X (dcg dc_X12_score 42 rfl) rfl ?_
    refine p_aload_n X (dcg dc_X12_score 43 rfl) rfl rfl ?_
    refine p_getR X fl_X12_114 rfl (by decide) (dcg dc_X12_score 44 rfl) hk34 ?_
    refine p_iload X (dcg dc_X12_score 45 rfl) rfl ?_
    obtain ⟨a35, e36, hf⟩ := gs_some hf
    first | subst e36 | (try rw [e36])
    obtain ⟨⟨hk38, hb37⟩, hf⟩ := gd_some hf
    refine p_zald X (dcg dc_X12_score 46 rfl) hk38 (vp_of_inb hb37) ?_
    refine p_iload X (dcg dc_X12_score 47 rfl) rfl ?_
    refine p_iconst (v := 4) X (dcg dc_X12_score 48 rfl) (by decide) ?_
    refine p_icmp_ne (tgt := 88) X (dcg dc_X12_score 49 rfl) (by decide) (fun q => ?_) (fun q => ?_)
    · have hf := if_t q hf
      refine p_iconst (v := 0) X (dcg dc_X12_score 52 rfl) (by decide) ?_
      refine p_pick [0, 1, 2, 3, 4, 5, 6] ?_
      exact wX12_score_b89 X hG hnm hf k0 k1 kf
    · have hf := if_f q hf
      refine p_iconst (v := 1) X (dcg dc_X12_score 50 rfl) (by decide) ?_
      refine p_goto (tgt := 89) X (dcg dc_X12_score 51 rfl) (by decide) ?_
      refine p_pick [0, 1, 2, 3, 4, 5, 6] ?_
      exact wX12_score_b89 X hG hnm hf k0 k1 kf
noncomputable def fX12_score_l59 (v0 : Nat) (v1 : Int32) (v2 : Int32) (v3 : Int32) (v4 : Int32) (v5 : Int32) (v6 : Int32) (h : PH) : Option ((Int32 × Int32 × PH) ⊕ (Int32 × PH)) := wh (fun z : (Int32 × PH) => fX12_score_c59 v0 v1 v2 v3 v4 v5 (z.1) (z.2)) (v6, h)
set_option maxRecDepth 100000 in
theorem mX12_score_l59 {v0 : Nat} {v1 : Int32} {v2 : Int32} {v3 : Int32} {v4 : Int32} {v5 : Int32} {v6 : Int32} {h : PH} {x : ((Int32 × Int32 × PH) ⊕ (Int32 × PH))} (hf : fX12_score_l59 v0 v1 v2 v3 v4 v5 v6 h = some x) : (∀ w9 : (Int32 × Int32 × PH), x = .inl w9 → eqz h (hX (w9.2.2)) (hV (w9.2.2))) ∧ (∀ w9 : (Int32 × PH), x = .inr w9 → eqz h (hX w9.2) (hV w9.2)) := by
  unfold fX12_score_l59 at hf
  refine wh_ind (P := fun z => (∀ w9 : (Int32 × Int32 × PH), x = .inl w9 → eqz (z.2) (hX (w9.2.2)) (hV (w9.2.2))) ∧ (∀ w9 : (Int32 × PH), x = .inr w9 → eqz (z.2) (hX w9.2) (hV w9.2))) (fun z x0 hs i1 i2 => ?_) _ hf
  obtain ⟨c0, c1, cf⟩ := mX12_score_c59 (v0 := v0) (v1 := v1) (v2 := v2) (v3 := v3) (v4 := v4) (v5 := v5) (v6 := z.1) (h := z.2) hs
  rcases hxx : x0 with zz | (zz | zz)
  · obtain ⟨d0, d1⟩ := (i1 zz hxx)
    exact ⟨fun z1 e1 => eqz_tr (c0 zz hxx) (d0 z1 e1), fun z1 e1 => eqz_tr (c0 zz hxx) (d1 z1 e1)⟩
  · have ee := i2 _ hxx; subst ee
    exact ⟨(fun z1 e1 => by cases e1 <;> exact c1 zz hxx), (fun z1 e1 => nomatch e1)⟩
  · have ee := i2 _ hxx; subst ee
    exact ⟨(fun z1 e1 => nomatch e1), (fun z1 e1 => by cases e1; exact cf zz hxx)⟩
set_option maxRecDepth 100000 in
theorem wX12_score_l59 {E : PE} {p : Program} {l : Launch} {e : Env} {s : State} {m : MethodId} {args : Array Value} {below : List Frame} {meth : Method} {c : Code} (X : Cx E p l e (rmv 3 0 0) s m args below meth c RX12 cX12_score 7 (some .int)) (hG : Gs E l) (hnm : meth.name = yX12_score.name) {v0 : Nat} {v1 : Int32} {v2 : Int32} {v3 : Int32} {v4 : Int32} {v5 : Int32} {v6 : Int32} {h : PH} {r : (Int32 × PH)} {x : ((Int32 × Int32 × PH) ⊕ (Int32 × PH))} (hf : fX12_score_l59 v0 v1 v2 v3 v4 v5 v6 h = some x) (k0 : ∀ z : (Int32 × Int32 × PH), x = .inl z → PW E p l e (rmv 3 0 0) s m args below meth c 7 0 0 (MQ below (QG E (fun v u => v = some (.int r.1) ∧ u = r.2)) args s 0 0 (pA E)) (z.2.2) 24 [(0, some (.ref v0)), (1, some (.int v1)), (2, some (.int v2)), (3, some (.int (z.1))), (4, some (.int (z.2.1)))] []) (kf : ∀ z : (Int32 × PH), x = .inr z → z = r) : PW E p l e (rmv 3 0 0) s m args below meth c 7 0 0 (MQ below (QG E (fun v u => v = some (.int r.1) ∧ u = r.2)) args s 0 0 (pA E)) h 59 [(0, some (.ref v0)), (1, some (.int v1)), (2, some (.int v2)), (3, some (.int v3)), (4, some (.int v4)), (5, some (.int v5)), (6, some (.int v6))] [] := by
  unfold fX12_score_l59 at hf
  refine wh_ind (P := fun z => PW E p l e (rmv 3 0 0) s m args below meth c 7 0 0 (MQ below (QG E (fun v u => v = some (.int r.1) ∧ u = r.2)) args s 0 0 (pA E)) (z.2) 59 [(0, some (.ref v0)), (1, some (.int v1)), (2, some (.int v2)), (3, some (.int v3)), (4, some (.int v4)), (5, some (.int v5)), (6, some (.int (z.1)))] []) (fun z x0 hs i1 i2 => ?_) _ hf
  exact wX12_score_c59 (r := r) (v0 := v0) (v1 := v1) (v2 := v2) (v3 := v3) (v4 := v4) (v5 := v5) (v6 := z.1) (h := z.2) X hG hnm hs i1 (fun z1 e1 => k0 z1 (i2 _ e1).symm) (fun z1 e1 => kf z1 (i2 _ e1).symm)
noncomputable def fX12_score_c24 (v0 : Nat) (v1 : Int32) (v2 : Int32) (v3 : Int32) (v4 : Int32) (h : PH) : Option ((Int32 × Int32 × PH) ⊕ (Int32 × PH)) :=
  if (v4 < 0) then (mr (some ((v3, h)))) else
  gd (hK h v0 = 12) (gs (hR h 12 v0 25) (fun a18 =>
  gd (hK h a18 = 20 ∧ inb (((400 : Int32) * v1) + v4) (hN h a18)) (gs (hR h 12 v0 29) (fun a22 =>
  gd (hK h a22 = 20 ∧ inb (((400 : Int32) * v1) + v4) (hN h a22)) (fX12_score_l59 v0 v1 v2 v3 v4 (hI h 20 a18 (Int32.toNatClampNeg (((400 : Int32) * v1) + v4))) (hI h 20 a22 (Int32.toNatClampNeg (((400 : Int32) * v1) + v4))) h)))))
set_option maxRecDepth 100000 in
theorem mX12_score_c24 {v0 : Nat} {v1 : Int32} {v2 : Int32} {v3 : Int32} {v4 : Int32} {h : PH} {x : ((Int32 × Int32 × PH) ⊕ (Int32 × PH))} (hf : fX12_score_c24 v0 v1 v2 v3 v4 h = some x) : (∀ w9 : (Int32 × Int32 × PH), x = .inl w9 → eqz h (hX (w9.2.2)) (hV (w9.2.2))) ∧ (∀ w9 : (Int32 × PH), x = .inr w9 → eqz h (hX w9.2) (hV w9.2)) := by
  unfold fX12_score_c24 at hf
  have hle := eqz_rf h
  rcases ite_or hf with ⟨q, hf⟩ | ⟨q, hf⟩
  · have hf := if_t q hf
    obtain ⟨y15, hfm, rfl⟩ := mr_some hf; have hf := hfm; clear hfm
    have ee := Option.some.inj hf; subst ee
    exact ⟨(fun z e => nomatch e), (fun z e => by have ee := Sum.inr.inj (e); subst ee; exact hle)⟩
  · have hf := if_f q hf
    obtain ⟨hk17, hf⟩ := gd_some hf
    obtain ⟨a18, e19, hf⟩ := gs_some hf
    obtain ⟨⟨hk21, hb20⟩, hf⟩ := gd_some hf
    obtain ⟨a22, e23, hf⟩ := gs_some hf
    obtain ⟨⟨hk25, hb24⟩, hf⟩ := gd_some hf
    obtain ⟨c0, cf⟩ := mX12_score_l59 hf
    exact ⟨fun z e => eqz_rt (c0 z (e)) hle, fun z e => eqz_rt (cf z (e)) hle⟩
set_option maxRecDepth 100000 in
theorem wX12_score_c24 {E : PE} {p : Program} {l : Launch} {e : Env} {s : State} {m : MethodId} {args : Array Value} {below : List Frame} {meth : Method} {c : Code} (X : Cx E p l e (rmv 3 0 0) s m args below meth c RX12 cX12_score 7 (some .int)) (hG : Gs E l) (hnm : meth.name = yX12_score.name) {v0 : Nat} {v1 : Int32} {v2 : Int32} {v3 : Int32} {v4 : Int32} {h : PH} {r : (Int32 × PH)} {x : ((Int32 × Int32 × PH) ⊕ (Int32 × PH))} (hf : fX12_score_c24 v0 v1 v2 v3 v4 h = some x) (k0 : ∀ z : (Int32 × Int32 × PH), x = .inl z → PW E p l e (rmv 3 0 0) s m args below meth c 7 0 0 (MQ below (QG E (fun v u => v = some (.int r.1) ∧ u = r.2)) args s 0 0 (pA E)) (z.2.2) 24 [(0, some (.ref v0)), (1, some (.int v1)), (2, some (.int v2)), (3, some (.int (z.1))), (4, some (.int (z.2.1)))] []) (kf : ∀ z : (Int32 × PH), x = .inr z → z = r) : PW E p l e (rmv 3 0 0) s m args below meth c 7 0 0 (MQ below (QG E (fun v u => v = some (.int r.1) ∧ u = r.2)) args s 0 0 (pA E)) h 24 [(0, some (.ref v0)), (1, some (.int v1)), (2, some (.int v2)), (3, some (.int v3)), (4, some (.int v4))] [] := by
  unfold fX12_score_c24 at hf
  refine p_iload X (dcg dc_X12_score 17 rfl) rfl ?_
  refine p_if_lt (tgt := 149) X (dcg dc_X12_score 18 rfl) (by decide) (fun q => ?_) (fun q => ?_)
  · have hf := if_t q hf
    obtain ⟨y15, hf, hy16⟩ := mr_some hf
    have hy16f := kf y15 hy16
    subst hy16f
    refine p_iload_n X (dcg dc_X12_score 86 rfl) rfl rfl ?_
    have er := Option.some.inj hf
    subst er
    exact p_iret X rfl (dcg dc_X12_score 87 rfl) ⟨rfl, rfl⟩ (Nat.le_refl _) (Nat.le_refl _)
  · have hf := if_f q hf
    refine p_aload_n X (dcg dc_X12_score 19 rfl) rfl rfl ?_
    obtain ⟨hk17, hf⟩ := gd_some hf
    refine p_getR X fl_X12_60 rfl (by decide) (dcg dc_X12_score 20 rfl) hk17 ?_
    refine p_sipush (v := 400) X (dcg dc_X12_score 21 rfl) (by decide) ?_
    refine p_iload_n X (dcg dc_X12_score 22 rfl) rfl rfl ?_
    refine p_imul X (dcg dc_X12_score 23 rfl) ?_
    refine p_iload X (dcg dc_X12_score 24 rfl) rfl ?_
    refine p_iadd X (dcg dc_X12_score 25 rfl) ?_
    obtain ⟨a18, e19, hf⟩ := gs_some hf
    first | subst e19 | (try rw [e19])
    obtain ⟨⟨hk21, hb20⟩, hf⟩ := gd_some hf
    refine p_iald X (dcg dc_X12_score 26 rfl) hk21 (vp_of_inb hb20) ?_
    refine p_istore X (dcg dc_X12_score 27 rfl) (by decide) rfl ?_
    refine p_aload_n X (dcg dc_X12_score 28 rfl) rfl rfl ?_
    refine p_getR X fl_X12_72 rfl (by decide) (dcg dc_X12_score 29 rfl) hk17 ?_
    refine p_sipush (v := 400) X (dcg dc_X12_score 30 rfl) (by decide) ?_
    refine p_iload_n X (dcg dc_X12_score 31 rfl) rfl rfl ?_
    refine p_imul X (dcg dc_X12_score 32 rfl) ?_
    refine p_iload X (dcg dc_X12_score 33 rfl) rfl ?_
    refine p_iadd X (dcg dc_X12_score 34 rfl) ?_
    obtain ⟨a22, e23, hf⟩ := gs_some hf
    first | subst e23 | (try rw [e23])
    obtain ⟨⟨hk25, hb24⟩, hf⟩ := gd_some hf
    refine p_iald X (dcg dc_X12_score 35 rfl) hk25 (vp_of_inb hb24) ?_
    refine p_istore X (dcg dc_X12_score 36 rfl) (by decide) rfl ?_
    refine p_pick [0, 1, 2, 3, 4, 5, 6] ?_
    exact wX12_score_l59 X hG hnm hf k0 kf
noncomputable def fX12_score_l24 (v0 : Nat) (v1 : Int32) (v2 : Int32) (v3 : Int32) (v4 : Int32) (h : PH) : Option (Int32 × PH) := wh (fun z : (Int32 × Int32 × PH) => fX12_score_c24 v0 v1 v2 (z.1) (z.2.1) (z.2.2)) (v3, v4, h)
set_option maxRecDepth 100000 in
theorem mX12_score_l24 {v0 : Nat} {v1 : Int32} {v2 : Int32} {v3 : Int32} {v4 : Int32} {h : PH} {r : (Int32 × PH)} (hf : fX12_score_l24 v0 v1 v2 v3 v4 h = some r) : eqz h (hX r.2) (hV r.2) := by
  unfold fX12_score_l24 at hf
  refine wh_ind (P := fun z => eqz (z.2.2) (hX r.2) (hV r.2)) (fun z x0 hs i1 i2 => ?_) _ hf
  obtain ⟨c0, cf⟩ := mX12_score_c24 (v0 := v0) (v1 := v1) (v2 := v2) (v3 := z.1) (v4 := z.2.1) (h := z.2.2) hs
  rcases hxx : x0 with zz | zz
  · exact eqz_tr (c0 zz hxx) (i1 zz hxx)
  · have ee := i2 zz hxx; subst ee; exact cf zz hxx
set_option maxRecDepth 100000 in
theorem wX12_score_l24 {E : PE} {p : Program} {l : Launch} {e : Env} {s : State} {m : MethodId} {args : Array Value} {below : List Frame} {meth : Method} {c : Code} (X : Cx E p l e (rmv 3 0 0) s m args below meth c RX12 cX12_score 7 (some .int)) (hG : Gs E l) (hnm : meth.name = yX12_score.name) {v0 : Nat} {v1 : Int32} {v2 : Int32} {v3 : Int32} {v4 : Int32} {h : PH} {r : (Int32 × PH)} (hf : fX12_score_l24 v0 v1 v2 v3 v4 h = some r)  : PW E p l e (rmv 3 0 0) s m args below meth c 7 0 0 (MQ below (QG E (fun v u => v = some (.int r.1) ∧ u = r.2)) args s 0 0 (pA E)) h 24 [(0, some (.ref v0)), (1, some (.int v1)), (2, some (.int v2)), (3, some (.int v3)), (4, some (.int v4))] [] := by
  unfold fX12_score_l24 at hf
  refine wh_ind (P := fun z => PW E p l e (rmv 3 0 0) s m args below meth c 7 0 0 (MQ below (QG E (fun v u => v = some (.int r.1) ∧ u = r.2)) args s 0 0 (pA E)) (z.2.2) 24 [(0, some (.ref v0)), (1, some (.int v1)), (2, some (.int v2)), (3, some (.int (z.1))), (4, some (.int (z.2.1)))] []) (fun z x0 hs i1 i2 => ?_) _ hf
  exact wX12_score_c24 (r := r) (v0 := v0) (v1 := v1) (v2 := v2) (v3 := z.1) (v4 := z.2.1) (h := z.2.2) X hG hnm hs i1  i2
noncomputable def fX12_score (v0 : Nat) (v1 : Int32) (v2 : Int32) (h : PH) : Option (Int32 × PH) :=
  gd (hK h v0 = 12) (gs (hR h 12 v0 34) (fun a2 =>
  gd (hK h a2 = 20 ∧ inb v1 (hN h a2)) (gs (hR h 12 v0 47) (fun a6 =>
  gd (hK h a6 = 21 ∧ inb (hI h 20 a2 (Int32.toNatClampNeg v1)) (hN h a6)) (lt (sI h 21 a6 (Int32.toNatClampNeg (hI h 20 a2 (Int32.toNatClampNeg v1))) ((0 : Int32) &&& 1)) (fun h10 =>
  gs (hR h10 12 v0 32) (fun a11 =>
  gd (hK h10 a11 = 20 ∧ inb v1 (hN h10 a11)) (fX12_score_l24 v0 v1 v2 (0 : Int32) ((hI h10 20 a11 (Int32.toNatClampNeg v1)) - (1 : Int32)) h10))))))))
set_option maxRecDepth 100000 in
theorem mX12_score {v0 : Nat} {v1 : Int32} {v2 : Int32} {h : PH} {r : (Int32 × PH)} (hf : fX12_score v0 v1 v2 h = some r) : eqz h (hX r.2) (hV r.2) := by
  unfold fX12_score at hf
  have hle := eqz_rf h
  obtain ⟨hk1, hf⟩ := gd_some hf
  obtain ⟨a2, e3, hf⟩ := gs_some hf
  obtain ⟨⟨hk5, hb4⟩, hf⟩ := gd_some hf
  obtain ⟨a6, e7, hf⟩ := gs_some hf
  obtain ⟨⟨hk9, hb8⟩, hf⟩ := gd_some hf
  obtain ⟨h10, rfl, hf⟩ := lt_some hf
  obtain ⟨a11, e12, hf⟩ := gs_some hf
  obtain ⟨⟨hk14, hb13⟩, hf⟩ := gd_some hf
  exact eqz_rt (mX12_score_l24 hf) hle
set_option maxRecDepth 100000 in
theorem wX12_score {E : PE} {l : Launch} (hG : Gs E l) {v0 : Nat} {v1 : Int32} {v2 : Int32} {h : PH} {r : (Int32 × PH)} (hf : fX12_score v0 v1 v2 h = some r) : Ct E l 3 0 0 yX12_score cX12_score 7 (some .int) [.ref v0, .int v1, .int v2] h (fun v u => v = some (.int r.1) ∧ u = r.2) := by
  refine ct_of hG (by decide) (Nat.le_of_ble_eq_true rfl) ?_
  intro p e s m args below meth c X hnm
  show PW E p l e _ s m args below meth c _ 0 0 _ h 0 [(0, some (.ref v0)), (1, some (.int v1)), (2, some (.int v2))] []
  unfold fX12_score at hf
  refine p_iconst (v := 0) X (dcg dc_X12_score 0 rfl) (by decide) ?_
  refine p_istore_n X (dcg dc_X12_score 1 rfl) rfl (by decide) rfl ?_
  refine p_aload_n X (dcg dc_X12_score 2 rfl) rfl rfl ?_
  obtain ⟨hk1, hf⟩ := gd_some hf
  refine p_getR X fl_X12_114 rfl (by decide) (dcg dc_X12_score 3 rfl) hk1 ?_
  refine p_aload_n X (dcg dc_X12_score 4 rfl) rfl rfl ?_
  refine p_getR X fl_X12_87 rfl (by decide) (dcg dc_X12_score 5 rfl) hk1 ?_
  refine p_iload_n X (dcg dc_X12_score 6 rfl) rfl rfl ?_
  obtain ⟨a2, e3, hf⟩ := gs_some hf
  first | subst e3 | (try rw [e3])
  obtain ⟨⟨hk5, hb4⟩, hf⟩ := gd_some hf
  refine p_iald X (dcg dc_X12_score 7 rfl) hk5 (vp_of_inb hb4) ?_
  refine p_iconst (v := 0) X (dcg dc_X12_score 8 rfl) (by decide) ?_
  obtain ⟨a6, e7, hf⟩ := gs_some hf
  first | subst e7 | (try rw [e7])
  obtain ⟨⟨hk9, hb8⟩, hf⟩ := gd_some hf
  refine p_zast X (dcg dc_X12_score 9 rfl) hk9 (vp_of_inb hb8) ?_
  obtain ⟨h10, rfl, hf⟩ := lt_some hf
  refine p_aload_n X (dcg dc_X12_score 10 rfl) rfl rfl ?_
  refine p_getR X fl_X12_81 rfl (by decide) (dcg dc_X12_score 11 rfl) hk1 ?_
  refine p_iload_n X (dcg dc_X12_score 12 rfl) rfl rfl ?_
  obtain ⟨a11, e12, hf⟩ := gs_some hf
  first | subst e12 | (try rw [e12])
  obtain ⟨⟨hk14, hb13⟩, hf⟩ := gd_some hf
  refine p_iald X (dcg dc_X12_score 13 rfl) hk14 (vp_of_inb hb13) ?_
  refine p_iconst (v := 1) X (dcg dc_X12_score 14 rfl) (by decide) ?_
  refine p_isub X (dcg dc_X12_score 15 rfl) ?_
  refine p_istore X (dcg dc_X12_score 16 rfl) (by decide) rfl ?_
  refine p_pick [0, 1, 2, 3, 4] ?_
  exact wX12_score_l24 X hG hnm hf 
theorem dc_X12_manyFound : decs cX12_manyFound [(0, .iconst 0, 1), (1, .istore_n 2, 1), (2, .iconst 0, 1), (3, .istore_n 3, 1), (4, .iload_n 3, 1), (5, .bipush 100, 2), (7, .if_icmp .ge 26, 3), (10, .iload_n 2, 1), (11, .aload_n 0, 1), (12, .iload_n 1, 1), (13, .iload_n 3, 1), (14, .invokevirtual 179, 3), (17, .ifCond .eq 7, 3), (20, .iconst 1, 1), (21, .goto 4, 3), (24, .iconst 0, 1), (25, .iadd, 1), (26, .istore_n 2, 1), (27, .iinc 3 1, 3), (30, .goto (-26), 3), (33, .iload_n 2, 1), (34, .ireturn, 1)] = true := by decide +kernel
noncomputable def fX12_manyFound_b25 (v0 : Nat) (v1 : Int32) (v3 : Int32) (t0 : Int32) (t1 : Int32) (h : PH) : Option ((Int32 × Int32 × PH) ⊕ (Int32 × PH)) :=
  some (.inl ((t0 + t1), (v3 + 1), h))
set_option maxRecDepth 100000 in
theorem mX12_manyFound_b25 {v0 : Nat} {v1 : Int32} {v3 : Int32} {t0 : Int32} {t1 : Int32} {h : PH} {x : ((Int32 × Int32 × PH) ⊕ (Int32 × PH))} (hf : fX12_manyFound_b25 v0 v1 v3 t0 t1 h = some x) : (∀ w9 : (Int32 × Int32 × PH), x = .inl w9 → eqz h (hX (w9.2.2)) (hV (w9.2.2))) ∧ (∀ w9 : (Int32 × PH), x = .inr w9 → eqz h (hX w9.2) (hV w9.2)) := by
  unfold fX12_manyFound_b25 at hf
  have hle := eqz_rf h
  have ee := Option.some.inj hf; subst ee
  exact ⟨(fun z e => by have ee := Sum.inl.inj (e); subst ee; exact hle), (fun z e => nomatch e)⟩
set_option maxRecDepth 100000 in
theorem wX12_manyFound_b25 {E : PE} {p : Program} {l : Launch} {e : Env} {s : State} {m : MethodId} {args : Array Value} {below : List Frame} {meth : Method} {c : Code} (X : Cx E p l e (rmv 4 0 0) s m args below meth c RX12 cX12_manyFound 4 (some .int)) (hG : Gs E l) (hnm : meth.name = yX12_manyFound.name) {v0 : Nat} {v1 : Int32} {v3 : Int32} {t0 : Int32} {t1 : Int32} {h : PH} {r : (Int32 × PH)} {x : ((Int32 × Int32 × PH) ⊕ (Int32 × PH))} (hf : fX12_manyFound_b25 v0 v1 v3 t0 t1 h = some x) (k0 : ∀ z : (Int32 × Int32 × PH), x = .inl z → PW E p l e (rmv 4 0 0) s m args below meth c 4 0 0 (MQ below (QG E (fun v u => v = some (.int r.1) ∧ u = r.2)) args s 0 0 (pA E)) (z.2.2) 4 [(0, some (.ref v0)), (1, some (.int v1)), (2, some (.int (z.1))), (3, some (.int (z.2.1)))] []) (kf : ∀ z : (Int32 × PH), x = .inr z → z = r) : PW E p l e (rmv 4 0 0) s m args below meth c 4 0 0 (MQ below (QG E (fun v u => v = some (.int r.1) ∧ u = r.2)) args s 0 0 (pA E)) h 25 [(0, some (.ref v0)), (1, some (.int v1)), (3, some (.int v3))] [.int t1, .int t0] := by
  unfold fX12_manyFound_b25 at hf
  refine p_iadd X (dcg dc_X12_manyFound 16 rfl) ?_
  refine p_istore_n X (dcg dc_X12_manyFound 17 rfl) rfl (by decide) rfl ?_
  refine p_iinc (v := 1) X (dcg dc_X12_manyFound 18 rfl) rfl (by decide) (by decide) rfl ?_
  refine p_goto (tgt := 4) X (dcg dc_X12_manyFound 19 rfl) (by decide) ?_
  refine p_pick [0, 1, 2, 3] ?_
  exact k0 _ (Option.some.inj hf).symm
noncomputable def fX12_manyFound_c4 (v0 : Nat) (v1 : Int32) (v2 : Int32) (v3 : Int32) (h : PH) : Option ((Int32 × Int32 × PH) ⊕ (Int32 × PH)) :=
  if ((100 : Int32) ≤ v3) then (mr (some ((v2, h)))) else
  gd (hK h v0 = 12) (bd (fX12_satisfies v0 v1 v3 h) (fun z4 =>
  if (z4.1 = 0) then (fX12_manyFound_b25 v0 v1 v3 v2 (0 : Int32) z4.2) else
  fX12_manyFound_b25 v0 v1 v3 v2 (1 : Int32) z4.2))
set_option maxRecDepth 100000 in
theorem mX12_manyFound_c4 {v0 : Nat} {v1 : Int32} {v2 : Int32} {v3 : Int32} {h : PH} {x : ((Int32 × Int32 × PH) ⊕ (Int32 × PH))} (hf : fX12_manyFound_c4 v0 v1 v2 v3 h = some x) : (∀ w9 : (Int32 × Int32 × PH), x = .inl w9 → eqz h (hX (w9.2.2)) (hV (w9.2.2))) ∧ (∀ w9 : (Int32 × PH), x = .inr w9 → eqz h (hX w9.2) (hV w9.2)) := by
  unfold fX12_manyFound_c4 at hf
  have hle := eqz_rf h
  rcases ite_or hf with ⟨q, hf⟩ | ⟨q, hf⟩
  · have hf := if_t q hf
    obtain ⟨y1, hfm, rfl⟩ := mr_some hf; have hf := hfm; clear hfm
    have ee := Option.some.inj hf; subst ee
    exact ⟨(fun z e => nomatch e), (fun z e => by have ee := Sum.inr.inj (e); subst ee; exact hle)⟩
  · have hf := if_f q hf
    obtain ⟨hk3, hf⟩ := gd_some hf
    obtain ⟨z4, hz4, hf⟩ := bd_some hf
    have hle := eqz_rt (mX12_satisfies hz4) hle
    rcases ite_or hf with ⟨q, hf⟩ | ⟨q, hf⟩
    · have hf := if_t q hf
      obtain ⟨c0, cf⟩ := mX12_manyFound_b25 hf
      exact ⟨fun z e => eqz_rt (c0 z (e)) hle, fun z e => eqz_rt (cf z (e)) hle⟩
    · have hf := if_f q hf
      obtain ⟨c0, cf⟩ := mX12_manyFound_b25 hf
      exact ⟨fun z e => eqz_rt (c0 z (e)) hle, fun z e => eqz_rt (cf z (e)) hle⟩
set_option maxRecDepth 100000 in
theorem wX12_manyFound_c4 {E : PE} {p : Program} {l : Launch} {e : Env} {s : State} {m : MethodId} {args : Array Value} {below : List Frame} {meth : Method} {c : Code} (X : Cx E p l e (rmv 4 0 0) s m args below meth c RX12 cX12_manyFound 4 (some .int)) (hG : Gs E l) (hnm : meth.name = yX12_manyFound.name) {v0 : Nat} {v1 : Int32} {v2 : Int32} {v3 : Int32} {h : PH} {r : (Int32 × PH)} {x : ((Int32 × Int32 × PH) ⊕ (Int32 × PH))} (hf : fX12_manyFound_c4 v0 v1 v2 v3 h = some x) (k0 : ∀ z : (Int32 × Int32 × PH), x = .inl z → PW E p l e (rmv 4 0 0) s m args below meth c 4 0 0 (MQ below (QG E (fun v u => v = some (.int r.1) ∧ u = r.2)) args s 0 0 (pA E)) (z.2.2) 4 [(0, some (.ref v0)), (1, some (.int v1)), (2, some (.int (z.1))), (3, some (.int (z.2.1)))] []) (kf : ∀ z : (Int32 × PH), x = .inr z → z = r) : PW E p l e (rmv 4 0 0) s m args below meth c 4 0 0 (MQ below (QG E (fun v u => v = some (.int r.1) ∧ u = r.2)) args s 0 0 (pA E)) h 4 [(0, some (.ref v0)), (1, some (.int v1)), (2, some (.int v2)), (3, some (.int v3))] [] := by
  unfold fX12_manyFound_c4 at hf
  refine p_iload_n X (dcg dc_X12_manyFound 4 rfl) rfl rfl ?_
  refine p_bipush (v := 100) X (dcg dc_X12_manyFound 5 rfl) (by decide) ?_
  refine p_icmp_ge (tgt := 33) X (dcg dc_X12_manyFound 6 rfl) (by decide) (fun q => ?_) (fun q => ?_)
  · have hf := if_t q hf
    obtain ⟨y1, hf, hy2⟩ := mr_some hf
    have hy2f := kf y1 hy2
    subst hy2f
    refine p_iload_n X (dcg dc_X12_manyFound 20 rfl) rfl rfl ?_
    have er := Option.some.inj hf
    subst er
    exact p_iret X rfl (dcg dc_X12_manyFound 21 rfl) ⟨rfl, rfl⟩ (Nat.le_refl _) (Nat.le_refl _)
  · have hf := if_f q hf
    refine p_iload_n X (dcg dc_X12_manyFound 7 rfl) rfl rfl ?_
    refine p_aload_n X (dcg dc_X12_manyFound 8 rfl) rfl rfl ?_
    refine p_iload_n X (dcg dc_X12_manyFound 9 rfl) rfl rfl ?_
    refine p_iload_n X (dcg dc_X12_manyFound 10 rfl) rfl rfl ?_
    obtain ⟨hk3, hf⟩ := gd_some hf
    obtain ⟨z4, hz4, hf⟩ := bd_some hf
    refine p_callV (As := [_, _]) X ml_X12_179 (dcg dc_X12_manyFound 11 rfl) rfl rfl hk3 (wX12_satisfies hG hz4) (by decide) (room4 (Nat.le_of_ble_eq_true rfl)) (Nat.le_refl _) (Nat.le_refl _) ?_
    rintro _ u9 ⟨rfl, e9⟩; have e9 := e9.symm; subst e9
    refine p_if_eq (tgt := 24) X (dcg dc_X12_manyFound 12 rfl) (by decide) (fun q => ?_) (fun q => ?_)
    · have hf := if_t q hf
      refine p_iconst (v := 0) X (dcg dc_X12_manyFound 15 rfl) (by decide) ?_
      refine p_pick [0, 1, 3] ?_
      exact wX12_manyFound_b25 X hG hnm hf k0 kf
    · have hf := if_f q hf
      refine p_iconst (v := 1) X (dcg dc_X12_manyFound 13 rfl) (by decide) ?_
      refine p_goto (tgt := 25) X (dcg dc_X12_manyFound 14 rfl) (by decide) ?_
      refine p_pick [0, 1, 3] ?_
      exact wX12_manyFound_b25 X hG hnm hf k0 kf
noncomputable def fX12_manyFound_l4 (v0 : Nat) (v1 : Int32) (v2 : Int32) (v3 : Int32) (h : PH) : Option (Int32 × PH) := wh (fun z : (Int32 × Int32 × PH) => fX12_manyFound_c4 v0 v1 (z.1) (z.2.1) (z.2.2)) (v2, v3, h)
set_option maxRecDepth 100000 in
theorem mX12_manyFound_l4 {v0 : Nat} {v1 : Int32} {v2 : Int32} {v3 : Int32} {h : PH} {r : (Int32 × PH)} (hf : fX12_manyFound_l4 v0 v1 v2 v3 h = some r) : eqz h (hX r.2) (hV r.2) := by
  unfold fX12_manyFound_l4 at hf
  refine wh_ind (P := fun z => eqz (z.2.2) (hX r.2) (hV r.2)) (fun z x0 hs i1 i2 => ?_) _ hf
  obtain ⟨c0, cf⟩ := mX12_manyFound_c4 (v0 := v0) (v1 := v1) (v2 := z.1) (v3 := z.2.1) (h := z.2.2) hs
  rcases hxx : x0 with zz | zz
  · exact eqz_tr (c0 zz hxx) (i1 zz hxx)
  · have ee := i2 zz hxx; subst ee; exact cf zz hxx
set_option maxRecDepth 100000 in
theorem wX12_manyFound_l4 {E : PE} {p : Program} {l : Launch} {e : Env} {s : State} {m : MethodId} {args : Array Value} {below : List Frame} {meth : Method} {c : Code} (X : Cx E p l e (rmv 4 0 0) s m args below meth c RX12 cX12_manyFound 4 (some .int)) (hG : Gs E l) (hnm : meth.name = yX12_manyFound.name) {v0 : Nat} {v1 : Int32} {v2 : Int32} {v3 : Int32} {h : PH} {r : (Int32 × PH)} (hf : fX12_manyFound_l4 v0 v1 v2 v3 h = some r)  : PW E p l e (rmv 4 0 0) s m args below meth c 4 0 0 (MQ below (QG E (fun v u => v = some (.int r.1) ∧ u = r.2)) args s 0 0 (pA E)) h 4 [(0, some (.ref v0)), (1, some (.int v1)), (2, some (.int v2)), (3, some (.int v3))] [] := by
  unfold fX12_manyFound_l4 at hf
  refine wh_ind (P := fun z => PW E p l e (rmv 4 0 0) s m args below meth c 4 0 0 (MQ below (QG E (fun v u => v = some (.int r.1) ∧ u = r.2)) args s 0 0 (pA E)) (z.2.2) 4 [(0, some (.ref v0)), (1, some (.int v1)), (2, some (.int (z.1))), (3, some (.int (z.2.1)))] []) (fun z x0 hs i1 i2 => ?_) _ hf
  exact wX12_manyFound_c4 (r := r) (v0 := v0) (v1 := v1) (v2 := z.1) (v3 := z.2.1) (h := z.2.2) X hG hnm hs i1  i2
noncomputable def fX12_manyFound (v0 : Nat) (v1 : Int32) (h : PH) : Option (Int32 × PH) :=
  fX12_manyFound_l4 v0 v1 (0 : Int32) (0 : Int32) h
set_option maxRecDepth 100000 in
theorem mX12_manyFound {v0 : Nat} {v1 : Int32} {h : PH} {r : (Int32 × PH)} (hf : fX12_manyFound v0 v1 h = some r) : eqz h (hX r.2) (hV r.2) := by
  unfold fX12_manyFound at hf
  have hle := eqz_rf h
  exact eqz_rt (mX12_manyFound_l4 hf) hle
set_option maxRecDepth 100000 in
theorem wX12_manyFound {E : PE} {l : Launch} (hG : Gs E l) {v0 : Nat} {v1 : Int32} {h : PH} {r : (Int32 × PH)} (hf : fX12_manyFound v0 v1 h = some r) : Ct E l 4 0 0 yX12_manyFound cX12_manyFound 4 (some .int) [.ref v0, .int v1] h (fun v u => v = some (.int r.1) ∧ u = r.2) := by
  refine ct_of hG (by decide) (Nat.le_of_ble_eq_true rfl) ?_
  intro p e s m args below meth c X hnm
  show PW E p l e _ s m args below meth c _ 0 0 _ h 0 [(0, some (.ref v0)), (1, some (.int v1))] []
  unfold fX12_manyFound at hf
  refine p_iconst (v := 0) X (dcg dc_X12_manyFound 0 rfl) (by decide) ?_
  refine p_istore_n X (dcg dc_X12_manyFound 1 rfl) rfl (by decide) rfl ?_
  refine p_iconst (v := 0) X (dcg dc_X12_manyFound 2 rfl) (by decide) ?_
  refine p_istore_n X (dcg dc_X12_manyFound 3 rfl) rfl (by decide) rfl ?_
  refine p_pick [0, 1, 2, 3] ?_
  exact wX12_manyFound_l4 X hG hnm hf 
theorem dc_X12_asks : decs cX12_asks [(0, .aload_n 0, 1), (1, .iconst 0, 1), (2, .putfield 346, 3), (5, .iconst 0, 1), (6, .istore_n 2, 1), (7, .iload_n 2, 1), (8, .bipush 100, 2), (10, .if_icmp .ge 126, 3), (13, .aload_n 0, 1), (14, .iload_n 1, 1), (15, .iload_n 2, 1), (16, .invokevirtual 179, 3), (19, .ifCond .ne 6, 3), (22, .goto 108, 3), (25, .aload_n 0, 1), (26, .iload_n 1, 1), (27, .iload_n 2, 1), (28, .invokevirtual 349, 3), (31, .istore_n 3, 1), (32, .aload_n 0, 1), (33, .getfield 117, 3), (36, .aload_n 0, 1), (37, .getfield 346, 3), (40, .iload_n 2, 1), (41, .iastore, 1), (42, .aload_n 0, 1), (43, .getfield 346, 3), (46, .istore 4, 2), (48, .aload_n 0, 1), (49, .dup, 1), (50, .getfield 346, 3), (53, .iconst 1, 1), (54, .iadd, 1), (55, .putfield 346, 3), (58, .iload 4, 2), (60, .ifCond .le 54, 3), (63, .aload_n 0, 1), (64, .getfield 123, 3), (67, .iload 4, 2), (69, .iconst 1, 1), (70, .isub, 1), (71, .iaload, 1), (72, .iload_n 3, 1), (73, .if_icmp .ge 41, 3), (76, .aload_n 0, 1), (77, .getfield 120, 3), (80, .iload 4, 2), (82, .aload_n 0, 1), (83, .getfield 120, 3), (86, .iload 4, 2), (88, .iconst 1, 1), (89, .isub, 1), (90, .iaload, 1), (91, .iastore, 1), (92, .aload_n 0, 1), (93, .getfield 123, 3), (96, .iload 4, 2), (98, .aload_n 0, 1), (99, .getfield 123, 3), (102, .iload 4, 2), (104, .iconst 1, 1), (105, .isub, 1), (106, .iaload, 1), (107, .iastore, 1), (108, .iinc 4 (-1), 3), (111, .goto (-53), 3), (114, .aload_n 0, 1), (115, .getfield 120, 3), (118, .iload 4, 2), (120, .iload_n 2, 1), (121, .iastore, 1), (122, .aload_n 0, 1), (123, .getfield 123, 3), (126, .iload 4, 2), (128, .iload_n 3, 1), (129, .iastore, 1), (130, .iinc 2 1, 3), (133, .goto (-126), 3), (136, .aload_n 0, 1), (137, .getfield 346, 3), (140, .ireturn, 1)] = true := by decide +kernel
noncomputable def fX12_asks_b130 (v0 : Nat) (v1 : Int32) (v2 : Int32) (h : PH) : Option ((Int32 × PH) ⊕ (Int32 × PH)) :=
  some (.inl ((v2 + 1), h))
set_option maxRecDepth 100000 in
theorem mX12_asks_b130 {v0 : Nat} {v1 : Int32} {v2 : Int32} {h : PH} {x : ((Int32 × PH) ⊕ (Int32 × PH))} (hf : fX12_asks_b130 v0 v1 v2 h = some x) : (∀ w9 : (Int32 × PH), x = .inl w9 → eqz h (hX (w9.2)) (hV (w9.2))) ∧ (∀ w9 : (Int32 × PH), x = .inr w9 → eqz h (hX w9.2) (hV w9.2)) := by
  unfold fX12_asks_b130 at hf
  have hle := eqz_rf h
  have ee := Option.some.inj hf; subst ee
  exact ⟨(fun z e => by have ee := Sum.inl.inj (e); subst ee; exact hle), (fun z e => nomatch e)⟩
set_option maxRecDepth 100000 in
theorem wX12_asks_b130 {E : PE} {p : Program} {l : Launch} {e : Env} {s : State} {m : MethodId} {args : Array Value} {below : List Frame} {meth : Method} {c : Code} (X : Cx E p l e (rmv 4 0 0) s m args below meth c RX12 cX12_asks 5 (some .int)) (hG : Gs E l) (hnm : meth.name = yX12_asks.name) {v0 : Nat} {v1 : Int32} {v2 : Int32} {h : PH} {r : (Int32 × PH)} {x : ((Int32 × PH) ⊕ (Int32 × PH))} (hf : fX12_asks_b130 v0 v1 v2 h = some x) (k0 : ∀ z : (Int32 × PH), x = .inl z → PW E p l e (rmv 4 0 0) s m args below meth c 5 0 0 (MQ below (QG E (fun v u => v = some (.int r.1) ∧ u = r.2)) args s 0 0 (pA E)) (z.2) 7 [(0, some (.ref v0)), (1, some (.int v1)), (2, some (.int (z.1)))] []) (kf : ∀ z : (Int32 × PH), x = .inr z → z = r) : PW E p l e (rmv 4 0 0) s m args below meth c 5 0 0 (MQ below (QG E (fun v u => v = some (.int r.1) ∧ u = r.2)) args s 0 0 (pA E)) h 130 [(0, some (.ref v0)), (1, some (.int v1)), (2, some (.int v2))] [] := by
  unfold fX12_asks_b130 at hf
  refine p_iinc (v := 1) X (dcg dc_X12_asks 76 rfl) rfl (by decide) (by decide) rfl ?_
  refine p_goto (tgt := 7) X (dcg dc_X12_asks 77 rfl) (by decide) ?_
  refine p_pick [0, 1, 2] ?_
  exact k0 _ (Option.some.inj hf).symm
noncomputable def fX12_asks_b114 (v0 : Nat) (v1 : Int32) (v2 : Int32) (v3 : Int32) (v4 : Int32) (h : PH) : Option ((Int32 × PH) ⊕ (Int32 × PH)) :=
  gd (hK h v0 = 12) (gs (hR h 12 v0 49) (fun a18 =>
  gd (hK h a18 = 20 ∧ inb v4 (hN h a18)) (lt (sI h 20 a18 (Int32.toNatClampNeg v4) v2) (fun h22 =>
  gs (hR h22 12 v0 50) (fun a23 =>
  gd (hK h22 a23 = 20 ∧ inb v4 (hN h22 a23)) (lt (sI h22 20 a23 (Int32.toNatClampNeg v4) v3) (fun h27 =>
  fX12_asks_b130 v0 v1 v2 h27)))))))
set_option maxRecDepth 100000 in
theorem mX12_asks_b114 {v0 : Nat} {v1 : Int32} {v2 : Int32} {v3 : Int32} {v4 : Int32} {h : PH} {x : ((Int32 × PH) ⊕ (Int32 × PH))} (hf : fX12_asks_b114 v0 v1 v2 v3 v4 h = some x) : (∀ w9 : (Int32 × PH), x = .inl w9 → eqz h (hX (w9.2)) (hV (w9.2))) ∧ (∀ w9 : (Int32 × PH), x = .inr w9 → eqz h (hX w9.2) (hV w9.2)) := by
  unfold fX12_asks_b114 at hf
  have hle := eqz_rf h
  obtain ⟨hk17, hf⟩ := gd_some hf
  obtain ⟨a18, e19, hf⟩ := gs_some hf
  obtain ⟨⟨hk21, hb20⟩, hf⟩ := gd_some hf
  obtain ⟨h22, rfl, hf⟩ := lt_some hf
  obtain ⟨a23, e24, hf⟩ := gs_some hf
  obtain ⟨⟨hk26, hb25⟩, hf⟩ := gd_some hf
  obtain ⟨h27, rfl, hf⟩ := lt_some hf
  obtain ⟨c0, cf⟩ := mX12_asks_b130 hf
  exact ⟨fun z e => eqz_rt (c0 z (e)) hle, fun z e => eqz_rt (cf z (e)) hle⟩
set_option maxRecDepth 100000 in
theorem wX12_asks_b114 {E : PE} {p : Program} {l : Launch} {e : Env} {s : State} {m : MethodId} {args : Array Value} {below : List Frame} {meth : Method} {c : Code} (X : Cx E p l e (rmv 4 0 0) s m args below meth c RX12 cX12_asks 5 (some .int)) (hG : Gs E l) (hnm : meth.name = yX12_asks.name) {v0 : Nat} {v1 : Int32} {v2 : Int32} {v3 : Int32} {v4 : Int32} {h : PH} {r : (Int32 × PH)} {x : ((Int32 × PH) ⊕ (Int32 × PH))} (hf : fX12_asks_b114 v0 v1 v2 v3 v4 h = some x) (k0 : ∀ z : (Int32 × PH), x = .inl z → PW E p l e (rmv 4 0 0) s m args below meth c 5 0 0 (MQ below (QG E (fun v u => v = some (.int r.1) ∧ u = r.2)) args s 0 0 (pA E)) (z.2) 7 [(0, some (.ref v0)), (1, some (.int v1)), (2, some (.int (z.1)))] []) (kf : ∀ z : (Int32 × PH), x = .inr z → z = r) : PW E p l e (rmv 4 0 0) s m args below meth c 5 0 0 (MQ below (QG E (fun v u => v = some (.int r.1) ∧ u = r.2)) args s 0 0 (pA E)) h 114 [(0, some (.ref v0)), (1, some (.int v1)), (2, some (.int v2)), (3, some (.int v3)), (4, some (.int v4))] [] := by
  unfold fX12_asks_b114 at hf
  refine p_aload_n X (dcg dc_X12_asks 66 rfl) rfl rfl ?_
  obtain ⟨hk17, hf⟩ := gd_some hf
  refine p_getR X fl_X12_120 rfl (by decide) (dcg dc_X12_asks 67 rfl) hk17 ?_
  refine p_iload X (dcg dc_X12_asks 68 rfl) rfl ?_
  refine p_iload_n X (dcg dc_X12_asks 69 rfl) rfl rfl ?_
  obtain ⟨a18, e19, hf⟩ := gs_some hf
  first | subst e19 | (try rw [e19])
  obtain ⟨⟨hk21, hb20⟩, hf⟩ := gd_some hf
  refine p_iast X (dcg dc_X12_asks 70 rfl) hk21 (vp_of_inb hb20) ?_
  obtain ⟨h22, rfl, hf⟩ := lt_some hf
  refine p_aload_n X (dcg dc_X12_asks 71 rfl) rfl rfl ?_
  refine p_getR X fl_X12_123 rfl (by decide) (dcg dc_X12_asks 72 rfl) hk17 ?_
  refine p_iload X (dcg dc_X12_asks 73 rfl) rfl ?_
  refine p_iload_n X (dcg dc_X12_asks 74 rfl) rfl rfl ?_
  obtain ⟨a23, e24, hf⟩ := gs_some hf
  first | subst e24 | (try rw [e24])
  obtain ⟨⟨hk26, hb25⟩, hf⟩ := gd_some hf
  refine p_iast X (dcg dc_X12_asks 75 rfl) hk26 (vp_of_inb hb25) ?_
  obtain ⟨h27, rfl, hf⟩ := lt_some hf
  refine p_pick [0, 1, 2] ?_
  exact wX12_asks_b130 X hG hnm hf k0 kf
noncomputable def fX12_asks_c58 (v0 : Nat) (v1 : Int32) (v2 : Int32) (v3 : Int32) (v4 : Int32) (h : PH) : Option ((Int32 × PH) ⊕ ((Int32 × PH) ⊕ (Int32 × PH))) :=
  if (v4 ≤ 0) then (mr (fX12_asks_b114 v0 v1 v2 v3 v4 h)) else
  gd (hK h v0 = 12) (gs (hR h 12 v0 50) (fun a31 =>
  gd (hK h a31 = 20 ∧ inb (v4 - (1 : Int32)) (hN h a31)) (if (v3 ≤ (hI h 20 a31 (Int32.toNatClampNeg (v4 - (1 : Int32))))) then (mr (fX12_asks_b114 v0 v1 v2 v3 v4 h)) else
  gs (hR h 12 v0 49) (fun a37 =>
  gd (hK h a37 = 20 ∧ inb (v4 - (1 : Int32)) (hN h a37)) (gd (inb v4 (hN h a37)) (lt (sI h 20 a37 (Int32.toNatClampNeg v4) (hI h 20 a37 (Int32.toNatClampNeg (v4 - (1 : Int32))))) (fun h42 =>
  gs (hR h42 12 v0 50) (fun a43 =>
  gd (hK h42 a43 = 20 ∧ inb (v4 - (1 : Int32)) (hN h42 a43)) (gd (inb v4 (hN h42 a43)) (lt (sI h42 20 a43 (Int32.toNatClampNeg v4) (hI h42 20 a43 (Int32.toNatClampNeg (v4 - (1 : Int32))))) (fun h48 =>
  some (.inl ((v4 + (-1)), h48)))))))))))))
set_option maxRecDepth 100000 in
theorem mX12_asks_c58 {v0 : Nat} {v1 : Int32} {v2 : Int32} {v3 : Int32} {v4 : Int32} {h : PH} {x : ((Int32 × PH) ⊕ ((Int32 × PH) ⊕ (Int32 × PH)))} (hf : fX12_asks_c58 v0 v1 v2 v3 v4 h = some x) : (∀ w9 : (Int32 × PH), x = .inl w9 → eqz h (hX (w9.2)) (hV (w9.2))) ∧ (∀ w9 : (Int32 × PH), x = .inr (.inl w9) → eqz h (hX (w9.2)) (hV (w9.2))) ∧ (∀ w9 : (Int32 × PH), x = .inr (.inr w9) → eqz h (hX w9.2) (hV w9.2)) := by
  unfold fX12_asks_c58 at hf
  have hle := eqz_rf h
  rcases ite_or hf with ⟨q, hf⟩ | ⟨q, hf⟩
  · have hf := if_t q hf
    obtain ⟨y28, hfm, rfl⟩ := mr_some hf; have hf := hfm; clear hfm
    obtain ⟨c0, cf⟩ := mX12_asks_b114 hf
    exact ⟨(fun z e => nomatch e), fun z e => eqz_rt (c0 z (Sum.inr.inj (e))) hle, fun z e => eqz_rt (cf z (Sum.inr.inj (e))) hle⟩
  · have hf := if_f q hf
    obtain ⟨hk30, hf⟩ := gd_some hf
    obtain ⟨a31, e32, hf⟩ := gs_some hf
    obtain ⟨⟨hk34, hb33⟩, hf⟩ := gd_some hf
    rcases ite_or hf with ⟨q, hf⟩ | ⟨q, hf⟩
    · have hf := if_t q hf
      obtain ⟨y35, hfm, rfl⟩ := mr_some hf; have hf := hfm; clear hfm
      obtain ⟨c0, cf⟩ := mX12_asks_b114 hf
      exact ⟨(fun z e => nomatch e), fun z e => eqz_rt (c0 z (Sum.inr.inj (e))) hle, fun z e => eqz_rt (cf z (Sum.inr.inj (e))) hle⟩
    · have hf := if_f q hf
      obtain ⟨a37, e38, hf⟩ := gs_some hf
      obtain ⟨⟨hk40, hb39⟩, hf⟩ := gd_some hf
      obtain ⟨hb41, hf⟩ := gd_some hf
      obtain ⟨h42, rfl, hf⟩ := lt_some hf
      obtain ⟨a43, e44, hf⟩ := gs_some hf
      obtain ⟨⟨hk46, hb45⟩, hf⟩ := gd_some hf
      obtain ⟨hb47, hf⟩ := gd_some hf
      obtain ⟨h48, rfl, hf⟩ := lt_some hf
      have ee := Option.some.inj hf; subst ee
      exact ⟨(fun z e => by have ee := Sum.inl.inj (e); subst ee; exact hle), (fun z e => nomatch e), (fun z e => nomatch e)⟩
set_option maxRecDepth 100000 in
theorem wX12_asks_c58 {E : PE} {p : Program} {l : Launch} {e : Env} {s : State} {m : MethodId} {args : Array Value} {below : List Frame} {meth : Method} {c : Code} (X : Cx E p l e (rmv 4 0 0) s m args below meth c RX12 cX12_asks 5 (some .int)) (hG : Gs E l) (hnm : meth.name = yX12_asks.name) {v0 : Nat} {v1 : Int32} {v2 : Int32} {v3 : Int32} {v4 : Int32} {h : PH} {r : (Int32 × PH)} {x : ((Int32 × PH) ⊕ ((Int32 × PH) ⊕ (Int32 × PH)))} (hf : fX12_asks_c58 v0 v1 v2 v3 v4 h = some x) (k0 : ∀ z : (Int32 × PH), x = .inl z → PW E p l e (rmv 4 0 0) s m args below meth c 5 0 0 (MQ below (QG E (fun v u => v = some (.int r.1) ∧ u = r.2)) args s 0 0 (pA E)) (z.2) 58 [(0, some (.ref v0)), (1, some (.int v1)), (2, some (.int v2)), (3, some (.int v3)), (4, some (.int (z.1)))] []) (k1 : ∀ z : (Int32 × PH), x = .inr (.inl z) → PW E p l e (rmv 4 0 0) s m args below meth c 5 0 0 (MQ below (QG E (fun v u => v = some (.int r.1) ∧ u = r.2)) args s 0 0 (pA E)) (z.2) 7 [(0, some (.ref v0)), (1, some (.int v1)), (2, some (.int (z.1)))] []) (kf : ∀ z : (Int32 × PH), x = .inr (.inr z) → z = r) : PW E p l e (rmv 4 0 0) s m args below meth c 5 0 0 (MQ below (QG E (fun v u => v = some (.int r.1) ∧ u = r.2)) args s 0 0 (pA E)) h 58 [(0, some (.ref v0)), (1, some (.int v1)), (2, some (.int v2)), (3, some (.int v3)), (4, some (.int v4))] [] := by
  unfold fX12_asks_c58 at hf
  refine p_iload X (dcg dc_X12_asks 34 rfl) rfl ?_
  refine p_if_le (tgt := 114) X (dcg dc_X12_asks 35 rfl) (by decide) (fun q => ?_) (fun q => ?_)
  · have hf := if_t q hf
    obtain ⟨y28, hf, hy29⟩ := mr_some hf
    refine p_pick [0, 1, 2, 3, 4] ?_
    exact wX12_asks_b114 X hG hnm hf (fun z0 e0 => k1 z0 (hy29.trans (congrArg Sum.inr e0))) (fun z0 e0 => kf z0 (hy29.trans (congrArg Sum.inr e0)))
  · have hf := if_f q hf
    refine p_aload_n X (dcg dc_X12_asks 36 rfl) rfl rfl ?_
    obtain ⟨hk30, hf⟩ := gd_some hf
    refine p_getR X fl_X12_123 rfl (by decide) (dcg dc_X12_asks 37 rfl) hk30 ?_
    refine p_iload X (dcg dc_X12_asks 38 rfl) rfl ?_
    refine p_iconst (v := 1) X (dcg dc_X12_asks 39 rfl) (by decide) ?_
    refine p_isub X (dcg dc_X12_asks 40 rfl) ?_
    obtain ⟨a31, e32, hf⟩ := gs_some hf
    first | subst e32 | (try rw [e32])
    obtain ⟨⟨hk34, hb33⟩, hf⟩ := gd_some hf
    refine p_iald X (dcg dc_X12_asks 41 rfl) hk34 (vp_of_inb hb33) ?_
    refine p_iload_n X (dcg dc_X12_asks 42 rfl) rfl rfl ?_
    refine p_icmp_ge (tgt := 114) X (dcg dc_X12_asks 43 rfl) (by decide) (fun q => ?_) (fun q => ?_)
    · have hf := if_t q hf
      obtain ⟨y35, hf, hy36⟩ := mr_some hf
      refine p_pick [0, 1, 2, 3, 4] ?_
      exact wX12_asks_b114 X hG hnm hf (fun z0 e0 => k1 z0 (hy36.trans (congrArg Sum.inr e0))) (fun z0 e0 => kf z0 (hy36.trans (congrArg Sum.inr e0)))
    · have hf := if_f q hf
      refine p_aload_n X (dcg dc_X12_asks 44 rfl) rfl rfl ?_
      refine p_getR X fl_X12_120 rfl (by decide) (dcg dc_X12_asks 45 rfl) hk30 ?_
      refine p_iload X (dcg dc_X12_asks 46 rfl) rfl ?_
      refine p_aload_n X (dcg dc_X12_asks 47 rfl) rfl rfl ?_
      refine p_getR X fl_X12_120 rfl (by decide) (dcg dc_X12_asks 48 rfl) hk30 ?_
      refine p_iload X (dcg dc_X12_asks 49 rfl) rfl ?_
      refine p_iconst (v := 1) X (dcg dc_X12_asks 50 rfl) (by decide) ?_
      refine p_isub X (dcg dc_X12_asks 51 rfl) ?_
      obtain ⟨a37, e38, hf⟩ := gs_some hf
      first | subst e38 | (try rw [e38])
      obtain ⟨⟨hk40, hb39⟩, hf⟩ := gd_some hf
      refine p_iald X (dcg dc_X12_asks 52 rfl) hk40 (vp_of_inb hb39) ?_
      obtain ⟨hb41, hf⟩ := gd_some hf
      refine p_iast X (dcg dc_X12_asks 53 rfl) hk40 (vp_of_inb hb41) ?_
      obtain ⟨h42, rfl, hf⟩ := lt_some hf
      refine p_aload_n X (dcg dc_X12_asks 54 rfl) rfl rfl ?_
      refine p_getR X fl_X12_123 rfl (by decide) (dcg dc_X12_asks 55 rfl) hk30 ?_
      refine p_iload X (dcg dc_X12_asks 56 rfl) rfl ?_
      refine p_aload_n X (dcg dc_X12_asks 57 rfl) rfl rfl ?_
      refine p_getR X fl_X12_123 rfl (by decide) (dcg dc_X12_asks 58 rfl) hk30 ?_
      refine p_iload X (dcg dc_X12_asks 59 rfl) rfl ?_
      refine p_iconst (v := 1) X (dcg dc_X12_asks 60 rfl) (by decide) ?_
      refine p_isub X (dcg dc_X12_asks 61 rfl) ?_
      obtain ⟨a43, e44, hf⟩ := gs_some hf
      first | subst e44 | (try rw [e44])
      obtain ⟨⟨hk46, hb45⟩, hf⟩ := gd_some hf
      refine p_iald X (dcg dc_X12_asks 62 rfl) hk46 (vp_of_inb hb45) ?_
      obtain ⟨hb47, hf⟩ := gd_some hf
      refine p_iast X (dcg dc_X12_asks 63 rfl) hk46 (vp_of_inb hb47) ?_
      obtain ⟨h48, rfl, hf⟩ := lt_some hf
      refine p_iinc (v := -1) X (dcg dc_X12_asks 64 rfl) rfl (by decide) (by decide) rfl ?_
      refine p_goto (tgt := 58) X (dcg dc_X12_asks 65 rfl) (by decide) ?_
      refine p_pick [0, 1, 2, 3, 4] ?_
      exact k0 _ (Option.some.inj hf).symm
noncomputable def fX12_asks_l58 (v0 : Nat) (v1 : Int32) (v2 : Int32) (v3 : Int32) (v4 : Int32) (h : PH) : Option ((Int32 × PH) ⊕ (Int32 × PH)) := wh (fun z : (Int32 × PH) => fX12_asks_c58 v0 v1 v2 v3 (z.1) (z.2)) (v4, h)
set_option maxRecDepth 100000 in
theorem mX12_asks_l58 {v0 : Nat} {v1 : Int32} {v2 : Int32} {v3 : Int32} {v4 : Int32} {h : PH} {x : ((Int32 × PH) ⊕ (Int32 × PH))} (hf : fX12_asks_l58 v0 v1 v2 v3 v4 h = some x) : (∀ w9 : (Int32 × PH), x = .inl w9 → eqz h (hX (w9.2)) (hV (w9.2))) ∧ (∀ w9 : (Int32 × PH), x = .inr w9 → eqz h (hX w9.2) (hV w9.2)) := by
  unfold fX12_asks_l58 at hf
  refine wh_ind (P := fun z => (∀ w9 : (Int32 × PH), x = .inl w9 → eqz (z.2) (hX (w9.2)) (hV (w9.2))) ∧ (∀ w9 : (Int32 × PH), x = .inr w9 → eqz (z.2) (hX w9.2) (hV w9.2))) (fun z x0 hs i1 i2 => ?_) _ hf
  obtain ⟨c0, c1, cf⟩ := mX12_asks_c58 (v0 := v0) (v1 := v1) (v2 := v2) (v3 := v3) (v4 := z.1) (h := z.2) hs
  rcases hxx : x0 with zz | (zz | zz)
  · obtain ⟨d0, d1⟩ := (i1 zz hxx)
    exact ⟨fun z1 e1 => eqz_tr (c0 zz hxx) (d0 z1 e1), fun z1 e1 => eqz_tr (c0 zz hxx) (d1 z1 e1)⟩
  · have ee := i2 _ hxx; subst ee
    exact ⟨(fun z1 e1 => by cases e1 <;> exact c1 zz hxx), (fun z1 e1 => nomatch e1)⟩
  · have ee := i2 _ hxx; subst ee
    exact ⟨(fun z1 e1 => nomatch e1), (fun z1 e1 => by cases e1; exact cf zz hxx)⟩
set_option maxRecDepth 100000 in
theorem wX12_asks_l58 {E : PE} {p : Program} {l : Launch} {e : Env} {s : State} {m : MethodId} {args : Array Value} {below : List Frame} {meth : Method} {c : Code} (X : Cx E p l e (rmv 4 0 0) s m args below meth c RX12 cX12_asks 5 (some .int)) (hG : Gs E l) (hnm : meth.name = yX12_asks.name) {v0 : Nat} {v1 : Int32} {v2 : Int32} {v3 : Int32} {v4 : Int32} {h : PH} {r : (Int32 × PH)} {x : ((Int32 × PH) ⊕ (Int32 × PH))} (hf : fX12_asks_l58 v0 v1 v2 v3 v4 h = some x) (k0 : ∀ z : (Int32 × PH), x = .inl z → PW E p l e (rmv 4 0 0) s m args below meth c 5 0 0 (MQ below (QG E (fun v u => v = some (.int r.1) ∧ u = r.2)) args s 0 0 (pA E)) (z.2) 7 [(0, some (.ref v0)), (1, some (.int v1)), (2, some (.int (z.1)))] []) (kf : ∀ z : (Int32 × PH), x = .inr z → z = r) : PW E p l e (rmv 4 0 0) s m args below meth c 5 0 0 (MQ below (QG E (fun v u => v = some (.int r.1) ∧ u = r.2)) args s 0 0 (pA E)) h 58 [(0, some (.ref v0)), (1, some (.int v1)), (2, some (.int v2)), (3, some (.int v3)), (4, some (.int v4))] [] := by
  unfold fX12_asks_l58 at hf
  refine wh_ind (P := fun z => PW E p l e (rmv 4 0 0) s m args below meth c 5 0 0 (MQ below (QG E (fun v u => v = some (.int r.1) ∧ u = r.2)) args s 0 0 (pA E)) (z.2) 58 [(0, some (.ref v0)), (1, some (.int v1)), (2, some (.int v2)), (3, some (.int v3)), (4, some (.int (z.1)))] []) (fun z x0 hs i1 i2 => ?_) _ hf
  exact wX12_asks_c58 (r := r) (v0 := v0) (v1 := v1) (v2 := v2) (v3 := v3) (v4 := z.1) (h := z.2) X hG hnm hs i1 (fun z1 e1 => k0 z1 (i2 _ e1).symm) (fun z1 e1 => kf z1 (i2 _ e1).symm)
noncomputable def fX12_asks_c7 (v0 : Nat) (v1 : Int32) (v2 : Int32) (h : PH) : Option ((Int32 × PH) ⊕ (Int32 × PH)) :=
  if ((100 : Int32) ≤ v2) then (mr (gd (hK h v0 = 12) (some (((hI h 12 v0 51), h))))) else
  gd (hK h v0 = 12) (bd (fX12_satisfies v0 v1 v2 h) (fun z7 =>
  if (¬ z7.1 = 0) then (gd (hK z7.2 v0 = 12) (bd (fX12_score v0 v1 v2 z7.2) (fun z9 =>
  gd (hK z9.2 v0 = 12) (gs (hR z9.2 12 v0 48) (fun a11 =>
  gd (hK z9.2 a11 = 20 ∧ inb (hI z9.2 12 v0 51) (hN z9.2 a11)) (lt (sI z9.2 20 a11 (Int32.toNatClampNeg (hI z9.2 12 v0 51)) v2) (fun h15 =>
  lt (sI h15 12 v0 51 ((hI h15 12 v0 51) + (1 : Int32))) (fun h16 =>
  fX12_asks_l58 v0 v1 v2 z9.1 (hI h15 12 v0 51) h16)))))))) else
  fX12_asks_b130 v0 v1 v2 z7.2))
set_option maxRecDepth 100000 in
theorem mX12_asks_c7 {v0 : Nat} {v1 : Int32} {v2 : Int32} {h : PH} {x : ((Int32 × PH) ⊕ (Int32 × PH))} (hf : fX12_asks_c7 v0 v1 v2 h = some x) : (∀ w9 : (Int32 × PH), x = .inl w9 → eqz h (hX (w9.2)) (hV (w9.2))) ∧ (∀ w9 : (Int32 × PH), x = .inr w9 → eqz h (hX w9.2) (hV w9.2)) := by
  unfold fX12_asks_c7 at hf
  have hle := eqz_rf h
  rcases ite_or hf with ⟨q, hf⟩ | ⟨q, hf⟩
  · have hf := if_t q hf
    obtain ⟨y3, hfm, rfl⟩ := mr_some hf; have hf := hfm; clear hfm
    obtain ⟨hk5, hf⟩ := gd_some hf
    have ee := Option.some.inj hf; subst ee
    exact ⟨(fun z e => nomatch e), (fun z e => by have ee := Sum.inr.inj (e); subst ee; exact hle)⟩
  · have hf := if_f q hf
    obtain ⟨hk6, hf⟩ := gd_some hf
    obtain ⟨z7, hz7, hf⟩ := bd_some hf
    have hle := eqz_rt (mX12_satisfies hz7) hle
    rcases ite_or hf with ⟨q, hf⟩ | ⟨q, hf⟩
    · have hf := if_t q hf
      obtain ⟨hk8, hf⟩ := gd_some hf
      obtain ⟨z9, hz9, hf⟩ := bd_some hf
      have hle := eqz_rt (mX12_score hz9) hle
      obtain ⟨hk10, hf⟩ := gd_some hf
      obtain ⟨a11, e12, hf⟩ := gs_some hf
      obtain ⟨⟨hk14, hb13⟩, hf⟩ := gd_some hf
      obtain ⟨h15, rfl, hf⟩ := lt_some hf
      obtain ⟨h16, rfl, hf⟩ := lt_some hf
      obtain ⟨c0, cf⟩ := mX12_asks_l58 hf
      exact ⟨fun z e => eqz_rt (c0 z (e)) hle, fun z e => eqz_rt (cf z (e)) hle⟩
    · have hf := if_f q hf
      obtain ⟨c0, cf⟩ := mX12_asks_b130 hf
      exact ⟨fun z e => eqz_rt (c0 z (e)) hle, fun z e => eqz_rt (cf z (e)) hle⟩
set_option maxRecDepth 100000 in
theorem wX12_asks_c7 {E : PE} {p : Program} {l : Launch} {e : Env} {s : State} {m : MethodId} {args : Array Value} {below : List Frame} {meth : Method} {c : Code} (X : Cx E p l e (rmv 4 0 0) s m args below meth c RX12 cX12_asks 5 (some .int)) (hG : Gs E l) (hnm : meth.name = yX12_asks.name) {v0 : Nat} {v1 : Int32} {v2 : Int32} {h : PH} {r : (Int32 × PH)} {x : ((Int32 × PH) ⊕ (Int32 × PH))} (hf : fX12_asks_c7 v0 v1 v2 h = some x) (k0 : ∀ z : (Int32 × PH), x = .inl z → PW E p l e (rmv 4 0 0) s m args below meth c 5 0 0 (MQ below (QG E (fun v u => v = some (.int r.1) ∧ u = r.2)) args s 0 0 (pA E)) (z.2) 7 [(0, some (.ref v0)), (1, some (.int v1)), (2, some (.int (z.1)))] []) (kf : ∀ z : (Int32 × PH), x = .inr z → z = r) : PW E p l e (rmv 4 0 0) s m args below meth c 5 0 0 (MQ below (QG E (fun v u => v = some (.int r.1) ∧ u = r.2)) args s 0 0 (pA E)) h 7 [(0, some (.ref v0)), (1, some (.int v1)), (2, some (.int v2))] [] := by
  unfold fX12_asks_c7 at hf
  refine p_iload_n X (dcg dc_X12_asks 5 rfl) rfl rfl ?_
  refine p_bipush (v := 100) X (dcg dc_X12_asks 6 rfl) (by decide) ?_
  refine p_icmp_ge (tgt := 136) X (dcg dc_X12_asks 7 rfl) (by decide) (fun q => ?_) (fun q => ?_)
  · have hf := if_t q hf
    obtain ⟨y3, hf, hy4⟩ := mr_some hf
    have hy4f := kf y3 hy4
    subst hy4f
    refine p_aload_n X (dcg dc_X12_asks 78 rfl) rfl rfl ?_
    obtain ⟨hk5, hf⟩ := gd_some hf
    refine p_getI X fl_X12_346 rfl (by decide) (dcg dc_X12_asks 79 rfl) hk5 ?_
    have er := Option.some.inj hf
    subst er
    exact p_iret X rfl (dcg dc_X12_asks 80 rfl) ⟨rfl, rfl⟩ (Nat.le_refl _) (Nat.le_refl _)
  · have hf := if_f q hf
    refine p_aload_n X (dcg dc_X12_asks 8 rfl) rfl rfl ?_
    refine p_iload_n X (dcg dc_X12_asks 9 rfl) rfl rfl ?_
    refine p_iload_n X (dcg dc_X12_asks 10 rfl) rfl rfl ?_
    obtain ⟨hk6, hf⟩ := gd_some hf
    obtain ⟨z7, hz7, hf⟩ := bd_some hf
    refine p_callV (As := [_, _]) X ml_X12_179 (dcg dc_X12_asks 11 rfl) rfl rfl hk6 (wX12_satisfies hG hz7) (by decide) (room4 (Nat.le_of_ble_eq_true rfl)) (Nat.le_refl _) (Nat.le_refl _) ?_
    rintro _ u9 ⟨rfl, e9⟩; have e9 := e9.symm; subst e9
    refine p_if_ne (tgt := 25) X (dcg dc_X12_asks 12 rfl) (by decide) (fun q => ?_) (fun q => ?_)
    · have hf := if_t q hf
      refine p_aload_n X (dcg dc_X12_asks 14 rfl) rfl rfl ?_
      refine p_iload_n X (dcg dc_X12_asks 15 rfl) rfl rfl ?_
      refine p_iload_n X (dcg dc_X12_asks 16 rfl) rfl rfl ?_
      obtain ⟨hk8, hf⟩ := gd_some hf
      obtain ⟨z9, hz9, hf⟩ := bd_some hf
      refine p_callV (As := [_, _]) X ml_X12_349 (dcg dc_X12_asks 17 rfl) rfl rfl hk8 (wX12_score hG hz9) (by decide) (room4 (Nat.le_of_ble_eq_true rfl)) (Nat.le_refl _) (Nat.le_refl _) ?_
      rintro _ u9 ⟨rfl, e9⟩; have e9 := e9.symm; subst e9
      refine p_istore_n X (dcg dc_X12_asks 18 rfl) rfl (by decide) rfl ?_
      refine p_aload_n X (dcg dc_X12_asks 19 rfl) rfl rfl ?_
      obtain ⟨hk10, hf⟩ := gd_some hf
      refine p_getR X fl_X12_117 rfl (by decide) (dcg dc_X12_asks 20 rfl) hk10 ?_
      refine p_aload_n X (dcg dc_X12_asks 21 rfl) rfl rfl ?_
      refine p_getI X fl_X12_346 rfl (by decide) (dcg dc_X12_asks 22 rfl) hk10 ?_
      refine p_iload_n X (dcg dc_X12_asks 23 rfl) rfl rfl ?_
      obtain ⟨a11, e12, hf⟩ := gs_some hf
      first | subst e12 | (try rw [e12])
      obtain ⟨⟨hk14, hb13⟩, hf⟩ := gd_some hf
      refine p_iast X (dcg dc_X12_asks 24 rfl) hk14 (vp_of_inb hb13) ?_
      obtain ⟨h15, rfl, hf⟩ := lt_some hf
      refine p_aload_n X (dcg dc_X12_asks 25 rfl) rfl rfl ?_
      refine p_getI X fl_X12_346 rfl (by decide) (dcg dc_X12_asks 26 rfl) hk10 ?_
      refine p_istore X (dcg dc_X12_asks 27 rfl) (by decide) rfl ?_
      refine p_aload_n X (dcg dc_X12_asks 28 rfl) rfl rfl ?_
      refine p_dup X (dcg dc_X12_asks 29 rfl) rfl ?_
      refine p_getI X fl_X12_346 rfl (by decide) (dcg dc_X12_asks 30 rfl) hk10 ?_
      refine p_iconst (v := 1) X (dcg dc_X12_asks 31 rfl) (by decide) ?_
      refine p_iadd X (dcg dc_X12_asks 32 rfl) ?_
      refine p_putI X fl_X12_346 rfl (by decide) (fun q hq => by cases hq; rfl) rfl rfl (dcg dc_X12_asks 33 rfl) hk10 ?_
      obtain ⟨h16, rfl, hf⟩ := lt_some hf
      refine p_pick [0, 1, 2, 3, 4] ?_
      exact wX12_asks_l58 X hG hnm hf k0 kf
    · have hf := if_f q hf
      refine p_goto (tgt := 130) X (dcg dc_X12_asks 13 rfl) (by decide) ?_
      refine p_pick [0, 1, 2] ?_
      exact wX12_asks_b130 X hG hnm hf k0 kf
noncomputable def fX12_asks_l7 (v0 : Nat) (v1 : Int32) (v2 : Int32) (h : PH) : Option (Int32 × PH) := wh (fun z : (Int32 × PH) => fX12_asks_c7 v0 v1 (z.1) (z.2)) (v2, h)
set_option maxRecDepth 100000 in
theorem mX12_asks_l7 {v0 : Nat} {v1 : Int32} {v2 : Int32} {h : PH} {r : (Int32 × PH)} (hf : fX12_asks_l7 v0 v1 v2 h = some r) : eqz h (hX r.2) (hV r.2) := by
  unfold fX12_asks_l7 at hf
  refine wh_ind (P := fun z => eqz (z.2) (hX r.2) (hV r.2)) (fun z x0 hs i1 i2 => ?_) _ hf
  obtain ⟨c0, cf⟩ := mX12_asks_c7 (v0 := v0) (v1 := v1) (v2 := z.1) (h := z.2) hs
  rcases hxx : x0 with zz | zz
  · exact eqz_tr (c0 zz hxx) (i1 zz hxx)
  · have ee := i2 zz hxx; subst ee; exact cf zz hxx
set_option maxRecDepth 100000 in
theorem wX12_asks_l7 {E : PE} {p : Program} {l : Launch} {e : Env} {s : State} {m : MethodId} {args : Array Value} {below : List Frame} {meth : Method} {c : Code} (X : Cx E p l e (rmv 4 0 0) s m args below meth c RX12 cX12_asks 5 (some .int)) (hG : Gs E l) (hnm : meth.name = yX12_asks.name) {v0 : Nat} {v1 : Int32} {v2 : Int32} {h : PH} {r : (Int32 × PH)} (hf : fX12_asks_l7 v0 v1 v2 h = some r)  : PW E p l e (rmv 4 0 0) s m args below meth c 5 0 0 (MQ below (QG E (fun v u => v = some (.int r.1) ∧ u = r.2)) args s 0 0 (pA E)) h 7 [(0, some (.ref v0)), (1, some (.int v1)), (2, some (.int v2))] [] := by
  unfold fX12_asks_l7 at hf
  refine wh_ind (P := fun z => PW E p l e (rmv 4 0 0) s m args below meth c 5 0 0 (MQ below (QG E (fun v u => v = some (.int r.1) ∧ u = r.2)) args s 0 0 (pA E)) (z.2) 7 [(0, some (.ref v0)), (1, some (.int v1)), (2, some (.int (z.1)))] []) (fun z x0 hs i1 i2 => ?_) _ hf
  exact wX12_asks_c7 (r := r) (v0 := v0) (v1 := v1) (v2 := z.1) (h := z.2) X hG hnm hs i1  i2
noncomputable def fX12_asks (v0 : Nat) (v1 : Int32) (h : PH) : Option (Int32 × PH) :=
  gd (hK h v0 = 12) (lt (sI h 12 v0 51 (0 : Int32)) (fun h2 =>
  fX12_asks_l7 v0 v1 (0 : Int32) h2))
set_option maxRecDepth 100000 in
theorem mX12_asks {v0 : Nat} {v1 : Int32} {h : PH} {r : (Int32 × PH)} (hf : fX12_asks v0 v1 h = some r) : eqz h (hX r.2) (hV r.2) := by
  unfold fX12_asks at hf
  have hle := eqz_rf h
  obtain ⟨hk1, hf⟩ := gd_some hf
  obtain ⟨h2, rfl, hf⟩ := lt_some hf
  exact eqz_rt (mX12_asks_l7 hf) hle
set_option maxRecDepth 100000 in
theorem wX12_asks {E : PE} {l : Launch} (hG : Gs E l) {v0 : Nat} {v1 : Int32} {h : PH} {r : (Int32 × PH)} (hf : fX12_asks v0 v1 h = some r) : Ct E l 4 0 0 yX12_asks cX12_asks 5 (some .int) [.ref v0, .int v1] h (fun v u => v = some (.int r.1) ∧ u = r.2) := by
  refine ct_of hG (by decide) (Nat.le_of_ble_eq_true rfl) ?_
  intro p e s m args below meth c X hnm
  show PW E p l e _ s m args below meth c _ 0 0 _ h 0 [(0, some (.ref v0)), (1, some (.int v1))] []
  unfold fX12_asks at hf
  refine p_aload_n X (dcg dc_X12_asks 0 rfl) rfl rfl ?_
  refine p_iconst (v := 0) X (dcg dc_X12_asks 1 rfl) (by decide) ?_
  obtain ⟨hk1, hf⟩ := gd_some hf
  refine p_putI X fl_X12_346 rfl (by decide) (fun q hq => by cases hq; rfl) rfl rfl (dcg dc_X12_asks 2 rfl) hk1 ?_
  obtain ⟨h2, rfl, hf⟩ := lt_some hf
  refine p_iconst (v := 0) X (dcg dc_X12_asks 3 rfl) (by decide) ?_
  refine p_istore_n X (dcg dc_X12_asks 4 rfl) rfl (by decide) rfl ?_
  refine p_pick [0, 1, 2] ?_
  exact wX12_asks_l7 X hG hnm hf 
