/-! methods of the program (by program: wip/whole/gen2.py) -/
theorem dc_X12_ask : decs cX12_ask [(0, .aload_n 0, 1), (1, .iconst 0, 1), (2, .putfield 1, 3), (5, .aload_n 0, 1), (6, .aload_n 0, 1), (7, .invokevirtual 352, 3), (10, .iconst 1, 1), (11, .invokevirtual 156, 3), (14, .ifCond .eq 7, 3), (17, .iconst 0, 1), (18, .goto 9, 3), (21, .aload_n 0, 1), (22, .bipush 6, 2), (24, .invokevirtual 355, 3), (27, .ireturn, 1)] = true := by decide +kernel
noncomputable def fX12_ask_b27 (t0 : Int32) (h : PH) : Option (Int32 × PH) :=
  some ((t0, h))
set_option maxRecDepth 100000 in
theorem mX12_ask_b27 {t0 : Int32} {h : PH} {r : (Int32 × PH)} (hf : fX12_ask_b27 t0 h = some r) : eqz h (hX r.2) (hV r.2) := by
  unfold fX12_ask_b27 at hf
  have hle := eqz_rf h
  have ee := Option.some.inj hf; subst ee; exact hle
set_option maxRecDepth 100000 in
theorem wX12_ask_b27 {E : PE} {p : Program} {l : Launch} {e : Env} {s : State} {m : MethodId} {args : Array Value} {below : List Frame} {meth : Method} {c : Code} (X : Cx E p l e (rmv 6 0 0) s m args below meth c RX12 cX12_ask 1 (some .int)) (hG : Gs E l) (hnm : meth.name = yX12_ask.name) {t0 : Int32} {h : PH} {r : (Int32 × PH)} (hf : fX12_ask_b27 t0 h = some r)  : PW E p l e (rmv 6 0 0) s m args below meth c 1 0 0 (MQ below (QG E (fun v u => v = some (.int r.1) ∧ u = r.2)) args s 0 0 (pA E)) h 27 [] [.int t0] := by
  unfold fX12_ask_b27 at hf
  have er := Option.some.inj hf
  subst er
  exact p_iret X rfl (dcg dc_X12_ask 14 rfl) ⟨rfl, rfl⟩ (Nat.le_refl _) (Nat.le_refl _)
noncomputable def fX12_ask (v0 : Nat) (h : PH) : Option (Int32 × PH) :=
  gd (hK h v0 = 12) (lt (sI h 12 v0 0 (0 : Int32)) (fun h2 =>
  bd (fX12_readsQuery v0 h2) (fun z3 =>
  gd (hK z3.2 v0 = 12) (bd (fX12_fails v0 z3.1 (1 : Int32) z3.2) (fun z5 =>
  if (z5.1 = 0) then (gd (hK z5.2 v0 = 12) (bd (fX12_asks v0 (6 : Int32) z5.2) (fun z7 =>
  fX12_ask_b27 z7.1 z7.2))) else
  fX12_ask_b27 (0 : Int32) z5.2)))))
set_option maxRecDepth 100000 in
theorem mX12_ask {v0 : Nat} {h : PH} {r : (Int32 × PH)} (hf : fX12_ask v0 h = some r) : eqz h (hX r.2) (hV r.2) := by
  unfold fX12_ask at hf
  have hle := eqz_rf h
  obtain ⟨hk1, hf⟩ := gd_some hf
  obtain ⟨h2, rfl, hf⟩ := lt_some hf
  obtain ⟨z3, hz3, hf⟩ := bd_some hf
  have hle := eqz_rt (mX12_readsQuery hz3) hle
  obtain ⟨hk4, hf⟩ := gd_some hf
  obtain ⟨z5, hz5, hf⟩ := bd_some hf
  have hle := eqz_rt (mX12_fails hz5) hle
  rcases ite_or hf with ⟨q, hf⟩ | ⟨q, hf⟩
  · have hf := if_t q hf
    obtain ⟨hk6, hf⟩ := gd_some hf
    obtain ⟨z7, hz7, hf⟩ := bd_some hf
    have hle := eqz_rt (mX12_asks hz7) hle
    exact eqz_rt (mX12_ask_b27 hf) hle
  · have hf := if_f q hf
    exact eqz_rt (mX12_ask_b27 hf) hle
set_option maxRecDepth 100000 in
theorem wX12_ask {E : PE} {l : Launch} (hG : Gs E l) {v0 : Nat} {h : PH} {r : (Int32 × PH)} (hf : fX12_ask v0 h = some r) : Ct E l 6 0 0 yX12_ask cX12_ask 1 (some .int) [.ref v0] h (fun v u => v = some (.int r.1) ∧ u = r.2) := by
  refine ct_of hG (by decide) (Nat.le_of_ble_eq_true rfl) ?_
  intro p e s m args below meth c X hnm
  show PW E p l e _ s m args below meth c _ 0 0 _ h 0 [(0, some (.ref v0))] []
  unfold fX12_ask at hf
  refine p_aload_n X (dcg dc_X12_ask 0 rfl) rfl rfl ?_
  refine p_iconst (v := 0) X (dcg dc_X12_ask 1 rfl) (by decide) ?_
  obtain ⟨hk1, hf⟩ := gd_some hf
  refine p_putI X fl_X12_1 rfl (by decide) (fun q hq => by cases hq; rfl) rfl rfl (dcg dc_X12_ask 2 rfl) hk1 ?_
  obtain ⟨h2, rfl, hf⟩ := lt_some hf
  refine p_aload_n X (dcg dc_X12_ask 3 rfl) rfl rfl ?_
  refine p_aload_n X (dcg dc_X12_ask 4 rfl) rfl rfl ?_
  obtain ⟨z3, hz3, hf⟩ := bd_some hf
  refine p_callV (As := []) X ml_X12_352 (dcg dc_X12_ask 5 rfl) rfl rfl hk1 (wX12_readsQuery hG hz3) (by decide) (room4 (Nat.le_of_ble_eq_true rfl)) (Nat.le_refl _) (Nat.le_refl _) ?_
  rintro _ u9 ⟨rfl, e9⟩; have e9 := e9.symm; subst e9
  refine p_iconst (v := 1) X (dcg dc_X12_ask 6 rfl) (by decide) ?_
  obtain ⟨hk4, hf⟩ := gd_some hf
  obtain ⟨z5, hz5, hf⟩ := bd_some hf
  refine p_callV (As := [_, _]) X ml_X12_156 (dcg dc_X12_ask 7 rfl) rfl rfl hk4 (wX12_fails hG hz5) (by decide) (room4 (Nat.le_of_ble_eq_true rfl)) (Nat.le_refl _) (Nat.le_refl _) ?_
  rintro _ u9 ⟨rfl, e9⟩; have e9 := e9.symm; subst e9
  refine p_if_eq (tgt := 21) X (dcg dc_X12_ask 8 rfl) (by decide) (fun q => ?_) (fun q => ?_)
  · have hf := if_t q hf
    refine p_aload_n X (dcg dc_X12_ask 11 rfl) rfl rfl ?_
    refine p_bipush (v := 6) X (dcg dc_X12_ask 12 rfl) (by decide) ?_
    obtain ⟨hk6, hf⟩ := gd_some hf
    obtain ⟨z7, hz7, hf⟩ := bd_some hf
    refine p_callV (As := [_]) X ml_X12_355 (dcg dc_X12_ask 13 rfl) rfl rfl hk6 (wX12_asks hG hz7) (by decide) (room4 (Nat.le_of_ble_eq_true rfl)) (Nat.le_refl _) (Nat.le_refl _) ?_
    rintro _ u9 ⟨rfl, e9⟩; have e9 := e9.symm; subst e9
    refine p_pick [] ?_
    exact wX12_ask_b27 X hG hnm hf 
  · have hf := if_f q hf
    refine p_iconst (v := 0) X (dcg dc_X12_ask 9 rfl) (by decide) ?_
    refine p_goto (tgt := 27) X (dcg dc_X12_ask 10 rfl) (by decide) ?_
    refine p_pick [] ?_
    exact wX12_ask_b27 X hG hnm hf 
theorem dc_X12_noQuery : decs cX12_noQuery [(0, .aload_n 0, 1), (1, .iload_n 1, 1), (2, .iconst 0, 1), (3, .iconst 5, 1), (4, .invokestatic 148, 3), (7, .iconst 1, 1), (8, .invokevirtual 156, 3), (11, .ireturn, 1)] = true := by decide +kernel
noncomputable def fX12_noQuery (v0 : Nat) (v1 : Int32) (h : PH) : Option (Int32 × PH) :=
  bd (fX12_in v1 (0 : Int32) (5 : Int32)) (fun z1 =>
  gd (hK h v0 = 12) (bd (fX12_fails v0 z1 (1 : Int32) h) (fun z3 =>
  gd (z3.1 &&& 1 = z3.1) (some ((z3.1, z3.2))))))
set_option maxRecDepth 100000 in
theorem mX12_noQuery {v0 : Nat} {v1 : Int32} {h : PH} {r : (Int32 × PH)} (hf : fX12_noQuery v0 v1 h = some r) : eqz h (hX r.2) (hV r.2) := by
  unfold fX12_noQuery at hf
  have hle := eqz_rf h
  obtain ⟨z1, hz1, hf⟩ := bd_some hf
  obtain ⟨hk2, hf⟩ := gd_some hf
  obtain ⟨z3, hz3, hf⟩ := bd_some hf
  have hle := eqz_rt (mX12_fails hz3) hle
  obtain ⟨hg4, hf⟩ := gd_some hf
  have ee := Option.some.inj hf; subst ee; exact hle
set_option maxRecDepth 100000 in
theorem wX12_noQuery {E : PE} {l : Launch} (hG : Gs E l) {v0 : Nat} {v1 : Int32} {h : PH} {r : (Int32 × PH)} (hf : fX12_noQuery v0 v1 h = some r) : Ct E l 1 0 0 yX12_noQuery cX12_noQuery 2 (some .boolean) [.ref v0, .int v1] h (fun v u => v = some (.int r.1) ∧ u = r.2) := by
  refine ct_of hG (by decide) (Nat.le_of_ble_eq_true rfl) ?_
  intro p e s m args below meth c X hnm
  show PW E p l e _ s m args below meth c _ 0 0 _ h 0 [(0, some (.ref v0)), (1, some (.int v1))] []
  unfold fX12_noQuery at hf
  refine p_aload_n X (dcg dc_X12_noQuery 0 rfl) rfl rfl ?_
  refine p_iload_n X (dcg dc_X12_noQuery 1 rfl) rfl rfl ?_
  refine p_iconst (v := 0) X (dcg dc_X12_noQuery 2 rfl) (by decide) ?_
  refine p_iconst (v := 5) X (dcg dc_X12_noQuery 3 rfl) (by decide) ?_
  obtain ⟨z1, hz1, hf⟩ := bd_some hf
  refine p_callS (As := [_, _, _]) X ml_X12_148 (dcg dc_X12_noQuery 4 rfl) rfl rfl  (wX12_in hG hz1) (by decide) (room4 (Nat.le_of_ble_eq_true rfl)) (Nat.le_refl _) (Nat.le_refl _) ?_
  rintro _ u9 ⟨rfl, e9⟩; have e9 := e9.symm; subst e9
  refine p_iconst (v := 1) X (dcg dc_X12_noQuery 5 rfl) (by decide) ?_
  obtain ⟨hk2, hf⟩ := gd_some hf
  obtain ⟨z3, hz3, hf⟩ := bd_some hf
  refine p_callV (As := [_, _]) X ml_X12_156 (dcg dc_X12_noQuery 6 rfl) rfl rfl hk2 (wX12_fails hG hz3) (by decide) (room4 (Nat.le_of_ble_eq_true rfl)) (Nat.le_refl _) (Nat.le_refl _) ?_
  rintro _ u9 ⟨rfl, e9⟩; have e9 := e9.symm; subst e9
  obtain ⟨hg4, hf⟩ := gd_some hf
  have er := Option.some.inj hf
  subst er
  exact p_zret X rfl (congrArg Value.int hg4) (dcg dc_X12_noQuery 7 rfl) ⟨rfl, rfl⟩ (Nat.le_refl _) (Nat.le_refl _)
theorem dc_X12_noKept : decs cX12_noKept [(0, .aload_n 0, 1), (1, .iload_n 1, 1), (2, .invokevirtual 358, 3), (5, .ifCond .ne 26, 3), (8, .aload_n 0, 1), (9, .aload_n 0, 1), (10, .getfield 87, 3), (13, .iload_n 1, 1), (14, .iaload, 1), (15, .iconst (-1), 1), (16, .if_icmp .eq 7, 3), (19, .iconst 1, 1), (20, .goto 4, 3), (23, .iconst 0, 1), (24, .iconst 2, 1), (25, .invokevirtual 156, 3), (28, .ifCond .eq 7, 3), (31, .iconst 1, 1), (32, .goto 4, 3), (35, .iconst 0, 1), (36, .ireturn, 1)] = true := by decide +kernel
noncomputable def fX12_noKept_b36 (t0 : Int32) (h : PH) : Option (Int32 × PH) :=
  gd (t0 &&& 1 = t0) (some ((t0, h)))
set_option maxRecDepth 100000 in
theorem mX12_noKept_b36 {t0 : Int32} {h : PH} {r : (Int32 × PH)} (hf : fX12_noKept_b36 t0 h = some r) : eqz h (hX r.2) (hV r.2) := by
  unfold fX12_noKept_b36 at hf
  have hle := eqz_rf h
  obtain ⟨hg3, hf⟩ := gd_some hf
  have ee := Option.some.inj hf; subst ee; exact hle
set_option maxRecDepth 100000 in
theorem wX12_noKept_b36 {E : PE} {p : Program} {l : Launch} {e : Env} {s : State} {m : MethodId} {args : Array Value} {below : List Frame} {meth : Method} {c : Code} (X : Cx E p l e (rmv 2 0 0) s m args below meth c RX12 cX12_noKept 2 (some .boolean)) (hG : Gs E l) (hnm : meth.name = yX12_noKept.name) {t0 : Int32} {h : PH} {r : (Int32 × PH)} (hf : fX12_noKept_b36 t0 h = some r)  : PW E p l e (rmv 2 0 0) s m args below meth c 2 0 0 (MQ below (QG E (fun v u => v = some (.int r.1) ∧ u = r.2)) args s 0 0 (pA E)) h 36 [] [.int t0] := by
  unfold fX12_noKept_b36 at hf
  obtain ⟨hg3, hf⟩ := gd_some hf
  have er := Option.some.inj hf
  subst er
  exact p_zret X rfl (congrArg Value.int hg3) (dcg dc_X12_noKept 20 rfl) ⟨rfl, rfl⟩ (Nat.le_refl _) (Nat.le_refl _)
noncomputable def fX12_noKept_b31  (h : PH) : Option (Int32 × PH) :=
  fX12_noKept_b36 (1 : Int32) h
set_option maxRecDepth 100000 in
theorem mX12_noKept_b31  {h : PH} {r : (Int32 × PH)} (hf : fX12_noKept_b31  h = some r) : eqz h (hX r.2) (hV r.2) := by
  unfold fX12_noKept_b31 at hf
  have hle := eqz_rf h
  exact eqz_rt (mX12_noKept_b36 hf) hle
set_option maxRecDepth 100000 in
theorem wX12_noKept_b31 {E : PE} {p : Program} {l : Launch} {e : Env} {s : State} {m : MethodId} {args : Array Value} {below : List Frame} {meth : Method} {c : Code} (X : Cx E p l e (rmv 2 0 0) s m args below meth c RX12 cX12_noKept 2 (some .boolean)) (hG : Gs E l) (hnm : meth.name = yX12_noKept.name)  {h : PH} {r : (Int32 × PH)} (hf : fX12_noKept_b31  h = some r)  : PW E p l e (rmv 2 0 0) s m args below meth c 2 0 0 (MQ below (QG E (fun v u => v = some (.int r.1) ∧ u = r.2)) args s 0 0 (pA E)) h 31 [] [] := by
  unfold fX12_noKept_b31 at hf
  refine p_iconst (v := 1) X (dcg dc_X12_noKept 17 rfl) (by decide) ?_
  refine p_goto (tgt := 36) X (dcg dc_X12_noKept 18 rfl) (by decide) ?_
  refine p_pick [] ?_
  exact wX12_noKept_b36 X hG hnm hf 
noncomputable def fX12_noKept_b24 (t0 : Option Nat) (t1 : Int32) (h : PH) : Option (Int32 × PH) :=
  gs t0 (fun a9 =>
  gd (hK h a9 = 12) (bd (fX12_fails a9 t1 (2 : Int32) h) (fun z12 =>
  if (z12.1 = 0) then (fX12_noKept_b36 (0 : Int32) z12.2) else
  fX12_noKept_b31  z12.2)))
set_option maxRecDepth 100000 in
theorem mX12_noKept_b24 {t0 : Option Nat} {t1 : Int32} {h : PH} {r : (Int32 × PH)} (hf : fX12_noKept_b24 t0 t1 h = some r) : eqz h (hX r.2) (hV r.2) := by
  unfold fX12_noKept_b24 at hf
  have hle := eqz_rf h
  obtain ⟨a9, e10, hf⟩ := gs_some hf
  obtain ⟨hk11, hf⟩ := gd_some hf
  obtain ⟨z12, hz12, hf⟩ := bd_some hf
  have hle := eqz_rt (mX12_fails hz12) hle
  rcases ite_or hf with ⟨q, hf⟩ | ⟨q, hf⟩
  · have hf := if_t q hf
    exact eqz_rt (mX12_noKept_b36 hf) hle
  · have hf := if_f q hf
    exact eqz_rt (mX12_noKept_b31 hf) hle
set_option maxRecDepth 100000 in
theorem wX12_noKept_b24 {E : PE} {p : Program} {l : Launch} {e : Env} {s : State} {m : MethodId} {args : Array Value} {below : List Frame} {meth : Method} {c : Code} (X : Cx E p l e (rmv 2 0 0) s m args below meth c RX12 cX12_noKept 2 (some .boolean)) (hG : Gs E l) (hnm : meth.name = yX12_noKept.name) {t0 : Option Nat} {t1 : Int32} {h : PH} {r : (Int32 × PH)} (hf : fX12_noKept_b24 t0 t1 h = some r)  : PW E p l e (rmv 2 0 0) s m args below meth c 2 0 0 (MQ below (QG E (fun v u => v = some (.int r.1) ∧ u = r.2)) args s 0 0 (pA E)) h 24 [] [.int t1, va_rf t0] := by
  unfold fX12_noKept_b24 at hf
  refine p_iconst (v := 2) X (dcg dc_X12_noKept 14 rfl) (by decide) ?_
  obtain ⟨a9, e10, hf⟩ := gs_some hf
  first | subst e10 | (try rw [e10])
  obtain ⟨hk11, hf⟩ := gd_some hf
  obtain ⟨z12, hz12, hf⟩ := bd_some hf
  refine p_callV (As := [_, _]) X ml_X12_156 (dcg dc_X12_noKept 15 rfl) rfl rfl hk11 (wX12_fails hG hz12) (by decide) (room4 (Nat.le_of_ble_eq_true rfl)) (Nat.le_refl _) (Nat.le_refl _) ?_
  rintro _ u9 ⟨rfl, e9⟩; have e9 := e9.symm; subst e9
  refine p_if_eq (tgt := 35) X (dcg dc_X12_noKept 16 rfl) (by decide) (fun q => ?_) (fun q => ?_)
  · have hf := if_t q hf
    refine p_iconst (v := 0) X (dcg dc_X12_noKept 19 rfl) (by decide) ?_
    refine p_pick [] ?_
    exact wX12_noKept_b36 X hG hnm hf 
  · have hf := if_f q hf
    refine p_pick [] ?_
    exact wX12_noKept_b31 X hG hnm hf 
noncomputable def fX12_noKept (v0 : Nat) (v1 : Int32) (h : PH) : Option (Int32 × PH) :=
  gd (hK h v0 = 12) (bd (fX12_noQuery v0 v1 h) (fun z2 =>
  if (¬ z2.1 = 0) then (fX12_noKept_b31  z2.2) else
  gd (hK z2.2 v0 = 12) (gs (hR z2.2 12 v0 34) (fun a5 =>
  gd (hK z2.2 a5 = 20 ∧ inb v1 (hN z2.2 a5)) (if ((hI z2.2 20 a5 (Int32.toNatClampNeg v1)) = (-1 : Int32)) then (fX12_noKept_b24 (some v0) (0 : Int32) z2.2) else
  fX12_noKept_b24 (some v0) (1 : Int32) z2.2)))))
set_option maxRecDepth 100000 in
theorem mX12_noKept {v0 : Nat} {v1 : Int32} {h : PH} {r : (Int32 × PH)} (hf : fX12_noKept v0 v1 h = some r) : eqz h (hX r.2) (hV r.2) := by
  unfold fX12_noKept at hf
  have hle := eqz_rf h
  obtain ⟨hk1, hf⟩ := gd_some hf
  obtain ⟨z2, hz2, hf⟩ := bd_some hf
  have hle := eqz_rt (mX12_noQuery hz2) hle
  rcases ite_or hf with ⟨q, hf⟩ | ⟨q, hf⟩
  · have hf := if_t q hf
    exact eqz_rt (mX12_noKept_b31 hf) hle
  · have hf := if_f q hf
    obtain ⟨hk4, hf⟩ := gd_some hf
    obtain ⟨a5, e6, hf⟩ := gs_some hf
    obtain ⟨⟨hk8, hb7⟩, hf⟩ := gd_some hf
    rcases ite_or hf with ⟨q, hf⟩ | ⟨q, hf⟩
    · have hf := if_t q hf
      exact eqz_rt (mX12_noKept_b24 hf) hle
    · have hf := if_f q hf
      exact eqz_rt (mX12_noKept_b24 hf) hle
set_option maxRecDepth 100000 in
theorem wX12_noKept {E : PE} {l : Launch} (hG : Gs E l) {v0 : Nat} {v1 : Int32} {h : PH} {r : (Int32 × PH)} (hf : fX12_noKept v0 v1 h = some r) : Ct E l 2 0 0 yX12_noKept cX12_noKept 2 (some .boolean) [.ref v0, .int v1] h (fun v u => v = some (.int r.1) ∧ u = r.2) := by
  refine ct_of hG (by decide) (Nat.le_of_ble_eq_true rfl) ?_
  intro p e s m args below meth c X hnm
  show PW E p l e _ s m args below meth c _ 0 0 _ h 0 [(0, some (.ref v0)), (1, some (.int v1))] []
  unfold fX12_noKept at hf
  refine p_aload_n X (dcg dc_X12_noKept 0 rfl) rfl rfl ?_
  refine p_iload_n X (dcg dc_X12_noKept 1 rfl) rfl rfl ?_
  obtain ⟨hk1, hf⟩ := gd_some hf
  obtain ⟨z2, hz2, hf⟩ := bd_some hf
  refine p_callV (As := [_]) X ml_X12_358 (dcg dc_X12_noKept 2 rfl) rfl rfl hk1 (wX12_noQuery hG hz2) (by decide) (room4 (Nat.le_of_ble_eq_true rfl)) (Nat.le_refl _) (Nat.le_refl _) ?_
  rintro _ u9 ⟨rfl, e9⟩; have e9 := e9.symm; subst e9
  refine p_if_ne (tgt := 31) X (dcg dc_X12_noKept 3 rfl) (by decide) (fun q => ?_) (fun q => ?_)
  · have hf := if_t q hf
    refine p_pick [] ?_
    exact wX12_noKept_b31 X hG hnm hf 
  · have hf := if_f q hf
    refine p_aload_n X (dcg dc_X12_noKept 4 rfl) rfl rfl ?_
    refine p_aload_n X (dcg dc_X12_noKept 5 rfl) rfl rfl ?_
    obtain ⟨hk4, hf⟩ := gd_some hf
    refine p_getR X fl_X12_87 rfl (by decide) (dcg dc_X12_noKept 6 rfl) hk4 ?_
    refine p_iload_n X (dcg dc_X12_noKept 7 rfl) rfl rfl ?_
    obtain ⟨a5, e6, hf⟩ := gs_some hf
    first | subst e6 | (try rw [e6])
    obtain ⟨⟨hk8, hb7⟩, hf⟩ := gd_some hf
    refine p_iald X (dcg dc_X12_noKept 8 rfl) hk8 (vp_of_inb hb7) ?_
    refine p_iconst (v := -1) X (dcg dc_X12_noKept 9 rfl) (by decide) ?_
    refine p_icmp_eq (tgt := 23) X (dcg dc_X12_noKept 10 rfl) (by decide) (fun q => ?_) (fun q => ?_)
    · have hf := if_t q hf
      refine p_iconst (v := 0) X (dcg dc_X12_noKept 13 rfl) (by decide) ?_
      refine p_pick [] ?_
      exact wX12_noKept_b24 X hG hnm hf 
    · have hf := if_f q hf
      refine p_iconst (v := 1) X (dcg dc_X12_noKept 11 rfl) (by decide) ?_
      refine p_goto (tgt := 24) X (dcg dc_X12_noKept 12 rfl) (by decide) ?_
      refine p_pick [] ?_
      exact wX12_noKept_b24 X hG hnm hf 
theorem dc_X12_askKept : decs cX12_askKept [(0, .aload_n 0, 1), (1, .iconst 0, 1), (2, .putfield 1, 3), (5, .aload_n 0, 1), (6, .iload_n 1, 1), (7, .invokevirtual 361, 3), (10, .ifCond .eq 7, 3), (13, .iconst 0, 1), (14, .goto 8, 3), (17, .aload_n 0, 1), (18, .iload_n 1, 1), (19, .invokevirtual 355, 3), (22, .ireturn, 1)] = true := by decide +kernel
noncomputable def fX12_askKept_b22 (t0 : Int32) (h : PH) : Option (Int32 × PH) :=
  some ((t0, h))
set_option maxRecDepth 100000 in
theorem mX12_askKept_b22 {t0 : Int32} {h : PH} {r : (Int32 × PH)} (hf : fX12_askKept_b22 t0 h = some r) : eqz h (hX r.2) (hV r.2) := by
  unfold fX12_askKept_b22 at hf
  have hle := eqz_rf h
  have ee := Option.some.inj hf; subst ee; exact hle
set_option maxRecDepth 100000 in
theorem wX12_askKept_b22 {E : PE} {p : Program} {l : Launch} {e : Env} {s : State} {m : MethodId} {args : Array Value} {below : List Frame} {meth : Method} {c : Code} (X : Cx E p l e (rmv 5 0 0) s m args below meth c RX12 cX12_askKept 2 (some .int)) (hG : Gs E l) (hnm : meth.name = yX12_askKept.name) {t0 : Int32} {h : PH} {r : (Int32 × PH)} (hf : fX12_askKept_b22 t0 h = some r)  : PW E p l e (rmv 5 0 0) s m args below meth c 2 0 0 (MQ below (QG E (fun v u => v = some (.int r.1) ∧ u = r.2)) args s 0 0 (pA E)) h 22 [] [.int t0] := by
  unfold fX12_askKept_b22 at hf
  have er := Option.some.inj hf
  subst er
  exact p_iret X rfl (dcg dc_X12_askKept 12 rfl) ⟨rfl, rfl⟩ (Nat.le_refl _) (Nat.le_refl _)
noncomputable def fX12_askKept (v0 : Nat) (v1 : Int32) (h : PH) : Option (Int32 × PH) :=
  gd (hK h v0 = 12) (lt (sI h 12 v0 0 (0 : Int32)) (fun h2 =>
  bd (fX12_noKept v0 v1 h2) (fun z3 =>
  if (z3.1 = 0) then (gd (hK z3.2 v0 = 12) (bd (fX12_asks v0 v1 z3.2) (fun z5 =>
  fX12_askKept_b22 z5.1 z5.2))) else
  fX12_askKept_b22 (0 : Int32) z3.2)))
set_option maxRecDepth 100000 in
theorem mX12_askKept {v0 : Nat} {v1 : Int32} {h : PH} {r : (Int32 × PH)} (hf : fX12_askKept v0 v1 h = some r) : eqz h (hX r.2) (hV r.2) := by
  unfold fX12_askKept at hf
  have hle := eqz_rf h
  obtain ⟨hk1, hf⟩ := gd_some hf
  obtain ⟨h2, rfl, hf⟩ := lt_some hf
  obtain ⟨z3, hz3, hf⟩ := bd_some hf
  have hle := eqz_rt (mX12_noKept hz3) hle
  rcases ite_or hf with ⟨q, hf⟩ | ⟨q, hf⟩
  · have hf := if_t q hf
    obtain ⟨hk4, hf⟩ := gd_some hf
    obtain ⟨z5, hz5, hf⟩ := bd_some hf
    have hle := eqz_rt (mX12_asks hz5) hle
    exact eqz_rt (mX12_askKept_b22 hf) hle
  · have hf := if_f q hf
    exact eqz_rt (mX12_askKept_b22 hf) hle
set_option maxRecDepth 100000 in
theorem wX12_askKept {E : PE} {l : Launch} (hG : Gs E l) {v0 : Nat} {v1 : Int32} {h : PH} {r : (Int32 × PH)} (hf : fX12_askKept v0 v1 h = some r) : Ct E l 5 0 0 yX12_askKept cX12_askKept 2 (some .int) [.ref v0, .int v1] h (fun v u => v = some (.int r.1) ∧ u = r.2) := by
  refine ct_of hG (by decide) (Nat.le_of_ble_eq_true rfl) ?_
  intro p e s m args below meth c X hnm
  show PW E p l e _ s m args below meth c _ 0 0 _ h 0 [(0, some (.ref v0)), (1, some (.int v1))] []
  unfold fX12_askKept at hf
  refine p_aload_n X (dcg dc_X12_askKept 0 rfl) rfl rfl ?_
  refine p_iconst (v := 0) X (dcg dc_X12_askKept 1 rfl) (by decide) ?_
  obtain ⟨hk1, hf⟩ := gd_some hf
  refine p_putI X fl_X12_1 rfl (by decide) (fun q hq => by cases hq; rfl) rfl rfl (dcg dc_X12_askKept 2 rfl) hk1 ?_
  obtain ⟨h2, rfl, hf⟩ := lt_some hf
  refine p_aload_n X (dcg dc_X12_askKept 3 rfl) rfl rfl ?_
  refine p_iload_n X (dcg dc_X12_askKept 4 rfl) rfl rfl ?_
  obtain ⟨z3, hz3, hf⟩ := bd_some hf
  refine p_callV (As := [_]) X ml_X12_361 (dcg dc_X12_askKept 5 rfl) rfl rfl hk1 (wX12_noKept hG hz3) (by decide) (room4 (Nat.le_of_ble_eq_true rfl)) (Nat.le_refl _) (Nat.le_refl _) ?_
  rintro _ u9 ⟨rfl, e9⟩; have e9 := e9.symm; subst e9
  refine p_if_eq (tgt := 17) X (dcg dc_X12_askKept 6 rfl) (by decide) (fun q => ?_) (fun q => ?_)
  · have hf := if_t q hf
    refine p_aload_n X (dcg dc_X12_askKept 9 rfl) rfl rfl ?_
    refine p_iload_n X (dcg dc_X12_askKept 10 rfl) rfl rfl ?_
    obtain ⟨hk4, hf⟩ := gd_some hf
    obtain ⟨z5, hz5, hf⟩ := bd_some hf
    refine p_callV (As := [_]) X ml_X12_355 (dcg dc_X12_askKept 11 rfl) rfl rfl hk4 (wX12_asks hG hz5) (by decide) (room4 (Nat.le_of_ble_eq_true rfl)) (Nat.le_refl _) (Nat.le_refl _) ?_
    rintro _ u9 ⟨rfl, e9⟩; have e9 := e9.symm; subst e9
    refine p_pick [] ?_
    exact wX12_askKept_b22 X hG hnm hf 
  · have hf := if_f q hf
    refine p_iconst (v := 0) X (dcg dc_X12_askKept 7 rfl) (by decide) ?_
    refine p_goto (tgt := 22) X (dcg dc_X12_askKept 8 rfl) (by decide) ?_
    refine p_pick [] ?_
    exact wX12_askKept_b22 X hG hnm hf 
theorem dc_X12_foundAt : decs cX12_foundAt [(0, .aload_n 0, 1), (1, .iconst 0, 1), (2, .putfield 1, 3), (5, .iload_n 1, 1), (6, .iconst 0, 1), (7, .aload_n 0, 1), (8, .getfield 346, 3), (11, .iconst 1, 1), (12, .isub, 1), (13, .invokestatic 148, 3), (16, .ifCond .eq 12, 3), (19, .aload_n 0, 1), (20, .getfield 117, 3), (23, .iload_n 1, 1), (24, .iaload, 1), (25, .goto 4, 3), (28, .iconst (-1), 1), (29, .ireturn, 1)] = true := by decide +kernel
noncomputable def fX12_foundAt_b29 (t0 : Int32) (h : PH) : Option (Int32 × PH) :=
  some ((t0, h))
set_option maxRecDepth 100000 in
theorem mX12_foundAt_b29 {t0 : Int32} {h : PH} {r : (Int32 × PH)} (hf : fX12_foundAt_b29 t0 h = some r) : eqz h (hX r.2) (hV r.2) := by
  unfold fX12_foundAt_b29 at hf
  have hle := eqz_rf h
  have ee := Option.some.inj hf; subst ee; exact hle
set_option maxRecDepth 100000 in
theorem wX12_foundAt_b29 {E : PE} {p : Program} {l : Launch} {e : Env} {s : State} {m : MethodId} {args : Array Value} {below : List Frame} {meth : Method} {c : Code} (X : Cx E p l e (rmv 1 0 0) s m args below meth c RX12 cX12_foundAt 2 (some .int)) (hG : Gs E l) (hnm : meth.name = yX12_foundAt.name) {t0 : Int32} {h : PH} {r : (Int32 × PH)} (hf : fX12_foundAt_b29 t0 h = some r)  : PW E p l e (rmv 1 0 0) s m args below meth c 2 0 0 (MQ below (QG E (fun v u => v = some (.int r.1) ∧ u = r.2)) args s 0 0 (pA E)) h 29 [] [.int t0] := by
  unfold fX12_foundAt_b29 at hf
  have er := Option.some.inj hf
  subst er
  exact p_iret X rfl (dcg dc_X12_foundAt 17 rfl) ⟨rfl, rfl⟩ (Nat.le_refl _) (Nat.le_refl _)
noncomputable def fX12_foundAt (v0 : Nat) (v1 : Int32) (h : PH) : Option (Int32 × PH) :=
  gd (hK h v0 = 12) (lt (sI h 12 v0 0 (0 : Int32)) (fun h2 =>
  bd (fX12_in v1 (0 : Int32) ((hI h2 12 v0 51) - (1 : Int32))) (fun z3 =>
  if (z3 = 0) then (fX12_foundAt_b29 (-1 : Int32) h2) else
  gs (hR h2 12 v0 48) (fun a4 =>
  gd (hK h2 a4 = 20 ∧ inb v1 (hN h2 a4)) (fX12_foundAt_b29 (hI h2 20 a4 (Int32.toNatClampNeg v1)) h2)))))
set_option maxRecDepth 100000 in
theorem mX12_foundAt {v0 : Nat} {v1 : Int32} {h : PH} {r : (Int32 × PH)} (hf : fX12_foundAt v0 v1 h = some r) : eqz h (hX r.2) (hV r.2) := by
  unfold fX12_foundAt at hf
  have hle := eqz_rf h
  obtain ⟨hk1, hf⟩ := gd_some hf
  obtain ⟨h2, rfl, hf⟩ := lt_some hf
  obtain ⟨z3, hz3, hf⟩ := bd_some hf
  rcases ite_or hf with ⟨q, hf⟩ | ⟨q, hf⟩
  · have hf := if_t q hf
    exact eqz_rt (mX12_foundAt_b29 hf) hle
  · have hf := if_f q hf
    obtain ⟨a4, e5, hf⟩ := gs_some hf
    obtain ⟨⟨hk7, hb6⟩, hf⟩ := gd_some hf
    exact eqz_rt (mX12_foundAt_b29 hf) hle
set_option maxRecDepth 100000 in
theorem wX12_foundAt {E : PE} {l : Launch} (hG : Gs E l) {v0 : Nat} {v1 : Int32} {h : PH} {r : (Int32 × PH)} (hf : fX12_foundAt v0 v1 h = some r) : Ct E l 1 0 0 yX12_foundAt cX12_foundAt 2 (some .int) [.ref v0, .int v1] h (fun v u => v = some (.int r.1) ∧ u = r.2) := by
  refine ct_of hG (by decide) (Nat.le_of_ble_eq_true rfl) ?_
  intro p e s m args below meth c X hnm
  show PW E p l e _ s m args below meth c _ 0 0 _ h 0 [(0, some (.ref v0)), (1, some (.int v1))] []
  unfold fX12_foundAt at hf
  refine p_aload_n X (dcg dc_X12_foundAt 0 rfl) rfl rfl ?_
  refine p_iconst (v := 0) X (dcg dc_X12_foundAt 1 rfl) (by decide) ?_
  obtain ⟨hk1, hf⟩ := gd_some hf
  refine p_putI X fl_X12_1 rfl (by decide) (fun q hq => by cases hq; rfl) rfl rfl (dcg dc_X12_foundAt 2 rfl) hk1 ?_
  obtain ⟨h2, rfl, hf⟩ := lt_some hf
  refine p_iload_n X (dcg dc_X12_foundAt 3 rfl) rfl rfl ?_
  refine p_iconst (v := 0) X (dcg dc_X12_foundAt 4 rfl) (by decide) ?_
  refine p_aload_n X (dcg dc_X12_foundAt 5 rfl) rfl rfl ?_
  refine p_getI X fl_X12_346 rfl (by decide) (dcg dc_X12_foundAt 6 rfl) hk1 ?_
  refine p_iconst (v := 1) X (dcg dc_X12_foundAt 7 rfl) (by decide) ?_
  refine p_isub X (dcg dc_X12_foundAt 8 rfl) ?_
  obtain ⟨z3, hz3, hf⟩ := bd_some hf
  refine p_callS (As := [_, _, _]) X ml_X12_148 (dcg dc_X12_foundAt 9 rfl) rfl rfl  (wX12_in hG hz3) (by decide) (room4 (Nat.le_of_ble_eq_true rfl)) (Nat.le_refl _) (Nat.le_refl _) ?_
  rintro _ u9 ⟨rfl, e9⟩; have e9 := e9.symm; subst e9
  refine p_if_eq (tgt := 28) X (dcg dc_X12_foundAt 10 rfl) (by decide) (fun q => ?_) (fun q => ?_)
  · have hf := if_t q hf
    refine p_iconst (v := -1) X (dcg dc_X12_foundAt 16 rfl) (by decide) ?_
    refine p_pick [] ?_
    exact wX12_foundAt_b29 X hG hnm hf 
  · have hf := if_f q hf
    refine p_aload_n X (dcg dc_X12_foundAt 11 rfl) rfl rfl ?_
    refine p_getR X fl_X12_117 rfl (by decide) (dcg dc_X12_foundAt 12 rfl) hk1 ?_
    refine p_iload_n X (dcg dc_X12_foundAt 13 rfl) rfl rfl ?_
    obtain ⟨a4, e5, hf⟩ := gs_some hf
    first | subst e5 | (try rw [e5])
    obtain ⟨⟨hk7, hb6⟩, hf⟩ := gd_some hf
    refine p_iald X (dcg dc_X12_foundAt 14 rfl) hk7 (vp_of_inb hb6) ?_
    refine p_goto (tgt := 29) X (dcg dc_X12_foundAt 15 rfl) (by decide) ?_
    refine p_pick [] ?_
    exact wX12_foundAt_b29 X hG hnm hf 
theorem dc_X12_rankAt : decs cX12_rankAt [(0, .aload_n 0, 1), (1, .iconst 0, 1), (2, .putfield 1, 3), (5, .iload_n 1, 1), (6, .iconst 0, 1), (7, .aload_n 0, 1), (8, .getfield 346, 3), (11, .iconst 1, 1), (12, .isub, 1), (13, .invokestatic 148, 3), (16, .ifCond .eq 12, 3), (19, .aload_n 0, 1), (20, .getfield 120, 3), (23, .iload_n 1, 1), (24, .iaload, 1), (25, .goto 4, 3), (28, .iconst (-1), 1), (29, .ireturn, 1)] = true := by decide +kernel
noncomputable def fX12_rankAt_b29 (t0 : Int32) (h : PH) : Option (Int32 × PH) :=
  some ((t0, h))
set_option maxRecDepth 100000 in
theorem mX12_rankAt_b29 {t0 : Int32} {h : PH} {r : (Int32 × PH)} (hf : fX12_rankAt_b29 t0 h = some r) : eqz h (hX r.2) (hV r.2) := by
  unfold fX12_rankAt_b29 at hf
  have hle := eqz_rf h
  have ee := Option.some.inj hf; subst ee; exact hle
set_option maxRecDepth 100000 in
theorem wX12_rankAt_b29 {E : PE} {p : Program} {l : Launch} {e : Env} {s : State} {m : MethodId} {args : Array Value} {below : List Frame} {meth : Method} {c : Code} (X : Cx E p l e (rmv 1 0 0) s m args below meth c RX12 cX12_rankAt 2 (some .int)) (hG : Gs E l) (hnm : meth.name = yX12_rankAt.name) {t0 : Int32} {h : PH} {r : (Int32 × PH)} (hf : fX12_rankAt_b29 t0 h = some r)  : PW E p l e (rmv 1 0 0) s m args below meth c 2 0 0 (MQ below (QG E (fun v u => v = some (.int r.1) ∧ u = r.2)) args s 0 0 (pA E)) h 29 [] [.int t0] := by
  unfold fX12_rankAt_b29 at hf
  have er := Option.some.inj hf
  subst er
  exact p_iret X rfl (dcg dc_X12_rankAt 17 rfl) ⟨rfl, rfl⟩ (Nat.le_refl _) (Nat.le_refl _)
noncomputable def fX12_rankAt (v0 : Nat) (v1 : Int32) (h : PH) : Option (Int32 × PH) :=
  gd (hK h v0 = 12) (lt (sI h 12 v0 0 (0 : Int32)) (fun h2 =>
  bd (fX12_in v1 (0 : Int32) ((hI h2 12 v0 51) - (1 : Int32))) (fun z3 =>
  if (z3 = 0) then (fX12_rankAt_b29 (-1 : Int32) h2) else
  gs (hR h2 12 v0 49) (fun a4 =>
  gd (hK h2 a4 = 20 ∧ inb v1 (hN h2 a4)) (fX12_rankAt_b29 (hI h2 20 a4 (Int32.toNatClampNeg v1)) h2)))))
set_option maxRecDepth 100000 in
theorem mX12_rankAt {v0 : Nat} {v1 : Int32} {h : PH} {r : (Int32 × PH)} (hf : fX12_rankAt v0 v1 h = some r) : eqz h (hX r.2) (hV r.2) := by
  unfold fX12_rankAt at hf
  have hle := eqz_rf h
  obtain ⟨hk1, hf⟩ := gd_some hf
  obtain ⟨h2, rfl, hf⟩ := lt_some hf
  obtain ⟨z3, hz3, hf⟩ := bd_some hf
  rcases ite_or hf with ⟨q, hf⟩ | ⟨q, hf⟩
  · have hf := if_t q hf
    exact eqz_rt (mX12_rankAt_b29 hf) hle
  · have hf := if_f q hf
    obtain ⟨a4, e5, hf⟩ := gs_some hf
    obtain ⟨⟨hk7, hb6⟩, hf⟩ := gd_some hf
    exact eqz_rt (mX12_rankAt_b29 hf) hle
set_option maxRecDepth 100000 in
theorem wX12_rankAt {E : PE} {l : Launch} (hG : Gs E l) {v0 : Nat} {v1 : Int32} {h : PH} {r : (Int32 × PH)} (hf : fX12_rankAt v0 v1 h = some r) : Ct E l 1 0 0 yX12_rankAt cX12_rankAt 2 (some .int) [.ref v0, .int v1] h (fun v u => v = some (.int r.1) ∧ u = r.2) := by
  refine ct_of hG (by decide) (Nat.le_of_ble_eq_true rfl) ?_
  intro p e s m args below meth c X hnm
  show PW E p l e _ s m args below meth c _ 0 0 _ h 0 [(0, some (.ref v0)), (1, some (.int v1))] []
  unfold fX12_rankAt at hf
  refine p_aload_n X (dcg dc_X12_rankAt 0 rfl) rfl rfl ?_
  refine p_iconst (v := 0) X (dcg dc_X12_rankAt 1 rfl) (by decide) ?_
  obtain ⟨hk1, hf⟩ := gd_some hf
  refine p_putI X fl_X12_1 rfl (by decide) (fun q hq => by cases hq; rfl) rfl rfl (dcg dc_X12_rankAt 2 rfl) hk1 ?_
  obtain ⟨h2, rfl, hf⟩ := lt_some hf
  refine p_iload_n X (dcg dc_X12_rankAt 3 rfl) rfl rfl ?_
  refine p_iconst (v := 0) X (dcg dc_X12_rankAt 4 rfl) (by decide) ?_
  refine p_aload_n X (dcg dc_X12_rankAt 5 rfl) rfl rfl ?_
  refine p_getI X fl_X12_346 rfl (by decide) (dcg dc_X12_rankAt 6 rfl) hk1 ?_
  refine p_iconst (v := 1) X (dcg dc_X12_rankAt 7 rfl) (by decide) ?_
  refine p_isub X (dcg dc_X12_rankAt 8 rfl) ?_
  obtain ⟨z3, hz3, hf⟩ := bd_some hf
  refine p_callS (As := [_, _, _]) X ml_X12_148 (dcg dc_X12_rankAt 9 rfl) rfl rfl  (wX12_in hG hz3) (by decide) (room4 (Nat.le_of_ble_eq_true rfl)) (Nat.le_refl _) (Nat.le_refl _) ?_
  rintro _ u9 ⟨rfl, e9⟩; have e9 := e9.symm; subst e9
  refine p_if_eq (tgt := 28) X (dcg dc_X12_rankAt 10 rfl) (by decide) (fun q => ?_) (fun q => ?_)
  · have hf := if_t q hf
    refine p_iconst (v := -1) X (dcg dc_X12_rankAt 16 rfl) (by decide) ?_
    refine p_pick [] ?_
    exact wX12_rankAt_b29 X hG hnm hf 
  · have hf := if_f q hf
    refine p_aload_n X (dcg dc_X12_rankAt 11 rfl) rfl rfl ?_
    refine p_getR X fl_X12_120 rfl (by decide) (dcg dc_X12_rankAt 12 rfl) hk1 ?_
    refine p_iload_n X (dcg dc_X12_rankAt 13 rfl) rfl rfl ?_
    obtain ⟨a4, e5, hf⟩ := gs_some hf
    first | subst e5 | (try rw [e5])
    obtain ⟨⟨hk7, hb6⟩, hf⟩ := gd_some hf
    refine p_iald X (dcg dc_X12_rankAt 14 rfl) hk7 (vp_of_inb hb6) ?_
    refine p_goto (tgt := 29) X (dcg dc_X12_rankAt 15 rfl) (by decide) ?_
    refine p_pick [] ?_
    exact wX12_rankAt_b29 X hG hnm hf 
theorem dc_X12_scoreAt : decs cX12_scoreAt [(0, .aload_n 0, 1), (1, .iconst 0, 1), (2, .putfield 1, 3), (5, .iload_n 1, 1), (6, .iconst 0, 1), (7, .aload_n 0, 1), (8, .getfield 346, 3), (11, .iconst 1, 1), (12, .isub, 1), (13, .invokestatic 148, 3), (16, .ifCond .eq 12, 3), (19, .aload_n 0, 1), (20, .getfield 123, 3), (23, .iload_n 1, 1), (24, .iaload, 1), (25, .goto 4, 3), (28, .iconst (-1), 1), (29, .ireturn, 1)] = true := by decide +kernel
noncomputable def fX12_scoreAt_b29 (t0 : Int32) (h : PH) : Option (Int32 × PH) :=
  some ((t0, h))
set_option maxRecDepth 100000 in
theorem mX12_scoreAt_b29 {t0 : Int32} {h : PH} {r : (Int32 × PH)} (hf : fX12_scoreAt_b29 t0 h = some r) : eqz h (hX r.2) (hV r.2) := by
  unfold fX12_scoreAt_b29 at hf
  have hle := eqz_rf h
  have ee := Option.some.inj hf; subst ee; exact hle
set_option maxRecDepth 100000 in
theorem wX12_scoreAt_b29 {E : PE} {p : Program} {l : Launch} {e : Env} {s : State} {m : MethodId} {args : Array Value} {below : List Frame} {meth : Method} {c : Code} (X : Cx E p l e (rmv 1 0 0) s m args below meth c RX12 cX12_scoreAt 2 (some .int)) (hG : Gs E l) (hnm : meth.name = yX12_scoreAt.name) {t0 : Int32} {h : PH} {r : (Int32 × PH)} (hf : fX12_scoreAt_b29 t0 h = some r)  : PW E p l e (rmv 1 0 0) s m args below meth c 2 0 0 (MQ below (QG E (fun v u => v = some (.int r.1) ∧ u = r.2)) args s 0 0 (pA E)) h 29 [] [.int t0] := by
  unfold fX12_scoreAt_b29 at hf
  have er := Option.some.inj hf
  subst er
  exact p_iret X rfl (dcg dc_X12_scoreAt 17 rfl) ⟨rfl, rfl⟩ (Nat.le_refl _) (Nat.le_refl _)
noncomputable def fX12_scoreAt (v0 : Nat) (v1 : Int32) (h : PH) : Option (Int32 × PH) :=
  gd (hK h v0 = 12) (lt (sI h 12 v0 0 (0 : Int32)) (fun h2 =>
  bd (fX12_in v1 (0 : Int32) ((hI h2 12 v0 51) - (1 : Int32))) (fun z3 =>
  if (z3 = 0) then (fX12_scoreAt_b29 (-1 : Int32) h2) else
  gs (hR h2 12 v0 50) (fun a4 =>
  gd (hK h2 a4 = 20 ∧ inb v1 (hN h2 a4)) (fX12_scoreAt_b29 (hI h2 20 a4 (Int32.toNatClampNeg v1)) h2)))))
set_option maxRecDepth 100000 in
theorem mX12_scoreAt {v0 : Nat} {v1 : Int32} {h : PH} {r : (Int32 × PH)} (hf : fX12_scoreAt v0 v1 h = some r) : eqz h (hX r.2) (hV r.2) := by
  unfold fX12_scoreAt at hf
  have hle := eqz_rf h
  obtain ⟨hk1, hf⟩ := gd_some hf
  obtain ⟨h2, rfl, hf⟩ := lt_some hf
  obtain ⟨z3, hz3, hf⟩ := bd_some hf
  rcases ite_or hf with ⟨q, hf⟩ | ⟨q, hf⟩
  · have hf := if_t q hf
    exact eqz_rt (mX12_scoreAt_b29 hf) hle
  · have hf := if_f q hf
    obtain ⟨a4, e5, hf⟩ := gs_some hf
    obtain ⟨⟨hk7, hb6⟩, hf⟩ := gd_some hf
    exact eqz_rt (mX12_scoreAt_b29 hf) hle
set_option maxRecDepth 100000 in
theorem wX12_scoreAt {E : PE} {l : Launch} (hG : Gs E l) {v0 : Nat} {v1 : Int32} {h : PH} {r : (Int32 × PH)} (hf : fX12_scoreAt v0 v1 h = some r) : Ct E l 1 0 0 yX12_scoreAt cX12_scoreAt 2 (some .int) [.ref v0, .int v1] h (fun v u => v = some (.int r.1) ∧ u = r.2) := by
  refine ct_of hG (by decide) (Nat.le_of_ble_eq_true rfl) ?_
  intro p e s m args below meth c X hnm
  show PW E p l e _ s m args below meth c _ 0 0 _ h 0 [(0, some (.ref v0)), (1, some (.int v1))] []
  unfold fX12_scoreAt at hf
  refine p_aload_n X (dcg dc_X12_scoreAt 0 rfl) rfl rfl ?_
  refine p_iconst (v := 0) X (dcg dc_X12_scoreAt 1 rfl) (by decide) ?_
  obtain ⟨hk1, hf⟩ := gd_some hf
  refine p_putI X fl_X12_1 rfl (by decide) (fun q hq => by cases hq; rfl) rfl rfl (dcg dc_X12_scoreAt 2 rfl) hk1 ?_
  obtain ⟨h2, rfl, hf⟩ := lt_some hf
  refine p_iload_n X (dcg dc_X12_scoreAt 3 rfl) rfl rfl ?_
  refine p_iconst (v := 0) X (dcg dc_X12_scoreAt 4 rfl) (by decide) ?_
  refine p_aload_n X (dcg dc_X12_scoreAt 5 rfl) rfl rfl ?_
  refine p_getI X fl_X12_346 rfl (by decide) (dcg dc_X12_scoreAt 6 rfl) hk1 ?_
  refine p_iconst (v := 1) X (dcg dc_X12_scoreAt 7 rfl) (by decide) ?_
  refine p_isub X (dcg dc_X12_scoreAt 8 rfl) ?_
  obtain ⟨z3, hz3, hf⟩ := bd_some hf
  refine p_callS (As := [_, _, _]) X ml_X12_148 (dcg dc_X12_scoreAt 9 rfl) rfl rfl  (wX12_in hG hz3) (by decide) (room4 (Nat.le_of_ble_eq_true rfl)) (Nat.le_refl _) (Nat.le_refl _) ?_
  rintro _ u9 ⟨rfl, e9⟩; have e9 := e9.symm; subst e9
  refine p_if_eq (tgt := 28) X (dcg dc_X12_scoreAt 10 rfl) (by decide) (fun q => ?_) (fun q => ?_)
  · have hf := if_t q hf
    refine p_iconst (v := -1) X (dcg dc_X12_scoreAt 16 rfl) (by decide) ?_
    refine p_pick [] ?_
    exact wX12_scoreAt_b29 X hG hnm hf 
  · have hf := if_f q hf
    refine p_aload_n X (dcg dc_X12_scoreAt 11 rfl) rfl rfl ?_
    refine p_getR X fl_X12_123 rfl (by decide) (dcg dc_X12_scoreAt 12 rfl) hk1 ?_
    refine p_iload_n X (dcg dc_X12_scoreAt 13 rfl) rfl rfl ?_
    obtain ⟨a4, e5, hf⟩ := gs_some hf
    first | subst e5 | (try rw [e5])
    obtain ⟨⟨hk7, hb6⟩, hf⟩ := gd_some hf
    refine p_iald X (dcg dc_X12_scoreAt 14 rfl) hk7 (vp_of_inb hb6) ?_
    refine p_goto (tgt := 29) X (dcg dc_X12_scoreAt 15 rfl) (by decide) ?_
    refine p_pick [] ?_
    exact wX12_scoreAt_b29 X hG hnm hf 
theorem dc_X12_keep : decs cX12_keep [(0, .aload_n 0, 1), (1, .iconst 0, 1), (2, .putfield 1, 3), (5, .aload_n 0, 1), (6, .iload_n 1, 1), (7, .invokevirtual 358, 3), (10, .ifCond .ne 15, 3), (13, .aload_n 0, 1), (14, .aload_n 0, 1), (15, .invokevirtual 352, 3), (18, .iconst 1, 1), (19, .invokevirtual 156, 3), (22, .ifCond .eq 5, 3), (25, .iconst 0, 1), (26, .ireturn, 1), (27, .aload_n 0, 1), (28, .bipush 6, 2), (30, .iload_n 1, 1), (31, .invokevirtual 364, 3), (34, .aload_n 0, 1), (35, .iload_n 1, 1), (36, .invokevirtual 367, 3), (39, .ireturn, 1)] = true := by decide +kernel
noncomputable def fX12_keep_b25  (h : PH) : Option (Int32 × PH) :=
  some (((0 : Int32), h))
set_option maxRecDepth 100000 in
theorem mX12_keep_b25  {h : PH} {r : (Int32 × PH)} (hf : fX12_keep_b25  h = some r) : eqz h (hX r.2) (hV r.2) := by
  unfold fX12_keep_b25 at hf
  have hle := eqz_rf h
  have ee := Option.some.inj hf; subst ee; exact hle
set_option maxRecDepth 100000 in
theorem wX12_keep_b25 {E : PE} {p : Program} {l : Launch} {e : Env} {s : State} {m : MethodId} {args : Array Value} {below : List Frame} {meth : Method} {c : Code} (X : Cx E p l e (rmv 6 0 0) s m args below meth c RX12 cX12_keep 2 (some .int)) (hG : Gs E l) (hnm : meth.name = yX12_keep.name)  {h : PH} {r : (Int32 × PH)} (hf : fX12_keep_b25  h = some r)  : PW E p l e (rmv 6 0 0) s m args below meth c 2 0 0 (MQ below (QG E (fun v u => v = some (.int r.1) ∧ u = r.2)) args s 0 0 (pA E)) h 25 [] [] := by
  unfold fX12_keep_b25 at hf
  refine p_iconst (v := 0) X (dcg dc_X12_keep 13 rfl) (by decide) ?_
  have er := Option.some.inj hf
  subst er
  exact p_iret X rfl (dcg dc_X12_keep 14 rfl) ⟨rfl, rfl⟩ (Nat.le_refl _) (Nat.le_refl _)
noncomputable def fX12_keep (v0 : Nat) (v1 : Int32) (h : PH) : Option (Int32 × PH) :=
  gd (hK h v0 = 12) (lt (sI h 12 v0 0 (0 : Int32)) (fun h2 =>
  bd (fX12_noQuery v0 v1 h2) (fun z3 =>
  if (¬ z3.1 = 0) then (fX12_keep_b25  z3.2) else
  gd (hK z3.2 v0 = 12) (bd (fX12_readsQuery v0 z3.2) (fun z5 =>
  gd (hK z5.2 v0 = 12) (bd (fX12_fails v0 z5.1 (1 : Int32) z5.2) (fun z7 =>
  if (z7.1 = 0) then (gd (hK z7.2 v0 = 12) (bd (fX12_copies v0 (6 : Int32) v1 z7.2) (fun z9 =>
  gd (hK z9 v0 = 12) (bd (fX12_manyFound v0 v1 z9) (fun z11 =>
  some ((z11.1, z11.2))))))) else
  fX12_keep_b25  z7.2)))))))
set_option maxRecDepth 100000 in
theorem mX12_keep {v0 : Nat} {v1 : Int32} {h : PH} {r : (Int32 × PH)} (hf : fX12_keep v0 v1 h = some r) : eqz h (hX r.2) (hV r.2) := by
  unfold fX12_keep at hf
  have hle := eqz_rf h
  obtain ⟨hk1, hf⟩ := gd_some hf
  obtain ⟨h2, rfl, hf⟩ := lt_some hf
  obtain ⟨z3, hz3, hf⟩ := bd_some hf
  have hle := eqz_rt (mX12_noQuery hz3) hle
  rcases ite_or hf with ⟨q, hf⟩ | ⟨q, hf⟩
  · have hf := if_t q hf
    exact eqz_rt (mX12_keep_b25 hf) hle
  · have hf := if_f q hf
    obtain ⟨hk4, hf⟩ := gd_some hf
    obtain ⟨z5, hz5, hf⟩ := bd_some hf
    have hle := eqz_rt (mX12_readsQuery hz5) hle
    obtain ⟨hk6, hf⟩ := gd_some hf
    obtain ⟨z7, hz7, hf⟩ := bd_some hf
    have hle := eqz_rt (mX12_fails hz7) hle
    rcases ite_or hf with ⟨q, hf⟩ | ⟨q, hf⟩
    · have hf := if_t q hf
      obtain ⟨hk8, hf⟩ := gd_some hf
      obtain ⟨z9, hz9, hf⟩ := bd_some hf
      have hle := eqz_rt (mX12_copies hz9) hle
      obtain ⟨hk10, hf⟩ := gd_some hf
      obtain ⟨z11, hz11, hf⟩ := bd_some hf
      have hle := eqz_rt (mX12_manyFound hz11) hle
      have ee := Option.some.inj hf; subst ee; exact hle
    · have hf := if_f q hf
      exact eqz_rt (mX12_keep_b25 hf) hle
set_option maxRecDepth 100000 in
theorem wX12_keep {E : PE} {l : Launch} (hG : Gs E l) {v0 : Nat} {v1 : Int32} {h : PH} {r : (Int32 × PH)} (hf : fX12_keep v0 v1 h = some r) : Ct E l 6 0 0 yX12_keep cX12_keep 2 (some .int) [.ref v0, .int v1] h (fun v u => v = some (.int r.1) ∧ u = r.2) := by
  refine ct_of hG (by decide) (Nat.le_of_ble_eq_true rfl) ?_
  intro p e s m args below meth c X hnm
  show PW E p l e _ s m args below meth c _ 0 0 _ h 0 [(0, some (.ref v0)), (1, some (.int v1))] []
  unfold fX12_keep at hf
  refine p_aload_n X (dcg dc_X12_keep 0 rfl) rfl rfl ?_
  refine p_iconst (v := 0) X (dcg dc_X12_keep 1 rfl) (by decide) ?_
  obtain ⟨hk1, hf⟩ := gd_some hf
  refine p_putI X fl_X12_1 rfl (by decide) (fun q hq => by cases hq; rfl) rfl rfl (dcg dc_X12_keep 2 rfl) hk1 ?_
  obtain ⟨h2, rfl, hf⟩ := lt_some hf
  refine p_aload_n X (dcg dc_X12_keep 3 rfl) rfl rfl ?_
  refine p_iload_n X (dcg dc_X12_keep 4 rfl) rfl rfl ?_
  obtain ⟨z3, hz3, hf⟩ := bd_some hf
  refine p_callV (As := [_]) X ml_X12_358 (dcg dc_X12_keep 5 rfl) rfl rfl hk1 (wX12_noQuery hG hz3) (by decide) (room4 (Nat.le_of_ble_eq_true rfl)) (Nat.le_refl _) (Nat.le_refl _) ?_
  rintro _ u9 ⟨rfl, e9⟩; have e9 := e9.symm; subst e9
  refine p_if_ne (tgt := 25) X (dcg dc_X12_keep 6 rfl) (by decide) (fun q => ?_) (fun q => ?_)
  · have hf := if_t q hf
    refine p_pick [] ?_
    exact wX12_keep_b25 X hG hnm hf 
  · have hf := if_f q hf
    refine p_aload_n X (dcg dc_X12_keep 7 rfl) rfl rfl ?_
    refine p_aload_n X (dcg dc_X12_keep 8 rfl) rfl rfl ?_
    obtain ⟨hk4, hf⟩ := gd_some hf
    obtain ⟨z5, hz5, hf⟩ := bd_some hf
    refine p_callV (As := []) X ml_X12_352 (dcg dc_X12_keep 9 rfl) rfl rfl hk4 (wX12_readsQuery hG hz5) (by decide) (room4 (Nat.le_of_ble_eq_true rfl)) (Nat.le_refl _) (Nat.le_refl _) ?_
    rintro _ u9 ⟨rfl, e9⟩; have e9 := e9.symm; subst e9
    refine p_iconst (v := 1) X (dcg dc_X12_keep 10 rfl) (by decide) ?_
    obtain ⟨hk6, hf⟩ := gd_some hf
    obtain ⟨z7, hz7, hf⟩ := bd_some hf
    refine p_callV (As := [_, _]) X ml_X12_156 (dcg dc_X12_keep 11 rfl) rfl rfl hk6 (wX12_fails hG hz7) (by decide) (room4 (Nat.le_of_ble_eq_true rfl)) (Nat.le_refl _) (Nat.le_refl _) ?_
    rintro _ u9 ⟨rfl, e9⟩; have e9 := e9.symm; subst e9
    refine p_if_eq (tgt := 27) X (dcg dc_X12_keep 12 rfl) (by decide) (fun q => ?_) (fun q => ?_)
    · have hf := if_t q hf
      refine p_aload_n X (dcg dc_X12_keep 15 rfl) rfl rfl ?_
      refine p_bipush (v := 6) X (dcg dc_X12_keep 16 rfl) (by decide) ?_
      refine p_iload_n X (dcg dc_X12_keep 17 rfl) rfl rfl ?_
      obtain ⟨hk8, hf⟩ := gd_some hf
      obtain ⟨z9, hz9, hf⟩ := bd_some hf
      refine p_callV (As := [_, _]) X ml_X12_364 (dcg dc_X12_keep 18 rfl) rfl rfl hk8 (wX12_copies hG hz9) (by decide) (room4 (Nat.le_of_ble_eq_true rfl)) (Nat.le_refl _) (Nat.le_refl _) ?_
      rintro _ u9 ⟨rfl, e9⟩; have e9 := e9.symm; subst e9
      refine p_aload_n X (dcg dc_X12_keep 19 rfl) rfl rfl ?_
      refine p_iload_n X (dcg dc_X12_keep 20 rfl) rfl rfl ?_
      obtain ⟨hk10, hf⟩ := gd_some hf
      obtain ⟨z11, hz11, hf⟩ := bd_some hf
      refine p_callV (As := [_]) X ml_X12_367 (dcg dc_X12_keep 21 rfl) rfl rfl hk10 (wX12_manyFound hG hz11) (by decide) (room4 (Nat.le_of_ble_eq_true rfl)) (Nat.le_refl _) (Nat.le_refl _) ?_
      rintro _ u9 ⟨rfl, e9⟩; have e9 := e9.symm; subst e9
      have er := Option.some.inj hf
      subst er
      exact p_iret X rfl (dcg dc_X12_keep 22 rfl) ⟨rfl, rfl⟩ (Nat.le_refl _) (Nat.le_refl _)
    · have hf := if_f q hf
      refine p_pick [] ?_
      exact wX12_keep_b25 X hG hnm hf 
theorem dc_X12_turned : decs cX12_turned [(0, .sipush 400, 3), (3, .iload_n 1, 1), (4, .imul, 1), (5, .iload_n 2, 1), (6, .iadd, 1), (7, .istore_n 3, 1), (8, .aload_n 0, 1), (9, .getfield 60, 3), (12, .iload_n 3, 1), (13, .iaload, 1), (14, .istore 4, 2), (16, .aload_n 0, 1), (17, .getfield 126, 3), (20, .iload_n 2, 1), (21, .iaload, 1), (22, .iconst 2, 1), (23, .if_icmp .ne 21, 3), (26, .iload 4, 2), (28, .iconst 4, 1), (29, .if_icmp .ne 15, 3), (32, .aload_n 0, 1), (33, .getfield 129, 3), (36, .aload_n 0, 1), (37, .getfield 72, 3), (40, .iload_n 3, 1), (41, .iaload, 1), (42, .iaload, 1), (43, .ireturn, 1), (44, .aload_n 0, 1), (45, .getfield 126, 3), (48, .iload_n 2, 1), (49, .iaload, 1), (50, .iconst 2, 1), (51, .if_icmp .ne 17, 3), (54, .iload 4, 2), (56, .iconst 5, 1), (57, .if_icmp .lt 11, 3), (60, .bipush 11, 2), (62, .iload 4, 2), (64, .isub, 1), (65, .goto 5, 3), (68, .iload 4, 2), (70, .istore 5, 2), (72, .aload_n 0, 1), (73, .bipush 7, 2), (75, .iload 5, 2), (77, .aload_n 0, 1), (78, .getfield 63, 3), (81, .iload_n 3, 1), (82, .iaload, 1), (83, .aload_n 0, 1), (84, .getfield 66, 3), (87, .iload_n 3, 1), (88, .iaload, 1), (89, .invokevirtual 277, 3), (92, .istore 6, 2), (94, .aload_n 0, 1), (95, .getfield 69, 3), (98, .sipush 2800, 3), (101, .iload 6, 2), (103, .iadd, 1), (104, .aload_n 0, 1), (105, .getfield 69, 3), (108, .iload_n 3, 1), (109, .iaload, 1), (110, .iastore, 1), (111, .iconst (-1), 1), (112, .istore 7, 2), (114, .aload_n 0, 1), (115, .getfield 72, 3), (118, .iload_n 3, 1), (119, .iaload, 1), (120, .istore 8, 2), (122, .iload 8, 2), (124, .iconst (-1), 1), (125, .if_icmp .eq 75, 3), (128, .iload 7, 2), (130, .iconst (-1), 1), (131, .if_icmp .ne 24, 3), (134, .aload_n 0, 1), (135, .getfield 72, 3), (138, .sipush 2800, 3), (141, .iload 6, 2), (143, .iadd, 1), (144, .aload_n 0, 1), (145, .getfield 129, 3), (148, .iload 8, 2), (150, .iaload, 1), (151, .iastore, 1), (152, .goto 21, 3), (155, .aload_n 0, 1), (156, .getfield 75, 3), (159, .sipush 2800, 3), (162, .iload 7, 2), (164, .iadd, 1), (165, .aload_n 0, 1), (166, .getfield 129, 3), (169, .iload 8, 2), (171, .iaload, 1), (172, .iastore, 1), (173, .aload_n 0, 1), (174, .getfield 129, 3), (177, .iload 8, 2), (179, .iaload, 1), (180, .istore 7, 2), (182, .aload_n 0, 1), (183, .getfield 75, 3), (186, .sipush 400, 3), (189, .iload_n 1, 1), (190, .imul, 1), (191, .iload 8, 2), (193, .iadd, 1), (194, .iaload, 1), (195, .istore 8, 2), (197, .goto (-75), 3), (200, .iload 7, 2), (202, .iconst (-1), 1), (203, .if_icmp .eq 15, 3), (206, .aload_n 0, 1), (207, .getfield 75, 3), (210, .sipush 2800, 3), (213, .iload 7, 2), (215, .iadd, 1), (216, .iconst (-1), 1), (217, .iastore, 1), (218, .aload_n 0, 1), (219, .getfield 126, 3), (222, .iload_n 2, 1), (223, .iaload, 1), (224, .iconst 2, 1), (225, .if_icmp .ne 20, 3), (228, .iload 4, 2), (230, .iconst 4, 1), (231, .if_icmp .ge 14, 3), (234, .aload_n 0, 1), (235, .bipush 7, 2), (237, .iload 6, 2), (239, .invokevirtual 287, 3), (242, .goto 5, 3), (245, .iload 6, 2), (247, .ireturn, 1)] = true := by decide +kernel
noncomputable def fX12_turned_b247 (t0 : Int32) (h : PH) : Option (Int32 × PH) :=
  some ((t0, h))
set_option maxRecDepth 100000 in
theorem mX12_turned_b247 {t0 : Int32} {h : PH} {r : (Int32 × PH)} (hf : fX12_turned_b247 t0 h = some r) : eqz h (hX r.2) (hV r.2) := by
  unfold fX12_turned_b247 at hf
  have hle := eqz_rf h
  have ee := Option.some.inj hf; subst ee; exact hle
set_option maxRecDepth 100000 in
theorem wX12_turned_b247 {E : PE} {p : Program} {l : Launch} {e : Env} {s : State} {m : MethodId} {args : Array Value} {below : List Frame} {meth : Method} {c : Code} (X : Cx E p l e (rmv 2 0 0) s m args below meth c RX12 cX12_turned 9 (some .int)) (hG : Gs E l) (hnm : meth.name = yX12_turned.name) {t0 : Int32} {h : PH} {r : (Int32 × PH)} (hf : fX12_turned_b247 t0 h = some r)  : PW E p l e (rmv 2 0 0) s m args below meth c 9 0 0 (MQ below (QG E (fun v u => v = some (.int r.1) ∧ u = r.2)) args s 0 0 (pA E)) h 247 [] [.int t0] := by
  unfold fX12_turned_b247 at hf
  have er := Option.some.inj hf
  subst er
  exact p_iret X rfl (dcg dc_X12_turned 140 rfl) ⟨rfl, rfl⟩ (Nat.le_refl _) (Nat.le_refl _)
noncomputable def fX12_turned_b245 (v6 : Int32) (h : PH) : Option (Int32 × PH) :=
  fX12_turned_b247 v6 h
set_option maxRecDepth 100000 in
theorem mX12_turned_b245 {v6 : Int32} {h : PH} {r : (Int32 × PH)} (hf : fX12_turned_b245 v6 h = some r) : eqz h (hX r.2) (hV r.2) := by
  unfold fX12_turned_b245 at hf
  have hle := eqz_rf h
  exact eqz_rt (mX12_turned_b247 hf) hle
set_option maxRecDepth 100000 in
theorem wX12_turned_b245 {E : PE} {p : Program} {l : Launch} {e : Env} {s : State} {m : MethodId} {args : Array Value} {below : List Frame} {meth : Method} {c : Code} (X : Cx E p l e (rmv 2 0 0) s m args below meth c RX12 cX12_turned 9 (some .int)) (hG : Gs E l) (hnm : meth.name = yX12_turned.name) {v6 : Int32} {h : PH} {r : (Int32 × PH)} (hf : fX12_turned_b245 v6 h = some r)  : PW E p l e (rmv 2 0 0) s m args below meth c 9 0 0 (MQ below (QG E (fun v u => v = some (.int r.1) ∧ u = r.2)) args s 0 0 (pA E)) h 245 [(6, some (.int v6))] [] := by
  unfold fX12_turned_b245 at hf
  refine p_iload X (dcg dc_X12_turned 139 rfl) rfl ?_
  refine p_pick [] ?_
  exact wX12_turned_b247 X hG hnm hf 
noncomputable def fX12_turned_b218 (v0 : Nat) (v2 : Int32) (v4 : Int32) (v6 : Int32) (h : PH) : Option (Int32 × PH) :=
  gd (hK h v0 = 12) (gs (hR h 12 v0 52) (fun a39 =>
  gd (hK h a39 = 20 ∧ inb v2 (hN h a39)) (if (¬ (hI h 20 a39 (Int32.toNatClampNeg v2)) = (2 : Int32)) then (fX12_turned_b245 v6 h) else
  if ((4 : Int32) ≤ v4) then (fX12_turned_b245 v6 h) else
  bd (fX12_negates v0 (7 : Int32) v6 h) (fun z43 =>
  fX12_turned_b247 z43.1 z43.2))))
set_option maxRecDepth 100000 in
theorem mX12_turned_b218 {v0 : Nat} {v2 : Int32} {v4 : Int32} {v6 : Int32} {h : PH} {r : (Int32 × PH)} (hf : fX12_turned_b218 v0 v2 v4 v6 h = some r) : eqz h (hX r.2) (hV r.2) := by
  unfold fX12_turned_b218 at hf
  have hle := eqz_rf h
  obtain ⟨hk38, hf⟩ := gd_some hf
  obtain ⟨a39, e40, hf⟩ := gs_some hf
  obtain ⟨⟨hk42, hb41⟩, hf⟩ := gd_some hf
  rcases ite_or hf with ⟨q, hf⟩ | ⟨q, hf⟩
  · have hf := if_t q hf
    exact eqz_rt (mX12_turned_b245 hf) hle
  · have hf := if_f q hf
    rcases ite_or hf with ⟨q, hf⟩ | ⟨q, hf⟩
    · have hf := if_t q hf
      exact eqz_rt (mX12_turned_b245 hf) hle
    · have hf := if_f q hf
      obtain ⟨z43, hz43, hf⟩ := bd_some hf
      have hle := eqz_rt (mX12_negates hz43) hle
      exact eqz_rt (mX12_turned_b247 hf) hle
set_option maxRecDepth 100000 in
theorem wX12_turned_b218 {E : PE} {p : Program} {l : Launch} {e : Env} {s : State} {m : MethodId} {args : Array Value} {below : List Frame} {meth : Method} {c : Code} (X : Cx E p l e (rmv 2 0 0) s m args below meth c RX12 cX12_turned 9 (some .int)) (hG : Gs E l) (hnm : meth.name = yX12_turned.name) {v0 : Nat} {v2 : Int32} {v4 : Int32} {v6 : Int32} {h : PH} {r : (Int32 × PH)} (hf : fX12_turned_b218 v0 v2 v4 v6 h = some r)  : PW E p l e (rmv 2 0 0) s m args below meth c 9 0 0 (MQ below (QG E (fun v u => v = some (.int r.1) ∧ u = r.2)) args s 0 0 (pA E)) h 218 [(0, some (.ref v0)), (2, some (.int v2)), (4, some (.int v4)), (6, some (.int v6))] [] := by
  unfold fX12_turned_b218 at hf
  refine p_aload_n X (dcg dc_X12_turned 125 rfl) rfl rfl ?_
  obtain ⟨hk38, hf⟩ := gd_some hf
  refine p_getR X fl_X12_126 rfl (by decide) (dcg dc_X12_turned 126 rfl) hk38 ?_
  refine p_iload_n X (dcg dc_X12_turned 127 rfl) rfl rfl ?_
  obtain ⟨a39, e40, hf⟩ := gs_some hf
  first | subst e40 | (try rw [e40])
  obtain ⟨⟨hk42, hb41⟩, hf⟩ := gd_some hf
  refine p_iald X (dcg dc_X12_turned 128 rfl) hk42 (vp_of_inb hb41) ?_
  refine p_iconst (v := 2) X (dcg dc_X12_turned 129 rfl) (by decide) ?_
  refine p_icmp_ne (tgt := 245) X (dcg dc_X12_turned 130 rfl) (by decide) (fun q => ?_) (fun q => ?_)
  · have hf := if_t q hf
    refine p_pick [6] ?_
    exact wX12_turned_b245 X hG hnm hf 
  · have hf := if_f q hf
    refine p_iload X (dcg dc_X12_turned 131 rfl) rfl ?_
    refine p_iconst (v := 4) X (dcg dc_X12_turned 132 rfl) (by decide) ?_
    refine p_icmp_ge (tgt := 245) X (dcg dc_X12_turned 133 rfl) (by decide) (fun q => ?_) (fun q => ?_)
    · have hf := if_t q hf
      refine p_pick [6] ?_
      exact wX12_turned_b245 X hG hnm hf 
    · have hf := if_f q hf
      refine p_aload_n X (dcg dc_X12_turned 134 rfl) rfl rfl ?_
      refine p_bipush (v := 7) X (dcg dc_X12_turned 135 rfl) (by decide) ?_
      refine p_iload X (dcg dc_X12_turned 136 rfl) rfl ?_
      obtain ⟨z43, hz43, hf⟩ := bd_some hf
      refine p_callV (As := [_, _]) X ml_X12_287 (dcg dc_X12_turned 137 rfl) rfl rfl hk38 (wX12_negates hG hz43) (by decide) (room4 (Nat.le_of_ble_eq_true rfl)) (Nat.le_refl _) (Nat.le_refl _) ?_
      rintro _ u9 ⟨rfl, e9⟩; have e9 := e9.symm; subst e9
      refine p_goto (tgt := 247) X (dcg dc_X12_turned 138 rfl) (by decide) ?_
      refine p_pick [] ?_
      exact wX12_turned_b247 X hG hnm hf 
noncomputable def fX12_turned_b173 (v0 : Nat) (v1 : Int32) (v2 : Int32) (v4 : Int32) (v6 : Int32) (v8 : Int32) (h : PH) : Option ((Int32 × Int32 × PH) ⊕ (Int32 × PH)) :=
  gd (hK h v0 = 12) (gs (hR h 12 v0 53) (fun a61 =>
  gd (hK h a61 = 20 ∧ inb v8 (hN h a61)) (gs (hR h 12 v0 30) (fun a65 =>
  gd (hK h a65 = 20 ∧ inb (((400 : Int32) * v1) + v8) (hN h a65)) (some (.inl ((hI h 20 a61 (Int32.toNatClampNeg v8)), (hI h 20 a65 (Int32.toNatClampNeg (((400 : Int32) * v1) + v8))), h)))))))
set_option maxRecDepth 100000 in
theorem mX12_turned_b173 {v0 : Nat} {v1 : Int32} {v2 : Int32} {v4 : Int32} {v6 : Int32} {v8 : Int32} {h : PH} {x : ((Int32 × Int32 × PH) ⊕ (Int32 × PH))} (hf : fX12_turned_b173 v0 v1 v2 v4 v6 v8 h = some x) : (∀ w9 : (Int32 × Int32 × PH), x = .inl w9 → eqz h (hX (w9.2.2)) (hV (w9.2.2))) ∧ (∀ w9 : (Int32 × PH), x = .inr w9 → eqz h (hX w9.2) (hV w9.2)) := by
  unfold fX12_turned_b173 at hf
  have hle := eqz_rf h
  obtain ⟨hk60, hf⟩ := gd_some hf
  obtain ⟨a61, e62, hf⟩ := gs_some hf
  obtain ⟨⟨hk64, hb63⟩, hf⟩ := gd_some hf
  obtain ⟨a65, e66, hf⟩ := gs_some hf
  obtain ⟨⟨hk68, hb67⟩, hf⟩ := gd_some hf
  have ee := Option.some.inj hf; subst ee
  exact ⟨(fun z e => by have ee := Sum.inl.inj (e); subst ee; exact hle), (fun z e => nomatch e)⟩
set_option maxRecDepth 100000 in
theorem wX12_turned_b173 {E : PE} {p : Program} {l : Launch} {e : Env} {s : State} {m : MethodId} {args : Array Value} {below : List Frame} {meth : Method} {c : Code} (X : Cx E p l e (rmv 2 0 0) s m args below meth c RX12 cX12_turned 9 (some .int)) (hG : Gs E l) (hnm : meth.name = yX12_turned.name) {v0 : Nat} {v1 : Int32} {v2 : Int32} {v4 : Int32} {v6 : Int32} {v8 : Int32} {h : PH} {r : (Int32 × PH)} {x : ((Int32 × Int32 × PH) ⊕ (Int32 × PH))} (hf : fX12_turned_b173 v0 v1 v2 v4 v6 v8 h = some x) (k0 : ∀ z : (Int32 × Int32 × PH), x = .inl z → PW E p l e (rmv 2 0 0) s m args below meth c 9 0 0 (MQ below (QG E (fun v u => v = some (.int r.1) ∧ u = r.2)) args s 0 0 (pA E)) (z.2.2) 122 [(0, some (.ref v0)), (1, some (.int v1)), (2, some (.int v2)), (4, some (.int v4)), (6, some (.int v6)), (7, some (.int (z.1))), (8, some (.int (z.2.1)))] []) (kf : ∀ z : (Int32 × PH), x = .inr z → z = r) : PW E p l e (rmv 2 0 0) s m args below meth c 9 0 0 (MQ below (QG E (fun v u => v = some (.int r.1) ∧ u = r.2)) args s 0 0 (pA E)) h 173 [(0, some (.ref v0)), (1, some (.int v1)), (2, some (.int v2)), (4, some (.int v4)), (6, some (.int v6)), (8, some (.int v8))] [] := by
  unfold fX12_turned_b173 at hf
  refine p_aload_n X (dcg dc_X12_turned 100 rfl) rfl rfl ?_
  obtain ⟨hk60, hf⟩ := gd_some hf
  refine p_getR X fl_X12_129 rfl (by decide) (dcg dc_X12_turned 101 rfl) hk60 ?_
  refine p_iload X (dcg dc_X12_turned 102 rfl) rfl ?_
  obtain ⟨a61, e62, hf⟩ := gs_some hf
  first | subst e62 | (try rw [e62])
  obtain ⟨⟨hk64, hb63⟩, hf⟩ := gd_some hf
  refine p_iald X (dcg dc_X12_turned 103 rfl) hk64 (vp_of_inb hb63) ?_
  refine p_istore X (dcg dc_X12_turned 104 rfl) (by decide) rfl ?_
  refine p_aload_n X (dcg dc_X12_turned 105 rfl) rfl rfl ?_
  refine p_getR X fl_X12_75 rfl (by decide) (dcg dc_X12_turned 106 rfl) hk60 ?_
  refine p_sipush (v := 400) X (dcg dc_X12_turned 107 rfl) (by decide) ?_
  refine p_iload_n X (dcg dc_X12_turned 108 rfl) rfl rfl ?_
  refine p_imul X (dcg dc_X12_turned 109 rfl) ?_
  refine p_iload X (dcg dc_X12_turned 110 rfl) rfl ?_
  refine p_iadd X (dcg dc_X12_turned 111 rfl) ?_
  obtain ⟨a65, e66, hf⟩ := gs_some hf
  first | subst e66 | (try rw [e66])
  obtain ⟨⟨hk68, hb67⟩, hf⟩ := gd_some hf
  refine p_iald X (dcg dc_X12_turned 112 rfl) hk68 (vp_of_inb hb67) ?_
  refine p_istore X (dcg dc_X12_turned 113 rfl) (by decide) rfl ?_
  refine p_goto (tgt := 122) X (dcg dc_X12_turned 114 rfl) (by decide) ?_
  refine p_pick [0, 1, 2, 4, 6, 7, 8] ?_
  exact k0 _ (Option.some.inj hf).symm
noncomputable def fX12_turned_c122 (v0 : Nat) (v1 : Int32) (v2 : Int32) (v4 : Int32) (v6 : Int32) (v7 : Int32) (v8 : Int32) (h : PH) : Option ((Int32 × Int32 × PH) ⊕ (Int32 × PH)) :=
  if (v8 = (-1 : Int32)) then (mr (if (v7 = (-1 : Int32)) then (fX12_turned_b218 v0 v2 v4 v6 h) else
  gd (hK h v0 = 12) (gs (hR h 12 v0 30) (fun a45 =>
  gd (hK h a45 = 20 ∧ inb ((2800 : Int32) + v7) (hN h a45)) (lt (sI h 20 a45 (Int32.toNatClampNeg ((2800 : Int32) + v7)) (-1 : Int32)) (fun h49 =>
  fX12_turned_b218 v0 v2 v4 v6 h49)))))) else
  if (¬ v7 = (-1 : Int32)) then (gd (hK h v0 = 12) (gs (hR h 12 v0 53) (fun a51 =>
  gd (hK h a51 = 20 ∧ inb v8 (hN h a51)) (gs (hR h 12 v0 30) (fun a55 =>
  gd (hK h a55 = 20 ∧ inb ((2800 : Int32) + v7) (hN h a55)) (lt (sI h 20 a55 (Int32.toNatClampNeg ((2800 : Int32) + v7)) (hI h 20 a51 (Int32.toNatClampNeg v8))) (fun h59 =>
  fX12_turned_b173 v0 v1 v2 v4 v6 v8 h59))))))) else
  gd (hK h v0 = 12) (gs (hR h 12 v0 53) (fun a70 =>
  gd (hK h a70 = 20 ∧ inb v8 (hN h a70)) (gs (hR h 12 v0 29) (fun a74 =>
  gd (hK h a74 = 20 ∧ inb ((2800 : Int32) + v6) (hN h a74)) (lt (sI h 20 a74 (Int32.toNatClampNeg ((2800 : Int32) + v6)) (hI h 20 a70 (Int32.toNatClampNeg v8))) (fun h78 =>
  fX12_turned_b173 v0 v1 v2 v4 v6 v8 h78))))))
set_option maxRecDepth 100000 in
theorem mX12_turned_c122 {v0 : Nat} {v1 : Int32} {v2 : Int32} {v4 : Int32} {v6 : Int32} {v7 : Int32} {v8 : Int32} {h : PH} {x : ((Int32 × Int32 × PH) ⊕ (Int32 × PH))} (hf : fX12_turned_c122 v0 v1 v2 v4 v6 v7 v8 h = some x) : (∀ w9 : (Int32 × Int32 × PH), x = .inl w9 → eqz h (hX (w9.2.2)) (hV (w9.2.2))) ∧ (∀ w9 : (Int32 × PH), x = .inr w9 → eqz h (hX w9.2) (hV w9.2)) := by
  unfold fX12_turned_c122 at hf
  have hle := eqz_rf h
  rcases ite_or hf with ⟨q, hf⟩ | ⟨q, hf⟩
  · have hf := if_t q hf
    obtain ⟨y36, hfm, rfl⟩ := mr_some hf; have hf := hfm; clear hfm
    rcases ite_or hf with ⟨q, hf⟩ | ⟨q, hf⟩
    · have hf := if_t q hf
      have cf := mX12_turned_b218 hf
      exact ⟨(fun z e => nomatch e), (fun z e => by cases e <;> exact eqz_rt cf hle)⟩
    · have hf := if_f q hf
      obtain ⟨hk44, hf⟩ := gd_some hf
      obtain ⟨a45, e46, hf⟩ := gs_some hf
      obtain ⟨⟨hk48, hb47⟩, hf⟩ := gd_some hf
      obtain ⟨h49, rfl, hf⟩ := lt_some hf
      have cf := mX12_turned_b218 hf
      exact ⟨(fun z e => nomatch e), (fun z e => by cases e <;> exact eqz_rt cf hle)⟩
  · have hf := if_f q hf
    rcases ite_or hf with ⟨q, hf⟩ | ⟨q, hf⟩
    · have hf := if_t q hf
      obtain ⟨hk50, hf⟩ := gd_some hf
      obtain ⟨a51, e52, hf⟩ := gs_some hf
      obtain ⟨⟨hk54, hb53⟩, hf⟩ := gd_some hf
      obtain ⟨a55, e56, hf⟩ := gs_some hf
      obtain ⟨⟨hk58, hb57⟩, hf⟩ := gd_some hf
      obtain ⟨h59, rfl, hf⟩ := lt_some hf
      obtain ⟨c0, cf⟩ := mX12_turned_b173 hf
      exact ⟨fun z e => eqz_rt (c0 z (e)) hle, fun z e => eqz_rt (cf z (e)) hle⟩
    · have hf := if_f q hf
      obtain ⟨hk69, hf⟩ := gd_some hf
      obtain ⟨a70, e71, hf⟩ := gs_some hf
      obtain ⟨⟨hk73, hb72⟩, hf⟩ := gd_some hf
      obtain ⟨a74, e75, hf⟩ := gs_some hf
      obtain ⟨⟨hk77, hb76⟩, hf⟩ := gd_some hf
      obtain ⟨h78, rfl, hf⟩ := lt_some hf
      obtain ⟨c0, cf⟩ := mX12_turned_b173 hf
      exact ⟨fun z e => eqz_rt (c0 z (e)) hle, fun z e => eqz_rt (cf z (e)) hle⟩
set_option maxRecDepth 100000 in
theorem wX12_turned_c122 {E : PE} {p : Program} {l : Launch} {e : Env} {s : State} {m : MethodId} {args : Array Value} {below : List Frame} {meth : Method} {c : Code} (X : Cx E p l e (rmv 2 0 0) s m args below meth c RX12 cX12_turned 9 (some .int)) (hG : Gs E l) (hnm : meth.name = yX12_turned.name) {v0 : Nat} {v1 : Int32} {v2 : Int32} {v4 : Int32} {v6 : Int32} {v7 : Int32} {v8 : Int32} {h : PH} {r : (Int32 × PH)} {x : ((Int32 × Int32 × PH) ⊕ (Int32 × PH))} (hf : fX12_turned_c122 v0 v1 v2 v4 v6 v7 v8 h = some x) (k0 : ∀ z : (Int32 × Int32 × PH), x = .inl z → PW E p l e (rmv 2 0 0) s m args below meth c 9 0 0 (MQ below (QG E (fun v u => v = some (.int r.1) ∧ u = r.2)) args s 0 0 (pA E)) (z.2.2) 122 [(0, some (.ref v0)), (1, some (.int v1)), (2, some (.int v2)), (4, some (.int v4)), (6, some (.int v6)), (7, some (.int (z.1))), (8, some (.int (z.2.1)))] []) (kf : ∀ z : (Int32 × PH), x = .inr z → z = r) : PW E p l e (rmv 2 0 0) s m args below meth c 9 0 0 (MQ below (QG E (fun v u => v = some (.int r.1) ∧ u = r.2)) args s 0 0 (pA E)) h 122 [(0, some (.ref v0)), (1, some (.int v1)), (2, some (.int v2)), (4, some (.int v4)), (6, some (.int v6)), (7, some (.int v7)), (8, some (.int v8))] [] := by
  unfold fX12_turned_c122 at hf
  refine p_iload X (dcg dc_X12_turned 73 rfl) rfl ?_
  refine p_iconst (v := -1) X (dcg dc_X12_turned 74 rfl) (by decide) ?_
  refine p_icmp_eq (tgt := 200) X (dcg dc_X12_turned 75 rfl) (by decide) (fun q => ?_) (fun q => ?_)
  · have hf := if_t q hf
    obtain ⟨y36, hf, hy37⟩ := mr_some hf
    have hy37f := kf y36 hy37
    subst hy37f
    refine p_iload X (dcg dc_X12_turned 115 rfl) rfl ?_
    refine p_iconst (v := -1) X (dcg dc_X12_turned 116 rfl) (by decide) ?_
    refine p_icmp_eq (tgt := 218) X (dcg dc_X12_turned 117 rfl) (by decide) (fun q => ?_) (fun q => ?_)
    · have hf := if_t q hf
      refine p_pick [0, 2, 4, 6] ?_
      exact wX12_turned_b218 X hG hnm hf 
    · have hf := if_f q hf
      refine p_aload_n X (dcg dc_X12_turned 118 rfl) rfl rfl ?_
      obtain ⟨hk44, hf⟩ := gd_some hf
      refine p_getR X fl_X12_75 rfl (by decide) (dcg dc_X12_turned 119 rfl) hk44 ?_
      refine p_sipush (v := 2800) X (dcg dc_X12_turned 120 rfl) (by decide) ?_
      refine p_iload X (dcg dc_X12_turned 121 rfl) rfl ?_
      refine p_iadd X (dcg dc_X12_turned 122 rfl) ?_
      refine p_iconst (v := -1) X (dcg dc_X12_turned 123 rfl) (by decide) ?_
      obtain ⟨a45, e46, hf⟩ := gs_some hf
      first | subst e46 | (try rw [e46])
      obtain ⟨⟨hk48, hb47⟩, hf⟩ := gd_some hf
      refine p_iast X (dcg dc_X12_turned 124 rfl) hk48 (vp_of_inb hb47) ?_
      obtain ⟨h49, rfl, hf⟩ := lt_some hf
      refine p_pick [0, 2, 4, 6] ?_
      exact wX12_turned_b218 X hG hnm hf 
  · have hf := if_f q hf
    refine p_iload X (dcg dc_X12_turned 76 rfl) rfl ?_
    refine p_iconst (v := -1) X (dcg dc_X12_turned 77 rfl) (by decide) ?_
    refine p_icmp_ne (tgt := 155) X (dcg dc_X12_turned 78 rfl) (by decide) (fun q => ?_) (fun q => ?_)
    · have hf := if_t q hf
      refine p_aload_n X (dcg dc_X12_turned 90 rfl) rfl rfl ?_
      obtain ⟨hk50, hf⟩ := gd_some hf
      refine p_getR X fl_X12_75 rfl (by decide) (dcg dc_X12_turned 91 rfl) hk50 ?_
      refine p_sipush (v := 2800) X (dcg dc_X12_turned 92 rfl) (by decide) ?_
      refine p_iload X (dcg dc_X12_turned 93 rfl) rfl ?_
      refine p_iadd X (dcg dc_X12_turned 94 rfl) ?_
      refine p_aload_n X (dcg dc_X12_turned 95 rfl) rfl rfl ?_
      refine p_getR X fl_X12_129 rfl (by decide) (dcg dc_X12_turned 96 rfl) hk50 ?_
      refine p_iload X (dcg dc_X12_turned 97 rfl) rfl ?_
      obtain ⟨a51, e52, hf⟩ := gs_some hf
      first | subst e52 | (try rw [e52])
      obtain ⟨⟨hk54, hb53⟩, hf⟩ := gd_some hf
      refine p_iald X (dcg dc_X12_turned 98 rfl) hk54 (vp_of_inb hb53) ?_
      obtain ⟨a55, e56, hf⟩ := gs_some hf
      first | subst e56 | (try rw [e56])
      obtain ⟨⟨hk58, hb57⟩, hf⟩ := gd_some hf
      refine p_iast X (dcg dc_X12_turned 99 rfl) hk58 (vp_of_inb hb57) ?_
      obtain ⟨h59, rfl, hf⟩ := lt_some hf
      refine p_pick [0, 1, 2, 4, 6, 8] ?_
      exact wX12_turned_b173 X hG hnm hf k0 kf
    · have hf := if_f q hf
      refine p_aload_n X (dcg dc_X12_turned 79 rfl) rfl rfl ?_
      obtain ⟨hk69, hf⟩ := gd_some hf
      refine p_getR X fl_X12_72 rfl (by decide) (dcg dc_X12_turned 80 rfl) hk69 ?_
      refine p_sipush (v := 2800) X (dcg dc_X12_turned 81 rfl) (by decide) ?_
      refine p_iload X (dcg dc_X12_turned 82 rfl) rfl ?_
      refine p_iadd X (dcg dc_X12_turned 83 rfl) ?_
      refine p_aload_n X (dcg dc_X12_turned 84 rfl) rfl rfl ?_
      refine p_getR X fl_X12_129 rfl (by decide) (dcg dc_X12_turned 85 rfl) hk69 ?_
      refine p_iload X (dcg dc_X12_turned 86 rfl) rfl ?_
      obtain ⟨a70, e71, hf⟩ := gs_some hf
      first | subst e71 | (try rw [e71])
      obtain ⟨⟨hk73, hb72⟩, hf⟩ := gd_some hf
      refine p_iald X (dcg dc_X12_turned 87 rfl) hk73 (vp_of_inb hb72) ?_
      obtain ⟨a74, e75, hf⟩ := gs_some hf
      first | subst e75 | (try rw [e75])
      obtain ⟨⟨hk77, hb76⟩, hf⟩ := gd_some hf
      refine p_iast X (dcg dc_X12_turned 88 rfl) hk77 (vp_of_inb hb76) ?_
      obtain ⟨h78, rfl, hf⟩ := lt_some hf
      refine p_goto (tgt := 173) X (dcg dc_X12_turned 89 rfl) (by decide) ?_
      refine p_pick [0, 1, 2, 4, 6, 8] ?_
      exact wX12_turned_b173 X hG hnm hf k0 kf
noncomputable def fX12_turned_l122 (v0 : Nat) (v1 : Int32) (v2 : Int32) (v4 : Int32) (v6 : Int32) (v7 : Int32) (v8 : Int32) (h : PH) : Option (Int32 × PH) := wh (fun z : (Int32 × Int32 × PH) => fX12_turned_c122 v0 v1 v2 v4 v6 (z.1) (z.2.1) (z.2.2)) (v7, v8, h)
set_option maxRecDepth 100000 in
theorem mX12_turned_l122 {v0 : Nat} {v1 : Int32} {v2 : Int32} {v4 : Int32} {v6 : Int32} {v7 : Int32} {v8 : Int32} {h : PH} {r : (Int32 × PH)} (hf : fX12_turned_l122 v0 v1 v2 v4 v6 v7 v8 h = some r) : eqz h (hX r.2) (hV r.2) := by
  unfold fX12_turned_l122 at hf
  refine wh_ind (P := fun z => eqz (z.2.2) (hX r.2) (hV r.2)) (fun z x0 hs i1 i2 => ?_) _ hf
  obtain ⟨c0, cf⟩ := mX12_turned_c122 (v0 := v0) (v1 := v1) (v2 := v2) (v4 := v4) (v6 := v6) (v7 := z.1) (v8 := z.2.1) (h := z.2.2) hs
  rcases hxx : x0 with zz | zz
  · exact eqz_tr (c0 zz hxx) (i1 zz hxx)
  · have ee := i2 zz hxx; subst ee; exact cf zz hxx
set_option maxRecDepth 100000 in
theorem wX12_turned_l122 {E : PE} {p : Program} {l : Launch} {e : Env} {s : State} {m : MethodId} {args : Array Value} {below : List Frame} {meth : Method} {c : Code} (X : Cx E p l e (rmv 2 0 0) s m args below meth c RX12 cX12_turned 9 (some .int)) (hG : Gs E l) (hnm : meth.name = yX12_turned.name) {v0 : Nat} {v1 : Int32} {v2 : Int32} {v4 : Int32} {v6 : Int32} {v7 : Int32} {v8 : Int32} {h : PH} {r : (Int32 × PH)} (hf : fX12_turned_l122 v0 v1 v2 v4 v6 v7 v8 h = some r)  : PW E p l e (rmv 2 0 0) s m args below meth c 9 0 0 (MQ below (QG E (fun v u => v = some (.int r.1) ∧ u = r.2)) args s 0 0 (pA E)) h 122 [(0, some (.ref v0)), (1, some (.int v1)), (2, some (.int v2)), (4, some (.int v4)), (6, some (.int v6)), (7, some (.int v7)), (8, some (.int v8))] [] := by
  unfold fX12_turned_l122 at hf
  refine wh_ind (P := fun z => PW E p l e (rmv 2 0 0) s m args below meth c 9 0 0 (MQ below (QG E (fun v u => v = some (.int r.1) ∧ u = r.2)) args s 0 0 (pA E)) (z.2.2) 122 [(0, some (.ref v0)), (1, some (.int v1)), (2, some (.int v2)), (4, some (.int v4)), (6, some (.int v6)), (7, some (.int (z.1))), (8, some (.int (z.2.1)))] []) (fun z x0 hs i1 i2 => ?_) _ hf
  exact wX12_turned_c122 (r := r) (v0 := v0) (v1 := v1) (v2 := v2) (v4 := v4) (v6 := v6) (v7 := z.1) (v8 := z.2.1) (h := z.2.2) X hG hnm hs i1  i2
noncomputable def fX12_turned_b70 (v0 : Nat) (v1 : Int32) (v2 : Int32) (v3 : Int32) (v4 : Int32) (t0 : Int32) (h : PH) : Option (Int32 × PH) :=
  gd (hK h v0 = 12) (gs (hR h 12 v0 26) (fun a16 =>
  gd (hK h a16 = 20 ∧ inb v3 (hN h a16)) (gs (hR h 12 v0 27) (fun a20 =>
  gd (hK h a20 = 20 ∧ inb v3 (hN h a20)) (bd (fX12_makes v0 (7 : Int32) t0 (hI h 20 a16 (Int32.toNatClampNeg v3)) (hI h 20 a20 (Int32.toNatClampNeg v3)) h) (fun z24 =>
  gd (hK z24.2 v0 = 12) (gs (hR z24.2 12 v0 28) (fun a26 =>
  gd (hK z24.2 a26 = 20 ∧ inb v3 (hN z24.2 a26)) (gd (inb ((2800 : Int32) + z24.1) (hN z24.2 a26)) (lt (sI z24.2 20 a26 (Int32.toNatClampNeg ((2800 : Int32) + z24.1)) (hI z24.2 20 a26 (Int32.toNatClampNeg v3))) (fun h31 =>
  gs (hR h31 12 v0 29) (fun a32 =>
  gd (hK h31 a32 = 20 ∧ inb v3 (hN h31 a32)) (fX12_turned_l122 v0 v1 v2 v4 z24.1 (-1 : Int32) (hI h31 20 a32 (Int32.toNatClampNeg v3)) h31)))))))))))))
set_option maxRecDepth 100000 in
theorem mX12_turned_b70 {v0 : Nat} {v1 : Int32} {v2 : Int32} {v3 : Int32} {v4 : Int32} {t0 : Int32} {h : PH} {r : (Int32 × PH)} (hf : fX12_turned_b70 v0 v1 v2 v3 v4 t0 h = some r) : eqz h (hX r.2) (hV r.2) := by
  unfold fX12_turned_b70 at hf
  have hle := eqz_rf h
  obtain ⟨hk15, hf⟩ := gd_some hf
  obtain ⟨a16, e17, hf⟩ := gs_some hf
  obtain ⟨⟨hk19, hb18⟩, hf⟩ := gd_some hf
  obtain ⟨a20, e21, hf⟩ := gs_some hf
  obtain ⟨⟨hk23, hb22⟩, hf⟩ := gd_some hf
  obtain ⟨z24, hz24, hf⟩ := bd_some hf
  have hle := eqz_rt (mX12_makes hz24) hle
  obtain ⟨hk25, hf⟩ := gd_some hf
  obtain ⟨a26, e27, hf⟩ := gs_some hf
  obtain ⟨⟨hk29, hb28⟩, hf⟩ := gd_some hf
  obtain ⟨hb30, hf⟩ := gd_some hf
  obtain ⟨h31, rfl, hf⟩ := lt_some hf
  obtain ⟨a32, e33, hf⟩ := gs_some hf
  obtain ⟨⟨hk35, hb34⟩, hf⟩ := gd_some hf
  exact eqz_rt (mX12_turned_l122 hf) hle
set_option maxRecDepth 100000 in
theorem wX12_turned_b70 {E : PE} {p : Program} {l : Launch} {e : Env} {s : State} {m : MethodId} {args : Array Value} {below : List Frame} {meth : Method} {c : Code} (X : Cx E p l e (rmv 2 0 0) s m args below meth c RX12 cX12_turned 9 (some .int)) (hG : Gs E l) (hnm : meth.name = yX12_turned.name) {v0 : Nat} {v1 : Int32} {v2 : Int32} {v3 : Int32} {v4 : Int32} {t0 : Int32} {h : PH} {r : (Int32 × PH)} (hf : fX12_turned_b70 v0 v1 v2 v3 v4 t0 h = some r)  : PW E p l e (rmv 2 0 0) s m args below meth c 9 0 0 (MQ below (QG E (fun v u => v = some (.int r.1) ∧ u = r.2)) args s 0 0 (pA E)) h 70 [(0, some (.ref v0)), (1, some (.int v1)), (2, some (.int v2)), (3, some (.int v3)), (4, some (.int v4))] [.int t0] := by
  unfold fX12_turned_b70 at hf
  refine p_istore X (dcg dc_X12_turned 42 rfl) (by decide) rfl ?_
  refine p_aload_n X (dcg dc_X12_turned 43 rfl) rfl rfl ?_
  refine p_bipush (v := 7) X (dcg dc_X12_turned 44 rfl) (by decide) ?_
  refine p_iload X (dcg dc_X12_turned 45 rfl) rfl ?_
  refine p_aload_n X (dcg dc_X12_turned 46 rfl) rfl rfl ?_
  obtain ⟨hk15, hf⟩ := gd_some hf
  refine p_getR X fl_X12_63 rfl (by decide) (dcg dc_X12_turned 47 rfl) hk15 ?_
  refine p_iload_n X (dcg dc_X12_turned 48 rfl) rfl rfl ?_
  obtain ⟨a16, e17, hf⟩ := gs_some hf
  first | subst e17 | (try rw [e17])
  obtain ⟨⟨hk19, hb18⟩, hf⟩ := gd_some hf
  refine p_iald X (dcg dc_X12_turned 49 rfl) hk19 (vp_of_inb hb18) ?_
  refine p_aload_n X (dcg dc_X12_turned 50 rfl) rfl rfl ?_
  refine p_getR X fl_X12_66 rfl (by decide) (dcg dc_X12_turned 51 rfl) hk15 ?_
  refine p_iload_n X (dcg dc_X12_turned 52 rfl) rfl rfl ?_
  obtain ⟨a20, e21, hf⟩ := gs_some hf
  first | subst e21 | (try rw [e21])
  obtain ⟨⟨hk23, hb22⟩, hf⟩ := gd_some hf
  refine p_iald X (dcg dc_X12_turned 53 rfl) hk23 (vp_of_inb hb22) ?_
  obtain ⟨z24, hz24, hf⟩ := bd_some hf
  refine p_callV (As := [_, _, _, _]) X ml_X12_277 (dcg dc_X12_turned 54 rfl) rfl rfl hk15 (wX12_makes hG hz24) (by decide) (room4 (Nat.le_of_ble_eq_true rfl)) (Nat.le_refl _) (Nat.le_refl _) ?_
  rintro _ u9 ⟨rfl, e9⟩; have e9 := e9.symm; subst e9
  refine p_istore X (dcg dc_X12_turned 55 rfl) (by decide) rfl ?_
  refine p_aload_n X (dcg dc_X12_turned 56 rfl) rfl rfl ?_
  obtain ⟨hk25, hf⟩ := gd_some hf
  refine p_getR X fl_X12_69 rfl (by decide) (dcg dc_X12_turned 57 rfl) hk25 ?_
  refine p_sipush (v := 2800) X (dcg dc_X12_turned 58 rfl) (by decide) ?_
  refine p_iload X (dcg dc_X12_turned 59 rfl) rfl ?_
  refine p_iadd X (dcg dc_X12_turned 60 rfl) ?_
  refine p_aload_n X (dcg dc_X12_turned 61 rfl) rfl rfl ?_
  refine p_getR X fl_X12_69 rfl (by decide) (dcg dc_X12_turned 62 rfl) hk25 ?_
  refine p_iload_n X (dcg dc_X12_turned 63 rfl) rfl rfl ?_
  obtain ⟨a26, e27, hf⟩ := gs_some hf
  first | subst e27 | (try rw [e27])
  obtain ⟨⟨hk29, hb28⟩, hf⟩ := gd_some hf
  refine p_iald X (dcg dc_X12_turned 64 rfl) hk29 (vp_of_inb hb28) ?_
  obtain ⟨hb30, hf⟩ := gd_some hf
  refine p_iast X (dcg dc_X12_turned 65 rfl) hk29 (vp_of_inb hb30) ?_
  obtain ⟨h31, rfl, hf⟩ := lt_some hf
  refine p_iconst (v := -1) X (dcg dc_X12_turned 66 rfl) (by decide) ?_
  refine p_istore X (dcg dc_X12_turned 67 rfl) (by decide) rfl ?_
  refine p_aload_n X (dcg dc_X12_turned 68 rfl) rfl rfl ?_
  refine p_getR X fl_X12_72 rfl (by decide) (dcg dc_X12_turned 69 rfl) hk25 ?_
  refine p_iload_n X (dcg dc_X12_turned 70 rfl) rfl rfl ?_
  obtain ⟨a32, e33, hf⟩ := gs_some hf
  first | subst e33 | (try rw [e33])
  obtain ⟨⟨hk35, hb34⟩, hf⟩ := gd_some hf
  refine p_iald X (dcg dc_X12_turned 71 rfl) hk35 (vp_of_inb hb34) ?_
  refine p_istore X (dcg dc_X12_turned 72 rfl) (by decide) rfl ?_
  refine p_pick [0, 1, 2, 4, 6, 7, 8] ?_
  exact wX12_turned_l122 X hG hnm hf 
noncomputable def fX12_turned_b68 (v0 : Nat) (v1 : Int32) (v2 : Int32) (v3 : Int32) (v4 : Int32) (h : PH) : Option (Int32 × PH) :=
  fX12_turned_b70 v0 v1 v2 v3 v4 v4 h
set_option maxRecDepth 100000 in
theorem mX12_turned_b68 {v0 : Nat} {v1 : Int32} {v2 : Int32} {v3 : Int32} {v4 : Int32} {h : PH} {r : (Int32 × PH)} (hf : fX12_turned_b68 v0 v1 v2 v3 v4 h = some r) : eqz h (hX r.2) (hV r.2) := by
  unfold fX12_turned_b68 at hf
  have hle := eqz_rf h
  exact eqz_rt (mX12_turned_b70 hf) hle
set_option maxRecDepth 100000 in
theorem wX12_turned_b68 {E : PE} {p : Program} {l : Launch} {e : Env} {s : State} {m : MethodId} {args : Array Value} {below : List Frame} {meth : Method} {c : Code} (X : Cx E p l e (rmv 2 0 0) s m args below meth c RX12 cX12_turned 9 (some .int)) (hG : Gs E l) (hnm : meth.name = yX12_turned.name) {v0 : Nat} {v1 : Int32} {v2 : Int32} {v3 : Int32} {v4 : Int32} {h : PH} {r : (Int32 × PH)} (hf : fX12_turned_b68 v0 v1 v2 v3 v4 h = some r)  : PW E p l e (rmv 2 0 0) s m args below meth c 9 0 0 (MQ below (QG E (fun v u => v = some (.int r.1) ∧ u = r.2)) args s 0 0 (pA E)) h 68 [(0, some (.ref v0)), (1, some (.int v1)), (2, some (.int v2)), (3, some (.int v3)), (4, some (.int v4))] [] := by
  unfold fX12_turned_b68 at hf
  refine p_iload X (dcg dc_X12_turned 41 rfl) rfl ?_
  refine p_pick [0, 1, 2, 3, 4] ?_
  exact wX12_turned_b70 X hG hnm hf 
noncomputable def fX12_turned_b44 (v0 : Nat) (v1 : Int32) (v2 : Int32) (v3 : Int32) (v4 : Int32) (h : PH) : Option (Int32 × PH) :=
  gd (hK h v0 = 12) (gs (hR h 12 v0 52) (fun a11 =>
  gd (hK h a11 = 20 ∧ inb v2 (hN h a11)) (if (¬ (hI h 20 a11 (Int32.toNatClampNeg v2)) = (2 : Int32)) then (fX12_turned_b68 v0 v1 v2 v3 v4 h) else
  if (v4 < (5 : Int32)) then (fX12_turned_b68 v0 v1 v2 v3 v4 h) else
  fX12_turned_b70 v0 v1 v2 v3 v4 ((11 : Int32) - v4) h)))
set_option maxRecDepth 100000 in
theorem mX12_turned_b44 {v0 : Nat} {v1 : Int32} {v2 : Int32} {v3 : Int32} {v4 : Int32} {h : PH} {r : (Int32 × PH)} (hf : fX12_turned_b44 v0 v1 v2 v3 v4 h = some r) : eqz h (hX r.2) (hV r.2) := by
  unfold fX12_turned_b44 at hf
  have hle := eqz_rf h
  obtain ⟨hk10, hf⟩ := gd_some hf
  obtain ⟨a11, e12, hf⟩ := gs_some hf
  obtain ⟨⟨hk14, hb13⟩, hf⟩ := gd_some hf
  rcases ite_or hf with ⟨q, hf⟩ | ⟨q, hf⟩
  · have hf := if_t q hf
    exact eqz_rt (mX12_turned_b68 hf) hle
  · have hf := if_f q hf
    rcases ite_or hf with ⟨q, hf⟩ | ⟨q, hf⟩
    · have hf := if_t q hf
      exact eqz_rt (mX12_turned_b68 hf) hle
    · have hf := if_f q hf
      exact eqz_rt (mX12_turned_b70 hf) hle
set_option maxRecDepth 100000 in
theorem wX12_turned_b44 {E : PE} {p : Program} {l : Launch} {e : Env} {s : State} {m : MethodId} {args : Array Value} {below : List Frame} {meth : Method} {c : Code} (X : Cx E p l e (rmv 2 0 0) s m args below meth c RX12 cX12_turned 9 (some .int)) (hG : Gs E l) (hnm : meth.name = yX12_turned.name) {v0 : Nat} {v1 : Int32} {v2 : Int32} {v3 : Int32} {v4 : Int32} {h : PH} {r : (Int32 × PH)} (hf : fX12_turned_b44 v0 v1 v2 v3 v4 h = some r)  : PW E p l e (rmv 2 0 0) s m args below meth c 9 0 0 (MQ below (QG E (fun v u => v = some (.int r.1) ∧ u = r.2)) args s 0 0 (pA E)) h 44 [(0, some (.ref v0)), (1, some (.int v1)), (2, some (.int v2)), (3, some (.int v3)), (4, some (.int v4))] [] := by
  unfold fX12_turned_b44 at hf
  refine p_aload_n X (dcg dc_X12_turned 28 rfl) rfl rfl ?_
  obtain ⟨hk10, hf⟩ := gd_some hf
  refine p_getR X fl_X12_126 rfl (by decide) (dcg dc_X12_turned 29 rfl) hk10 ?_
  refine p_iload_n X (dcg dc_X12_turned 30 rfl) rfl rfl ?_
  obtain ⟨a11, e12, hf⟩ := gs_some hf
  first | subst e12 | (try rw [e12])
  obtain ⟨⟨hk14, hb13⟩, hf⟩ := gd_some hf
  refine p_iald X (dcg dc_X12_turned 31 rfl) hk14 (vp_of_inb hb13) ?_
  refine p_iconst (v := 2) X (dcg dc_X12_turned 32 rfl) (by decide) ?_
  refine p_icmp_ne (tgt := 68) X (dcg dc_X12_turned 33 rfl) (by decide) (fun q => ?_) (fun q => ?_)
  · have hf := if_t q hf
    refine p_pick [0, 1, 2, 3, 4] ?_
    exact wX12_turned_b68 X hG hnm hf 
  · have hf := if_f q hf
    refine p_iload X (dcg dc_X12_turned 34 rfl) rfl ?_
    refine p_iconst (v := 5) X (dcg dc_X12_turned 35 rfl) (by decide) ?_
    refine p_icmp_lt (tgt := 68) X (dcg dc_X12_turned 36 rfl) (by decide) (fun q => ?_) (fun q => ?_)
    · have hf := if_t q hf
      refine p_pick [0, 1, 2, 3, 4] ?_
      exact wX12_turned_b68 X hG hnm hf 
    · have hf := if_f q hf
      refine p_bipush (v := 11) X (dcg dc_X12_turned 37 rfl) (by decide) ?_
      refine p_iload X (dcg dc_X12_turned 38 rfl) rfl ?_
      refine p_isub X (dcg dc_X12_turned 39 rfl) ?_
      refine p_goto (tgt := 70) X (dcg dc_X12_turned 40 rfl) (by decide) ?_
      refine p_pick [0, 1, 2, 3, 4] ?_
      exact wX12_turned_b70 X hG hnm hf 
noncomputable def fX12_turned (v0 : Nat) (v1 : Int32) (v2 : Int32) (h : PH) : Option (Int32 × PH) :=
  gd (hK h v0 = 12) (gs (hR h 12 v0 25) (fun a2 =>
  gd (hK h a2 = 20 ∧ inb (((400 : Int32) * v1) + v2) (hN h a2)) (gs (hR h 12 v0 52) (fun a6 =>
  gd (hK h a6 = 20 ∧ inb v2 (hN h a6)) (if (¬ (hI h 20 a6 (Int32.toNatClampNeg v2)) = (2 : Int32)) then (fX12_turned_b44 v0 v1 v2 (((400 : Int32) * v1) + v2) (hI h 20 a2 (Int32.toNatClampNeg (((400 : Int32) * v1) + v2))) h) else
  if (¬ (hI h 20 a2 (Int32.toNatClampNeg (((400 : Int32) * v1) + v2))) = (4 : Int32)) then (fX12_turned_b44 v0 v1 v2 (((400 : Int32) * v1) + v2) (hI h 20 a2 (Int32.toNatClampNeg (((400 : Int32) * v1) + v2))) h) else
  gs (hR h 12 v0 29) (fun a79 =>
  gd (hK h a79 = 20 ∧ inb (((400 : Int32) * v1) + v2) (hN h a79)) (gs (hR h 12 v0 53) (fun a83 =>
  gd (hK h a83 = 20 ∧ inb (hI h 20 a79 (Int32.toNatClampNeg (((400 : Int32) * v1) + v2))) (hN h a83)) (some (((hI h 20 a83 (Int32.toNatClampNeg (hI h 20 a79 (Int32.toNatClampNeg (((400 : Int32) * v1) + v2))))), h)))))))))))
set_option maxRecDepth 100000 in
theorem mX12_turned {v0 : Nat} {v1 : Int32} {v2 : Int32} {h : PH} {r : (Int32 × PH)} (hf : fX12_turned v0 v1 v2 h = some r) : eqz h (hX r.2) (hV r.2) := by
  unfold fX12_turned at hf
  have hle := eqz_rf h
  obtain ⟨hk1, hf⟩ := gd_some hf
  obtain ⟨a2, e3, hf⟩ := gs_some hf
  obtain ⟨⟨hk5, hb4⟩, hf⟩ := gd_some hf
  obtain ⟨a6, e7, hf⟩ := gs_some hf
  obtain ⟨⟨hk9, hb8⟩, hf⟩ := gd_some hf
  rcases ite_or hf with ⟨q, hf⟩ | ⟨q, hf⟩
  · have hf := if_t q hf
    exact eqz_rt (mX12_turned_b44 hf) hle
  · have hf := if_f q hf
    rcases ite_or hf with ⟨q, hf⟩ | ⟨q, hf⟩
    · have hf := if_t q hf
      exact eqz_rt (mX12_turned_b44 hf) hle
    · have hf := if_f q hf
      obtain ⟨a79, e80, hf⟩ := gs_some hf
      obtain ⟨⟨hk82, hb81⟩, hf⟩ := gd_some hf
      obtain ⟨a83, e84, hf⟩ := gs_some hf
      obtain ⟨⟨hk86, hb85⟩, hf⟩ := gd_some hf
      have ee := Option.some.inj hf; subst ee; exact hle
set_option maxRecDepth 100000 in
theorem wX12_turned {E : PE} {l : Launch} (hG : Gs E l) {v0 : Nat} {v1 : Int32} {v2 : Int32} {h : PH} {r : (Int32 × PH)} (hf : fX12_turned v0 v1 v2 h = some r) : Ct E l 2 0 0 yX12_turned cX12_turned 9 (some .int) [.ref v0, .int v1, .int v2] h (fun v u => v = some (.int r.1) ∧ u = r.2) := by
  refine ct_of hG (by decide) (Nat.le_of_ble_eq_true rfl) ?_
  intro p e s m args below meth c X hnm
  show PW E p l e _ s m args below meth c _ 0 0 _ h 0 [(0, some (.ref v0)), (1, some (.int v1)), (2, some (.int v2))] []
  unfold fX12_turned at hf
  refine p_sipush (v := 400) X (dcg dc_X12_turned 0 rfl) (by decide) ?_
  refine p_iload_n X (dcg dc_X12_turned 1 rfl) rfl rfl ?_
  refine p_imul X (dcg dc_X12_turned 2 rfl) ?_
  refine p_iload_n X (dcg dc_X12_turned 3 rfl) rfl rfl ?_
  refine p_iadd X (dcg dc_X12_turned 4 rfl) ?_
  refine p_istore_n X (dcg dc_X12_turned 5 rfl) rfl (by decide) rfl ?_
  refine p_aload_n X (dcg dc_X12_turned 6 rfl) rfl rfl ?_
  obtain ⟨hk1, hf⟩ := gd_some hf
  refine p_getR X fl_X12_60 rfl (by decide) (dcg dc_X12_turned 7 rfl) hk1 ?_
  refine p_iload_n X (dcg dc_X12_turned 8 rfl) rfl rfl ?_
  obtain ⟨a2, e3, hf⟩ := gs_some hf
  first | subst e3 | (try rw [e3])
  obtain ⟨⟨hk5, hb4⟩, hf⟩ := gd_some hf
  refine p_iald X (dcg dc_X12_turned 9 rfl) hk5 (vp_of_inb hb4) ?_
  refine p_istore X (dcg dc_X12_turned 10 rfl) (by decide) rfl ?_
  refine p_aload_n X (dcg dc_X12_turned 11 rfl) rfl rfl ?_
  refine p_getR X fl_X12_126 rfl (by decide) (dcg dc_X12_turned 12 rfl) hk1 ?_
  refine p_iload_n X (dcg dc_X12_turned 13 rfl) rfl rfl ?_
  obtain ⟨a6, e7, hf⟩ := gs_some hf
  first | subst e7 | (try rw [e7])
  obtain ⟨⟨hk9, hb8⟩, hf⟩ := gd_some hf
  refine p_iald X (dcg dc_X12_turned 14 rfl) hk9 (vp_of_inb hb8) ?_
  refine p_iconst (v := 2) X (dcg dc_X12_turned 15 rfl) (by decide) ?_
  refine p_icmp_ne (tgt := 44) X (dcg dc_X12_turned 16 rfl) (by decide) (fun q => ?_) (fun q => ?_)
  · have hf := if_t q hf
    refine p_pick [0, 1, 2, 3, 4] ?_
    exact wX12_turned_b44 X hG hnm hf 
  · have hf := if_f q hf
    refine p_iload X (dcg dc_X12_turned 17 rfl) rfl ?_
    refine p_iconst (v := 4) X (dcg dc_X12_turned 18 rfl) (by decide) ?_
    refine p_icmp_ne (tgt := 44) X (dcg dc_X12_turned 19 rfl) (by decide) (fun q => ?_) (fun q => ?_)
    · have hf := if_t q hf
      refine p_pick [0, 1, 2, 3, 4] ?_
      exact wX12_turned_b44 X hG hnm hf 
    · have hf := if_f q hf
      refine p_aload_n X (dcg dc_X12_turned 20 rfl) rfl rfl ?_
      refine p_getR X fl_X12_129 rfl (by decide) (dcg dc_X12_turned 21 rfl) hk1 ?_
      refine p_aload_n X (dcg dc_X12_turned 22 rfl) rfl rfl ?_
      refine p_getR X fl_X12_72 rfl (by decide) (dcg dc_X12_turned 23 rfl) hk1 ?_
      refine p_iload_n X (dcg dc_X12_turned 24 rfl) rfl rfl ?_
      obtain ⟨a79, e80, hf⟩ := gs_some hf
      first | subst e80 | (try rw [e80])
      obtain ⟨⟨hk82, hb81⟩, hf⟩ := gd_some hf
      refine p_iald X (dcg dc_X12_turned 25 rfl) hk82 (vp_of_inb hb81) ?_
      obtain ⟨a83, e84, hf⟩ := gs_some hf
      first | subst e84 | (try rw [e84])
      obtain ⟨⟨hk86, hb85⟩, hf⟩ := gd_some hf
      refine p_iald X (dcg dc_X12_turned 26 rfl) hk86 (vp_of_inb hb85) ?_
      have er := Option.some.inj hf
      subst er
      exact p_iret X rfl (dcg dc_X12_turned 27 rfl) ⟨rfl, rfl⟩ (Nat.le_refl _) (Nat.le_refl _)
theorem dc_X12_turns : decs cX12_turns [(0, .iconst 0, 1), (1, .istore_n 2, 1), (2, .iload_n 2, 1), (3, .aload_n 0, 1), (4, .getfield 81, 3), (7, .iload_n 1, 1), (8, .iaload, 1), (9, .if_icmp .ge 16, 3), (12, .aload_n 0, 1), (13, .getfield 126, 3), (16, .iload_n 2, 1), (17, .iconst 0, 1), (18, .iastore, 1), (19, .iinc 2 1, 3), (22, .goto (-20), 3), (25, .aload_n 0, 1), (26, .getfield 126, 3), (29, .aload_n 0, 1), (30, .getfield 87, 3), (33, .iload_n 1, 1), (34, .iaload, 1), (35, .iconst 2, 1), (36, .iastore, 1), (37, .aload_n 0, 1), (38, .getfield 81, 3), (41, .iload_n 1, 1), (42, .iaload, 1), (43, .iconst 1, 1), (44, .isub, 1), (45, .istore_n 2, 1), (46, .iload_n 2, 1), (47, .ifCond .lt 101, 3), (50, .aload_n 0, 1), (51, .getfield 126, 3), (54, .iload_n 2, 1), (55, .iaload, 1), (56, .iconst 2, 1), (57, .if_icmp .ne 23, 3), (60, .aload_n 0, 1), (61, .getfield 60, 3), (64, .sipush 400, 3), (67, .iload_n 1, 1), (68, .imul, 1), (69, .iload_n 2, 1), (70, .iadd, 1), (71, .iaload, 1), (72, .iconst 4, 1), (73, .if_icmp .ne 7, 3), (76, .iconst 1, 1), (77, .goto 9, 3), (80, .aload_n 0, 1), (81, .getfield 126, 3), (84, .iload_n 2, 1), (85, .iaload, 1), (86, .istore_n 3, 1), (87, .aload_n 0, 1), (88, .getfield 72, 3), (91, .sipush 400, 3), (94, .iload_n 1, 1), (95, .imul, 1), (96, .iload_n 2, 1), (97, .iadd, 1), (98, .iaload, 1), (99, .istore 4, 2), (101, .iload 4, 2), (103, .iconst (-1), 1), (104, .if_icmp .eq 38, 3), (107, .aload_n 0, 1), (108, .getfield 126, 3), (111, .iload_n 2, 1), (112, .iaload, 1), (113, .ifCond .eq 29, 3), (116, .aload_n 0, 1), (117, .getfield 126, 3), (120, .iload 4, 2), (122, .iload_n 3, 1), (123, .iastore, 1), (124, .aload_n 0, 1), (125, .getfield 75, 3), (128, .sipush 400, 3), (131, .iload_n 1, 1), (132, .imul, 1), (133, .iload 4, 2), (135, .iadd, 1), (136, .iaload, 1), (137, .istore 4, 2), (139, .goto (-38), 3), (142, .iinc 2 (-1), 3), (145, .goto (-99), 3), (148, .aload_n 0, 1), (149, .getfield 81, 3), (152, .bipush 7, 2), (154, .iconst 0, 1), (155, .iastore, 1), (156, .aload_n 0, 1), (157, .getfield 84, 3), (160, .bipush 7, 2), (162, .aload_n 0, 1), (163, .getfield 84, 3), (166, .iload_n 1, 1), (167, .iaload, 1), (168, .iastore, 1), (169, .iconst 0, 1), (170, .istore_n 2, 1), (171, .iload_n 2, 1), (172, .bipush 20, 2), (174, .if_icmp .ge 30, 3), (177, .aload_n 0, 1), (178, .getfield 78, 3), (181, .sipush 140, 3), (184, .iload_n 2, 1), (185, .iadd, 1), (186, .aload_n 0, 1), (187, .getfield 78, 3), (190, .bipush 20, 2), (192, .iload_n 1, 1), (193, .imul, 1), (194, .iload_n 2, 1), (195, .iadd, 1), (196, .iaload, 1), (197, .iastore, 1), (198, .iinc 2 1, 3), (201, .goto (-30), 3), (204, .iconst 0, 1), (205, .istore_n 2, 1), (206, .iload_n 2, 1), (207, .aload_n 0, 1), (208, .getfield 81, 3), (211, .iload_n 1, 1), (212, .iaload, 1), (213, .if_icmp .ge 30, 3), (216, .aload_n 0, 1), (217, .getfield 126, 3), (220, .iload_n 2, 1), (221, .iaload, 1), (222, .ifCond .eq 15, 3), (225, .aload_n 0, 1), (226, .getfield 129, 3), (229, .iload_n 2, 1), (230, .aload_n 0, 1), (231, .iload_n 1, 1), (232, .iload_n 2, 1), (233, .invokevirtual 370, 3), (236, .iastore, 1), (237, .iinc 2 1, 3), (240, .goto (-34), 3), (243, .aload_n 0, 1), (244, .getfield 87, 3), (247, .bipush 7, 2), (249, .aload_n 0, 1), (250, .getfield 129, 3), (253, .aload_n 0, 1), (254, .getfield 87, 3), (257, .iload_n 1, 1), (258, .iaload, 1), (259, .iaload, 1), (260, .iastore, 1), (261, .aload_n 0, 1), (262, .getfield 75, 3), (265, .sipush 2800, 3), (268, .aload_n 0, 1), (269, .getfield 87, 3), (272, .bipush 7, 2), (274, .iaload, 1), (275, .iadd, 1), (276, .iconst (-1), 1), (277, .iastore, 1), (278, .return_, 1)] = true := by decide +kernel
noncomputable def fX12_turns_b237 (v0 : Nat) (v1 : Int32) (v2 : Int32) (h : PH) : Option ((Int32 × PH) ⊕ PH) :=
  some (.inl ((v2 + 1), h))
set_option maxRecDepth 100000 in
theorem mX12_turns_b237 {v0 : Nat} {v1 : Int32} {v2 : Int32} {h : PH} {x : ((Int32 × PH) ⊕ PH)} (hf : fX12_turns_b237 v0 v1 v2 h = some x) : (∀ w9 : (Int32 × PH), x = .inl w9 → eqz h (hX (w9.2)) (hV (w9.2))) ∧ (∀ w9 : PH, x = .inr w9 → eqz h (hX w9) (hV w9)) := by
  unfold fX12_turns_b237 at hf
  have hle := eqz_rf h
  have ee := Option.some.inj hf; subst ee
  exact ⟨(fun z e => by have ee := Sum.inl.inj (e); subst ee; exact hle), (fun z e => nomatch e)⟩
set_option maxRecDepth 100000 in
theorem wX12_turns_b237 {E : PE} {p : Program} {l : Launch} {e : Env} {s : State} {m : MethodId} {args : Array Value} {below : List Frame} {meth : Method} {c : Code} (X : Cx E p l e (rmv 3 0 0) s m args below meth c RX12 cX12_turns 5 (none)) (hG : Gs E l) (hnm : meth.name = yX12_turns.name) {v0 : Nat} {v1 : Int32} {v2 : Int32} {h : PH} {r : PH} {x : ((Int32 × PH) ⊕ PH)} (hf : fX12_turns_b237 v0 v1 v2 h = some x) (k0 : ∀ z : (Int32 × PH), x = .inl z → PW E p l e (rmv 3 0 0) s m args below meth c 5 0 0 (MQ below (QG E (fun v u => v = none ∧ u = r)) args s 0 0 (pA E)) (z.2) 206 [(0, some (.ref v0)), (1, some (.int v1)), (2, some (.int (z.1)))] []) (kf : ∀ z : PH, x = .inr z → z = r) : PW E p l e (rmv 3 0 0) s m args below meth c 5 0 0 (MQ below (QG E (fun v u => v = none ∧ u = r)) args s 0 0 (pA E)) h 237 [(0, some (.ref v0)), (1, some (.int v1)), (2, some (.int v2))] [] := by
  unfold fX12_turns_b237 at hf
  refine p_iinc (v := 1) X (dcg dc_X12_turns 144 rfl) rfl (by decide) (by decide) rfl ?_
  refine p_goto (tgt := 206) X (dcg dc_X12_turns 145 rfl) (by decide) ?_
  refine p_pick [0, 1, 2] ?_
  exact k0 _ (Option.some.inj hf).symm
noncomputable def fX12_turns_c206 (v0 : Nat) (v1 : Int32) (v2 : Int32) (h : PH) : Option ((Int32 × PH) ⊕ PH) :=
  gd (hK h v0 = 12) (gs (hR h 12 v0 32) (fun a38 =>
  gd (hK h a38 = 20 ∧ inb v1 (hN h a38)) (if ((hI h 20 a38 (Int32.toNatClampNeg v1)) ≤ v2) then (mr (gs (hR h 12 v0 34) (fun a44 =>
  gd (hK h a44 = 20 ∧ inb v1 (hN h a44)) (gs (hR h 12 v0 53) (fun a48 =>
  gd (hK h a48 = 20 ∧ inb (hI h 20 a44 (Int32.toNatClampNeg v1)) (hN h a48)) (gd (inb (7 : Int32) (hN h a44)) (lt (sI h 20 a44 (Int32.toNatClampNeg (7 : Int32)) (hI h 20 a48 (Int32.toNatClampNeg (hI h 20 a44 (Int32.toNatClampNeg v1))))) (fun h53 =>
  gs (hR h53 12 v0 34) (fun a54 =>
  gd (hK h53 a54 = 20 ∧ inb (7 : Int32) (hN h53 a54)) (gs (hR h53 12 v0 30) (fun a58 =>
  gd (hK h53 a58 = 20 ∧ inb ((2800 : Int32) + (hI h53 20 a54 (Int32.toNatClampNeg (7 : Int32)))) (hN h53 a58)) (lt (sI h53 20 a58 (Int32.toNatClampNeg ((2800 : Int32) + (hI h53 20 a54 (Int32.toNatClampNeg (7 : Int32))))) (-1 : Int32)) (fun h62 =>
  some (h62)))))))))))))) else
  gs (hR h 12 v0 52) (fun a63 =>
  gd (hK h a63 = 20 ∧ inb v2 (hN h a63)) (if ((hI h 20 a63 (Int32.toNatClampNeg v2)) = 0) then (fX12_turns_b237 v0 v1 v2 h) else
  bd (fX12_turned v0 v1 v2 h) (fun z67 =>
  gs (hR h 12 v0 53) (fun a68 =>
  gd (hK z67.2 a68 = 20 ∧ inb v2 (hN z67.2 a68)) (lt (sI z67.2 20 a68 (Int32.toNatClampNeg v2) z67.1) (fun h72 =>
  fX12_turns_b237 v0 v1 v2 h72)))))))))
set_option maxRecDepth 100000 in
theorem mX12_turns_c206 {v0 : Nat} {v1 : Int32} {v2 : Int32} {h : PH} {x : ((Int32 × PH) ⊕ PH)} (hf : fX12_turns_c206 v0 v1 v2 h = some x) : (∀ w9 : (Int32 × PH), x = .inl w9 → eqz h (hX (w9.2)) (hV (w9.2))) ∧ (∀ w9 : PH, x = .inr w9 → eqz h (hX w9) (hV w9)) := by
  unfold fX12_turns_c206 at hf
  have hle := eqz_rf h
  obtain ⟨hk37, hf⟩ := gd_some hf
  obtain ⟨a38, e39, hf⟩ := gs_some hf
  obtain ⟨⟨hk41, hb40⟩, hf⟩ := gd_some hf
  rcases ite_or hf with ⟨q, hf⟩ | ⟨q, hf⟩
  · have hf := if_t q hf
    obtain ⟨y42, hfm, rfl⟩ := mr_some hf; have hf := hfm; clear hfm
    obtain ⟨a44, e45, hf⟩ := gs_some hf
    obtain ⟨⟨hk47, hb46⟩, hf⟩ := gd_some hf
    obtain ⟨a48, e49, hf⟩ := gs_some hf
    obtain ⟨⟨hk51, hb50⟩, hf⟩ := gd_some hf
    obtain ⟨hb52, hf⟩ := gd_some hf
    obtain ⟨h53, rfl, hf⟩ := lt_some hf
    obtain ⟨a54, e55, hf⟩ := gs_some hf
    obtain ⟨⟨hk57, hb56⟩, hf⟩ := gd_some hf
    obtain ⟨a58, e59, hf⟩ := gs_some hf
    obtain ⟨⟨hk61, hb60⟩, hf⟩ := gd_some hf
    obtain ⟨h62, rfl, hf⟩ := lt_some hf
    have ee := Option.some.inj hf; subst ee
    exact ⟨(fun z e => nomatch e), (fun z e => by have ee := Sum.inr.inj (e); subst ee; exact hle)⟩
  · have hf := if_f q hf
    obtain ⟨a63, e64, hf⟩ := gs_some hf
    obtain ⟨⟨hk66, hb65⟩, hf⟩ := gd_some hf
    rcases ite_or hf with ⟨q, hf⟩ | ⟨q, hf⟩
    · have hf := if_t q hf
      obtain ⟨c0, cf⟩ := mX12_turns_b237 hf
      exact ⟨fun z e => eqz_rt (c0 z (e)) hle, fun z e => eqz_rt (cf z (e)) hle⟩
    · have hf := if_f q hf
      obtain ⟨z67, hz67, hf⟩ := bd_some hf
      have hle := eqz_rt (mX12_turned hz67) hle
      obtain ⟨a68, e69, hf⟩ := gs_some hf
      obtain ⟨⟨hk71, hb70⟩, hf⟩ := gd_some hf
      obtain ⟨h72, rfl, hf⟩ := lt_some hf
      obtain ⟨c0, cf⟩ := mX12_turns_b237 hf
      exact ⟨fun z e => eqz_rt (c0 z (e)) hle, fun z e => eqz_rt (cf z (e)) hle⟩
set_option maxRecDepth 100000 in
theorem wX12_turns_c206 {E : PE} {p : Program} {l : Launch} {e : Env} {s : State} {m : MethodId} {args : Array Value} {below : List Frame} {meth : Method} {c : Code} (X : Cx E p l e (rmv 3 0 0) s m args below meth c RX12 cX12_turns 5 (none)) (hG : Gs E l) (hnm : meth.name = yX12_turns.name) {v0 : Nat} {v1 : Int32} {v2 : Int32} {h : PH} {r : PH} {x : ((Int32 × PH) ⊕ PH)} (hf : fX12_turns_c206 v0 v1 v2 h = some x) (k0 : ∀ z : (Int32 × PH), x = .inl z → PW E p l e (rmv 3 0 0) s m args below meth c 5 0 0 (MQ below (QG E (fun v u => v = none ∧ u = r)) args s 0 0 (pA E)) (z.2) 206 [(0, some (.ref v0)), (1, some (.int v1)), (2, some (.int (z.1)))] []) (kf : ∀ z : PH, x = .inr z → z = r) : PW E p l e (rmv 3 0 0) s m args below meth c 5 0 0 (MQ below (QG E (fun v u => v = none ∧ u = r)) args s 0 0 (pA E)) h 206 [(0, some (.ref v0)), (1, some (.int v1)), (2, some (.int v2))] [] := by
  unfold fX12_turns_c206 at hf
  refine p_iload_n X (dcg dc_X12_turns 125 rfl) rfl rfl ?_
  refine p_aload_n X (dcg dc_X12_turns 126 rfl) rfl rfl ?_
  obtain ⟨hk37, hf⟩ := gd_some hf
  refine p_getR X fl_X12_81 rfl (by decide) (dcg dc_X12_turns 127 rfl) hk37 ?_
  refine p_iload_n X (dcg dc_X12_turns 128 rfl) rfl rfl ?_
  obtain ⟨a38, e39, hf⟩ := gs_some hf
  first | subst e39 | (try rw [e39])
  obtain ⟨⟨hk41, hb40⟩, hf⟩ := gd_some hf
  refine p_iald X (dcg dc_X12_turns 129 rfl) hk41 (vp_of_inb hb40) ?_
  refine p_icmp_ge (tgt := 243) X (dcg dc_X12_turns 130 rfl) (by decide) (fun q => ?_) (fun q => ?_)
  · have hf := if_t q hf
    obtain ⟨y42, hf, hy43⟩ := mr_some hf
    have hy43f := kf y42 hy43
    subst hy43f
    refine p_aload_n X (dcg dc_X12_turns 146 rfl) rfl rfl ?_
    refine p_getR X fl_X12_87 rfl (by decide) (dcg dc_X12_turns 147 rfl) hk37 ?_
    refine p_bipush (v := 7) X (dcg dc_X12_turns 148 rfl) (by decide) ?_
    refine p_aload_n X (dcg dc_X12_turns 149 rfl) rfl rfl ?_
    refine p_getR X fl_X12_129 rfl (by decide) (dcg dc_X12_turns 150 rfl) hk37 ?_
    refine p_aload_n X (dcg dc_X12_turns 151 rfl) rfl rfl ?_
    refine p_getR X fl_X12_87 rfl (by decide) (dcg dc_X12_turns 152 rfl) hk37 ?_
    refine p_iload_n X (dcg dc_X12_turns 153 rfl) rfl rfl ?_
    obtain ⟨a44, e45, hf⟩ := gs_some hf
    first | subst e45 | (try rw [e45])
    obtain ⟨⟨hk47, hb46⟩, hf⟩ := gd_some hf
    refine p_iald X (dcg dc_X12_turns 154 rfl) hk47 (vp_of_inb hb46) ?_
    obtain ⟨a48, e49, hf⟩ := gs_some hf
    first | subst e49 | (try rw [e49])
    obtain ⟨⟨hk51, hb50⟩, hf⟩ := gd_some hf
    refine p_iald X (dcg dc_X12_turns 155 rfl) hk51 (vp_of_inb hb50) ?_
    obtain ⟨hb52, hf⟩ := gd_some hf
    refine p_iast X (dcg dc_X12_turns 156 rfl) hk47 (vp_of_inb hb52) ?_
    obtain ⟨h53, rfl, hf⟩ := lt_some hf
    refine p_aload_n X (dcg dc_X12_turns 157 rfl) rfl rfl ?_
    refine p_getR X fl_X12_75 rfl (by decide) (dcg dc_X12_turns 158 rfl) hk37 ?_
    refine p_sipush (v := 2800) X (dcg dc_X12_turns 159 rfl) (by decide) ?_
    refine p_aload_n X (dcg dc_X12_turns 160 rfl) rfl rfl ?_
    refine p_getR X fl_X12_87 rfl (by decide) (dcg dc_X12_turns 161 rfl) hk37 ?_
    refine p_bipush (v := 7) X (dcg dc_X12_turns 162 rfl) (by decide) ?_
    obtain ⟨a54, e55, hf⟩ := gs_some hf
    first | subst e55 | (try rw [e55])
    obtain ⟨⟨hk57, hb56⟩, hf⟩ := gd_some hf
    refine p_iald X (dcg dc_X12_turns 163 rfl) hk57 (vp_of_inb hb56) ?_
    refine p_iadd X (dcg dc_X12_turns 164 rfl) ?_
    refine p_iconst (v := -1) X (dcg dc_X12_turns 165 rfl) (by decide) ?_
    obtain ⟨a58, e59, hf⟩ := gs_some hf
    first | subst e59 | (try rw [e59])
    obtain ⟨⟨hk61, hb60⟩, hf⟩ := gd_some hf
    refine p_iast X (dcg dc_X12_turns 166 rfl) hk61 (vp_of_inb hb60) ?_
    obtain ⟨h62, rfl, hf⟩ := lt_some hf
    have er := Option.some.inj hf
    subst er
    exact p_vret X rfl (dcg dc_X12_turns 167 rfl) ⟨rfl, rfl⟩ (Nat.le_refl _) (Nat.le_refl _)
  · have hf := if_f q hf
    refine p_aload_n X (dcg dc_X12_turns 131 rfl) rfl rfl ?_
    refine p_getR X fl_X12_126 rfl (by decide) (dcg dc_X12_turns 132 rfl) hk37 ?_
    refine p_iload_n X (dcg dc_X12_turns 133 rfl) rfl rfl ?_
    obtain ⟨a63, e64, hf⟩ := gs_some hf
    first | subst e64 | (try rw [e64])
    obtain ⟨⟨hk66, hb65⟩, hf⟩ := gd_some hf
    refine p_iald X (dcg dc_X12_turns 134 rfl) hk66 (vp_of_inb hb65) ?_
    refine p_if_eq (tgt := 237) X (dcg dc_X12_turns 135 rfl) (by decide) (fun q => ?_) (fun q => ?_)
    · have hf := if_t q hf
      refine p_pick [0, 1, 2] ?_
      exact wX12_turns_b237 X hG hnm hf k0 kf
    · have hf := if_f q hf
      refine p_aload_n X (dcg dc_X12_turns 136 rfl) rfl rfl ?_
      refine p_getR X fl_X12_129 rfl (by decide) (dcg dc_X12_turns 137 rfl) hk37 ?_
      refine p_iload_n X (dcg dc_X12_turns 138 rfl) rfl rfl ?_
      refine p_aload_n X (dcg dc_X12_turns 139 rfl) rfl rfl ?_
      refine p_iload_n X (dcg dc_X12_turns 140 rfl) rfl rfl ?_
      refine p_iload_n X (dcg dc_X12_turns 141 rfl) rfl rfl ?_
      obtain ⟨z67, hz67, hf⟩ := bd_some hf
      refine p_callV (As := [_, _]) X ml_X12_370 (dcg dc_X12_turns 142 rfl) rfl rfl hk37 (wX12_turned hG hz67) (by decide) (room4 (Nat.le_of_ble_eq_true rfl)) (Nat.le_refl _) (Nat.le_refl _) ?_
      rintro _ u9 ⟨rfl, e9⟩; have e9 := e9.symm; subst e9
      obtain ⟨a68, e69, hf⟩ := gs_some hf
      first | subst e69 | (try rw [e69])
      obtain ⟨⟨hk71, hb70⟩, hf⟩ := gd_some hf
      refine p_iast X (dcg dc_X12_turns 143 rfl) hk71 (vp_of_inb hb70) ?_
      obtain ⟨h72, rfl, hf⟩ := lt_some hf
      refine p_pick [0, 1, 2] ?_
      exact wX12_turns_b237 X hG hnm hf k0 kf
noncomputable def fX12_turns_l206 (v0 : Nat) (v1 : Int32) (v2 : Int32) (h : PH) : Option PH := wh (fun z : (Int32 × PH) => fX12_turns_c206 v0 v1 (z.1) (z.2)) (v2, h)
set_option maxRecDepth 100000 in
theorem mX12_turns_l206 {v0 : Nat} {v1 : Int32} {v2 : Int32} {h : PH} {r : PH} (hf : fX12_turns_l206 v0 v1 v2 h = some r) : eqz h (hX r) (hV r) := by
  unfold fX12_turns_l206 at hf
  refine wh_ind (P := fun z => eqz (z.2) (hX r) (hV r)) (fun z x0 hs i1 i2 => ?_) _ hf
  obtain ⟨c0, cf⟩ := mX12_turns_c206 (v0 := v0) (v1 := v1) (v2 := z.1) (h := z.2) hs
  rcases hxx : x0 with zz | zz
  · exact eqz_tr (c0 zz hxx) (i1 zz hxx)
  · have ee := i2 zz hxx; subst ee; exact cf zz hxx
set_option maxRecDepth 100000 in
theorem wX12_turns_l206 {E : PE} {p : Program} {l : Launch} {e : Env} {s : State} {m : MethodId} {args : Array Value} {below : List Frame} {meth : Method} {c : Code} (X : Cx E p l e (rmv 3 0 0) s m args below meth c RX12 cX12_turns 5 (none)) (hG : Gs E l) (hnm : meth.name = yX12_turns.name) {v0 : Nat} {v1 : Int32} {v2 : Int32} {h : PH} {r : PH} (hf : fX12_turns_l206 v0 v1 v2 h = some r)  : PW E p l e (rmv 3 0 0) s m args below meth c 5 0 0 (MQ below (QG E (fun v u => v = none ∧ u = r)) args s 0 0 (pA E)) h 206 [(0, some (.ref v0)), (1, some (.int v1)), (2, some (.int v2))] [] := by
  unfold fX12_turns_l206 at hf
  refine wh_ind (P := fun z => PW E p l e (rmv 3 0 0) s m args below meth c 5 0 0 (MQ below (QG E (fun v u => v = none ∧ u = r)) args s 0 0 (pA E)) (z.2) 206 [(0, some (.ref v0)), (1, some (.int v1)), (2, some (.int (z.1)))] []) (fun z x0 hs i1 i2 => ?_) _ hf
  exact wX12_turns_c206 (r := r) (v0 := v0) (v1 := v1) (v2 := z.1) (h := z.2) X hG hnm hs i1  i2
noncomputable def fX12_turns_c171 (v0 : Nat) (v1 : Int32) (v2 : Int32) (h : PH) : Option ((Int32 × PH) ⊕ PH) :=
  if ((20 : Int32) ≤ v2) then (mr (fX12_turns_l206 v0 v1 (0 : Int32) h)) else
  gd (hK h v0 = 12) (gs (hR h 12 v0 31) (fun a74 =>
  gd (hK h a74 = 20 ∧ inb (((20 : Int32) * v1) + v2) (hN h a74)) (gd (inb ((140 : Int32) + v2) (hN h a74)) (lt (sI h 20 a74 (Int32.toNatClampNeg ((140 : Int32) + v2)) (hI h 20 a74 (Int32.toNatClampNeg (((20 : Int32) * v1) + v2)))) (fun h79 =>
  some (.inl ((v2 + 1), h79)))))))
set_option maxRecDepth 100000 in
theorem mX12_turns_c171 {v0 : Nat} {v1 : Int32} {v2 : Int32} {h : PH} {x : ((Int32 × PH) ⊕ PH)} (hf : fX12_turns_c171 v0 v1 v2 h = some x) : (∀ w9 : (Int32 × PH), x = .inl w9 → eqz h (hX (w9.2)) (hV (w9.2))) ∧ (∀ w9 : PH, x = .inr w9 → eqz h (hX w9) (hV w9)) := by
  unfold fX12_turns_c171 at hf
  have hle := eqz_rf h
  rcases ite_or hf with ⟨q, hf⟩ | ⟨q, hf⟩
  · have hf := if_t q hf
    obtain ⟨y35, hfm, rfl⟩ := mr_some hf; have hf := hfm; clear hfm
    have cf := mX12_turns_l206 hf
    exact ⟨(fun z e => nomatch e), (fun z e => by cases e <;> exact eqz_rt cf hle)⟩
  · have hf := if_f q hf
    obtain ⟨hk73, hf⟩ := gd_some hf
    obtain ⟨a74, e75, hf⟩ := gs_some hf
    obtain ⟨⟨hk77, hb76⟩, hf⟩ := gd_some hf
    obtain ⟨hb78, hf⟩ := gd_some hf
    obtain ⟨h79, rfl, hf⟩ := lt_some hf
    have ee := Option.some.inj hf; subst ee
    exact ⟨(fun z e => by have ee := Sum.inl.inj (e); subst ee; exact hle), (fun z e => nomatch e)⟩
set_option maxRecDepth 100000 in
theorem wX12_turns_c171 {E : PE} {p : Program} {l : Launch} {e : Env} {s : State} {m : MethodId} {args : Array Value} {below : List Frame} {meth : Method} {c : Code} (X : Cx E p l e (rmv 3 0 0) s m args below meth c RX12 cX12_turns 5 (none)) (hG : Gs E l) (hnm : meth.name = yX12_turns.name) {v0 : Nat} {v1 : Int32} {v2 : Int32} {h : PH} {r : PH} {x : ((Int32 × PH) ⊕ PH)} (hf : fX12_turns_c171 v0 v1 v2 h = some x) (k0 : ∀ z : (Int32 × PH), x = .inl z → PW E p l e (rmv 3 0 0) s m args below meth c 5 0 0 (MQ below (QG E (fun v u => v = none ∧ u = r)) args s 0 0 (pA E)) (z.2) 171 [(0, some (.ref v0)), (1, some (.int v1)), (2, some (.int (z.1)))] []) (kf : ∀ z : PH, x = .inr z → z = r) : PW E p l e (rmv 3 0 0) s m args below meth c 5 0 0 (MQ below (QG E (fun v u => v = none ∧ u = r)) args s 0 0 (pA E)) h 171 [(0, some (.ref v0)), (1, some (.int v1)), (2, some (.int v2))] [] := by
  unfold fX12_turns_c171 at hf
  refine p_iload_n X (dcg dc_X12_turns 104 rfl) rfl rfl ?_
  refine p_bipush (v := 20) X (dcg dc_X12_turns 105 rfl) (by decide) ?_
  refine p_icmp_ge (tgt := 204) X (dcg dc_X12_turns 106 rfl) (by decide) (fun q => ?_) (fun q => ?_)
  · have hf := if_t q hf
    obtain ⟨y35, hf, hy36⟩ := mr_some hf
    have hy36f := kf y35 hy36
    subst hy36f
    refine p_iconst (v := 0) X (dcg dc_X12_turns 123 rfl) (by decide) ?_
    refine p_istore_n X (dcg dc_X12_turns 124 rfl) rfl (by decide) rfl ?_
    refine p_pick [0, 1, 2] ?_
    exact wX12_turns_l206 X hG hnm hf 
  · have hf := if_f q hf
    refine p_aload_n X (dcg dc_X12_turns 107 rfl) rfl rfl ?_
    obtain ⟨hk73, hf⟩ := gd_some hf
    refine p_getR X fl_X12_78 rfl (by decide) (dcg dc_X12_turns 108 rfl) hk73 ?_
    refine p_sipush (v := 140) X (dcg dc_X12_turns 109 rfl) (by decide) ?_
    refine p_iload_n X (dcg dc_X12_turns 110 rfl) rfl rfl ?_
    refine p_iadd X (dcg dc_X12_turns 111 rfl) ?_
    refine p_aload_n X (dcg dc_X12_turns 112 rfl) rfl rfl ?_
    refine p_getR X fl_X12_78 rfl (by decide) (dcg dc_X12_turns 113 rfl) hk73 ?_
    refine p_bipush (v := 20) X (dcg dc_X12_turns 114 rfl) (by decide) ?_
    refine p_iload_n X (dcg dc_X12_turns 115 rfl) rfl rfl ?_
    refine p_imul X (dcg dc_X12_turns 116 rfl) ?_
    refine p_iload_n X (dcg dc_X12_turns 117 rfl) rfl rfl ?_
    refine p_iadd X (dcg dc_X12_turns 118 rfl) ?_
    obtain ⟨a74, e75, hf⟩ := gs_some hf
    first | subst e75 | (try rw [e75])
    obtain ⟨⟨hk77, hb76⟩, hf⟩ := gd_some hf
    refine p_iald X (dcg dc_X12_turns 119 rfl) hk77 (vp_of_inb hb76) ?_
    obtain ⟨hb78, hf⟩ := gd_some hf
    refine p_iast X (dcg dc_X12_turns 120 rfl) hk77 (vp_of_inb hb78) ?_
    obtain ⟨h79, rfl, hf⟩ := lt_some hf
    refine p_iinc (v := 1) X (dcg dc_X12_turns 121 rfl) rfl (by decide) (by decide) rfl ?_
    refine p_goto (tgt := 171) X (dcg dc_X12_turns 122 rfl) (by decide) ?_
    refine p_pick [0, 1, 2] ?_
    exact k0 _ (Option.some.inj hf).symm
noncomputable def fX12_turns_l171 (v0 : Nat) (v1 : Int32) (v2 : Int32) (h : PH) : Option PH := wh (fun z : (Int32 × PH) => fX12_turns_c171 v0 v1 (z.1) (z.2)) (v2, h)
set_option maxRecDepth 100000 in
theorem mX12_turns_l171 {v0 : Nat} {v1 : Int32} {v2 : Int32} {h : PH} {r : PH} (hf : fX12_turns_l171 v0 v1 v2 h = some r) : eqz h (hX r) (hV r) := by
  unfold fX12_turns_l171 at hf
  refine wh_ind (P := fun z => eqz (z.2) (hX r) (hV r)) (fun z x0 hs i1 i2 => ?_) _ hf
  obtain ⟨c0, cf⟩ := mX12_turns_c171 (v0 := v0) (v1 := v1) (v2 := z.1) (h := z.2) hs
  rcases hxx : x0 with zz | zz
  · exact eqz_tr (c0 zz hxx) (i1 zz hxx)
  · have ee := i2 zz hxx; subst ee; exact cf zz hxx
set_option maxRecDepth 100000 in
theorem wX12_turns_l171 {E : PE} {p : Program} {l : Launch} {e : Env} {s : State} {m : MethodId} {args : Array Value} {below : List Frame} {meth : Method} {c : Code} (X : Cx E p l e (rmv 3 0 0) s m args below meth c RX12 cX12_turns 5 (none)) (hG : Gs E l) (hnm : meth.name = yX12_turns.name) {v0 : Nat} {v1 : Int32} {v2 : Int32} {h : PH} {r : PH} (hf : fX12_turns_l171 v0 v1 v2 h = some r)  : PW E p l e (rmv 3 0 0) s m args below meth c 5 0 0 (MQ below (QG E (fun v u => v = none ∧ u = r)) args s 0 0 (pA E)) h 171 [(0, some (.ref v0)), (1, some (.int v1)), (2, some (.int v2))] [] := by
  unfold fX12_turns_l171 at hf
  refine wh_ind (P := fun z => PW E p l e (rmv 3 0 0) s m args below meth c 5 0 0 (MQ below (QG E (fun v u => v = none ∧ u = r)) args s 0 0 (pA E)) (z.2) 171 [(0, some (.ref v0)), (1, some (.int v1)), (2, some (.int (z.1)))] []) (fun z x0 hs i1 i2 => ?_) _ hf
  exact wX12_turns_c171 (r := r) (v0 := v0) (v1 := v1) (v2 := z.1) (h := z.2) X hG hnm hs i1  i2
noncomputable def fX12_turns_b142 (v0 : Nat) (v1 : Int32) (v2 : Int32) (h : PH) : Option ((Int32 × PH) ⊕ PH) :=
  some (.inl ((v2 + (-1)), h))
set_option maxRecDepth 100000 in
theorem mX12_turns_b142 {v0 : Nat} {v1 : Int32} {v2 : Int32} {h : PH} {x : ((Int32 × PH) ⊕ PH)} (hf : fX12_turns_b142 v0 v1 v2 h = some x) : (∀ w9 : (Int32 × PH), x = .inl w9 → eqz h (hX (w9.2)) (hV (w9.2))) ∧ (∀ w9 : PH, x = .inr w9 → eqz h (hX w9) (hV w9)) := by
  unfold fX12_turns_b142 at hf
  have hle := eqz_rf h
  have ee := Option.some.inj hf; subst ee
  exact ⟨(fun z e => by have ee := Sum.inl.inj (e); subst ee; exact hle), (fun z e => nomatch e)⟩
set_option maxRecDepth 100000 in
theorem wX12_turns_b142 {E : PE} {p : Program} {l : Launch} {e : Env} {s : State} {m : MethodId} {args : Array Value} {below : List Frame} {meth : Method} {c : Code} (X : Cx E p l e (rmv 3 0 0) s m args below meth c RX12 cX12_turns 5 (none)) (hG : Gs E l) (hnm : meth.name = yX12_turns.name) {v0 : Nat} {v1 : Int32} {v2 : Int32} {h : PH} {r : PH} {x : ((Int32 × PH) ⊕ PH)} (hf : fX12_turns_b142 v0 v1 v2 h = some x) (k0 : ∀ z : (Int32 × PH), x = .inl z → PW E p l e (rmv 3 0 0) s m args below meth c 5 0 0 (MQ below (QG E (fun v u => v = none ∧ u = r)) args s 0 0 (pA E)) (z.2) 46 [(0, some (.ref v0)), (1, some (.int v1)), (2, some (.int (z.1)))] []) (kf : ∀ z : PH, x = .inr z → z = r) : PW E p l e (rmv 3 0 0) s m args below meth c 5 0 0 (MQ below (QG E (fun v u => v = none ∧ u = r)) args s 0 0 (pA E)) h 142 [(0, some (.ref v0)), (1, some (.int v1)), (2, some (.int v2))] [] := by
  unfold fX12_turns_b142 at hf
  refine p_iinc (v := -1) X (dcg dc_X12_turns 87 rfl) rfl (by decide) (by decide) rfl ?_
  refine p_goto (tgt := 46) X (dcg dc_X12_turns 88 rfl) (by decide) ?_
  refine p_pick [0, 1, 2] ?_
  exact k0 _ (Option.some.inj hf).symm
noncomputable def fX12_turns_c101 (v0 : Nat) (v1 : Int32) (v2 : Int32) (v3 : Int32) (v4 : Int32) (h : PH) : Option ((Int32 × PH) ⊕ ((Int32 × PH) ⊕ PH)) :=
  if (v4 = (-1 : Int32)) then (mr (fX12_turns_b142 v0 v1 v2 h)) else
  gd (hK h v0 = 12) (gs (hR h 12 v0 52) (fun a98 =>
  gd (hK h a98 = 20 ∧ inb v2 (hN h a98)) (if ((hI h 20 a98 (Int32.toNatClampNeg v2)) = 0) then (mr (fX12_turns_b142 v0 v1 v2 h)) else
  gs (hR h 12 v0 52) (fun a104 =>
  gd (hK h a104 = 20 ∧ inb v4 (hN h a104)) (lt (sI h 20 a104 (Int32.toNatClampNeg v4) v3) (fun h108 =>
  gs (hR h108 12 v0 30) (fun a109 =>
  gd (hK h108 a109 = 20 ∧ inb (((400 : Int32) * v1) + v4) (hN h108 a109)) (some (.inl ((hI h108 20 a109 (Int32.toNatClampNeg (((400 : Int32) * v1) + v4))), h108))))))))))
set_option maxRecDepth 100000 in
theorem mX12_turns_c101 {v0 : Nat} {v1 : Int32} {v2 : Int32} {v3 : Int32} {v4 : Int32} {h : PH} {x : ((Int32 × PH) ⊕ ((Int32 × PH) ⊕ PH))} (hf : fX12_turns_c101 v0 v1 v2 v3 v4 h = some x) : (∀ w9 : (Int32 × PH), x = .inl w9 → eqz h (hX (w9.2)) (hV (w9.2))) ∧ (∀ w9 : (Int32 × PH), x = .inr (.inl w9) → eqz h (hX (w9.2)) (hV (w9.2))) ∧ (∀ w9 : PH, x = .inr (.inr w9) → eqz h (hX w9) (hV w9)) := by
  unfold fX12_turns_c101 at hf
  have hle := eqz_rf h
  rcases ite_or hf with ⟨q, hf⟩ | ⟨q, hf⟩
  · have hf := if_t q hf
    obtain ⟨y95, hfm, rfl⟩ := mr_some hf; have hf := hfm; clear hfm
    obtain ⟨c0, cf⟩ := mX12_turns_b142 hf
    exact ⟨(fun z e => nomatch e), fun z e => eqz_rt (c0 z (Sum.inr.inj (e))) hle, fun z e => eqz_rt (cf z (Sum.inr.inj (e))) hle⟩
  · have hf := if_f q hf
    obtain ⟨hk97, hf⟩ := gd_some hf
    obtain ⟨a98, e99, hf⟩ := gs_some hf
    obtain ⟨⟨hk101, hb100⟩, hf⟩ := gd_some hf
    rcases ite_or hf with ⟨q, hf⟩ | ⟨q, hf⟩
    · have hf := if_t q hf
      obtain ⟨y102, hfm, rfl⟩ := mr_some hf; have hf := hfm; clear hfm
      obtain ⟨c0, cf⟩ := mX12_turns_b142 hf
      exact ⟨(fun z e => nomatch e), fun z e => eqz_rt (c0 z (Sum.inr.inj (e))) hle, fun z e => eqz_rt (cf z (Sum.inr.inj (e))) hle⟩
    · have hf := if_f q hf
      obtain ⟨a104, e105, hf⟩ := gs_some hf
      obtain ⟨⟨hk107, hb106⟩, hf⟩ := gd_some hf
      obtain ⟨h108, rfl, hf⟩ := lt_some hf
      obtain ⟨a109, e110, hf⟩ := gs_some hf
      obtain ⟨⟨hk112, hb111⟩, hf⟩ := gd_some hf
      have ee := Option.some.inj hf; subst ee
      exact ⟨(fun z e => by have ee := Sum.inl.inj (e); subst ee; exact hle), (fun z e => nomatch e), (fun z e => nomatch e)⟩
set_option maxRecDepth 100000 in
theorem wX12_turns_c101 {E : PE} {p : Program} {l : Launch} {e : Env} {s : State} {m : MethodId} {args : Array Value} {below : List Frame} {meth : Method} {c : Code} (X : Cx E p l e (rmv 3 0 0) s m args below meth c RX12 cX12_turns 5 (none)) (hG : Gs E l) (hnm : meth.name = yX12_turns.name) {v0 : Nat} {v1 : Int32} {v2 : Int32} {v3 : Int32} {v4 : Int32} {h : PH} {r : PH} {x : ((Int32 × PH) ⊕ ((Int32 × PH) ⊕ PH))} (hf : fX12_turns_c101 v0 v1 v2 v3 v4 h = some x) (k0 : ∀ z : (Int32 × PH), x = .inl z → PW E p l e (rmv 3 0 0) s m args below meth c 5 0 0 (MQ below (QG E (fun v u => v = none ∧ u = r)) args s 0 0 (pA E)) (z.2) 101 [(0, some (.ref v0)), (1, some (.int v1)), (2, some (.int v2)), (3, some (.int v3)), (4, some (.int (z.1)))] []) (k1 : ∀ z : (Int32 × PH), x = .inr (.inl z) → PW E p l e (rmv 3 0 0) s m args below meth c 5 0 0 (MQ below (QG E (fun v u => v = none ∧ u = r)) args s 0 0 (pA E)) (z.2) 46 [(0, some (.ref v0)), (1, some (.int v1)), (2, some (.int (z.1)))] []) (kf : ∀ z : PH, x = .inr (.inr z) → z = r) : PW E p l e (rmv 3 0 0) s m args below meth c 5 0 0 (MQ below (QG E (fun v u => v = none ∧ u = r)) args s 0 0 (pA E)) h 101 [(0, some (.ref v0)), (1, some (.int v1)), (2, some (.int v2)), (3, some (.int v3)), (4, some (.int v4))] [] := by
  unfold fX12_turns_c101 at hf
  refine p_iload X (dcg dc_X12_turns 64 rfl) rfl ?_
  refine p_iconst (v := -1) X (dcg dc_X12_turns 65 rfl) (by decide) ?_
  refine p_icmp_eq (tgt := 142) X (dcg dc_X12_turns 66 rfl) (by decide) (fun q => ?_) (fun q => ?_)
  · have hf := if_t q hf
    obtain ⟨y95, hf, hy96⟩ := mr_some hf
    refine p_pick [0, 1, 2] ?_
    exact wX12_turns_b142 X hG hnm hf (fun z0 e0 => k1 z0 (hy96.trans (congrArg Sum.inr e0))) (fun z0 e0 => kf z0 (hy96.trans (congrArg Sum.inr e0)))
  · have hf := if_f q hf
    refine p_aload_n X (dcg dc_X12_turns 67 rfl) rfl rfl ?_
    obtain ⟨hk97, hf⟩ := gd_some hf
    refine p_getR X fl_X12_126 rfl (by decide) (dcg dc_X12_turns 68 rfl) hk97 ?_
    refine p_iload_n X (dcg dc_X12_turns 69 rfl) rfl rfl ?_
    obtain ⟨a98, e99, hf⟩ := gs_some hf
    first | subst e99 | (try rw [e99])
    obtain ⟨⟨hk101, hb100⟩, hf⟩ := gd_some hf
    refine p_iald X (dcg dc_X12_turns 70 rfl) hk101 (vp_of_inb hb100) ?_
    refine p_if_eq (tgt := 142) X (dcg dc_X12_turns 71 rfl) (by decide) (fun q => ?_) (fun q => ?_)
    · have hf := if_t q hf
      obtain ⟨y102, hf, hy103⟩ := mr_some hf
      refine p_pick [0, 1, 2] ?_
      exact wX12_turns_b142 X hG hnm hf (fun z0 e0 => k1 z0 (hy103.trans (congrArg Sum.inr e0))) (fun z0 e0 => kf z0 (hy103.trans (congrArg Sum.inr e0)))
    · have hf := if_f q hf
      refine p_aload_n X (dcg dc_X12_turns 72 rfl) rfl rfl ?_
      refine p_getR X fl_X12_126 rfl (by decide) (dcg dc_X12_turns 73 rfl) hk97 ?_
      refine p_iload X (dcg dc_X12_turns 74 rfl) rfl ?_
      refine p_iload_n X (dcg dc_X12_turns 75 rfl) rfl rfl ?_
      obtain ⟨a104, e105, hf⟩ := gs_some hf
      first | subst e105 | (try rw [e105])
      obtain ⟨⟨hk107, hb106⟩, hf⟩ := gd_some hf
      refine p_iast X (dcg dc_X12_turns 76 rfl) hk107 (vp_of_inb hb106) ?_
      obtain ⟨h108, rfl, hf⟩ := lt_some hf
      refine p_aload_n X (dcg dc_X12_turns 77 rfl) rfl rfl ?_
      refine p_getR X fl_X12_75 rfl (by decide) (dcg dc_X12_turns 78 rfl) hk97 ?_
      refine p_sipush (v := 400) X (dcg dc_X12_turns 79 rfl) (by decide) ?_
      refine p_iload_n X (dcg dc_X12_turns 80 rfl) rfl rfl ?_
      refine p_imul X (dcg dc_X12_turns 81 rfl) ?_
      refine p_iload X (dcg dc_X12_turns 82 rfl) rfl ?_
      refine p_iadd X (dcg dc_X12_turns 83 rfl) ?_
      obtain ⟨a109, e110, hf⟩ := gs_some hf
      first | subst e110 | (try rw [e110])
      obtain ⟨⟨hk112, hb111⟩, hf⟩ := gd_some hf
      refine p_iald X (dcg dc_X12_turns 84 rfl) hk112 (vp_of_inb hb111) ?_
      refine p_istore X (dcg dc_X12_turns 85 rfl) (by decide) rfl ?_
      refine p_goto (tgt := 101) X (dcg dc_X12_turns 86 rfl) (by decide) ?_
      refine p_pick [0, 1, 2, 3, 4] ?_
      exact k0 _ (Option.some.inj hf).symm
noncomputable def fX12_turns_l101 (v0 : Nat) (v1 : Int32) (v2 : Int32) (v3 : Int32) (v4 : Int32) (h : PH) : Option ((Int32 × PH) ⊕ PH) := wh (fun z : (Int32 × PH) => fX12_turns_c101 v0 v1 v2 v3 (z.1) (z.2)) (v4, h)
set_option maxRecDepth 100000 in
theorem mX12_turns_l101 {v0 : Nat} {v1 : Int32} {v2 : Int32} {v3 : Int32} {v4 : Int32} {h : PH} {x : ((Int32 × PH) ⊕ PH)} (hf : fX12_turns_l101 v0 v1 v2 v3 v4 h = some x) : (∀ w9 : (Int32 × PH), x = .inl w9 → eqz h (hX (w9.2)) (hV (w9.2))) ∧ (∀ w9 : PH, x = .inr w9 → eqz h (hX w9) (hV w9)) := by
  unfold fX12_turns_l101 at hf
  refine wh_ind (P := fun z => (∀ w9 : (Int32 × PH), x = .inl w9 → eqz (z.2) (hX (w9.2)) (hV (w9.2))) ∧ (∀ w9 : PH, x = .inr w9 → eqz (z.2) (hX w9) (hV w9))) (fun z x0 hs i1 i2 => ?_) _ hf
  obtain ⟨c0, c1, cf⟩ := mX12_turns_c101 (v0 := v0) (v1 := v1) (v2 := v2) (v3 := v3) (v4 := z.1) (h := z.2) hs
  rcases hxx : x0 with zz | (zz | zz)
  · obtain ⟨d0, d1⟩ := (i1 zz hxx)
    exact ⟨fun z1 e1 => eqz_tr (c0 zz hxx) (d0 z1 e1), fun z1 e1 => eqz_tr (c0 zz hxx) (d1 z1 e1)⟩
  · have ee := i2 _ hxx; subst ee
    exact ⟨(fun z1 e1 => by cases e1 <;> exact c1 zz hxx), (fun z1 e1 => nomatch e1)⟩
  · have ee := i2 _ hxx; subst ee
    exact ⟨(fun z1 e1 => nomatch e1), (fun z1 e1 => by cases e1; exact cf zz hxx)⟩
set_option maxRecDepth 100000 in
theorem wX12_turns_l101 {E : PE} {p : Program} {l : Launch} {e : Env} {s : State} {m : MethodId} {args : Array Value} {below : List Frame} {meth : Method} {c : Code} (X : Cx E p l e (rmv 3 0 0) s m args below meth c RX12 cX12_turns 5 (none)) (hG : Gs E l) (hnm : meth.name = yX12_turns.name) {v0 : Nat} {v1 : Int32} {v2 : Int32} {v3 : Int32} {v4 : Int32} {h : PH} {r : PH} {x : ((Int32 × PH) ⊕ PH)} (hf : fX12_turns_l101 v0 v1 v2 v3 v4 h = some x) (k0 : ∀ z : (Int32 × PH), x = .inl z → PW E p l e (rmv 3 0 0) s m args below meth c 5 0 0 (MQ below (QG E (fun v u => v = none ∧ u = r)) args s 0 0 (pA E)) (z.2) 46 [(0, some (.ref v0)), (1, some (.int v1)), (2, some (.int (z.1)))] []) (kf : ∀ z : PH, x = .inr z → z = r) : PW E p l e (rmv 3 0 0) s m args below meth c 5 0 0 (MQ below (QG E (fun v u => v = none ∧ u = r)) args s 0 0 (pA E)) h 101 [(0, some (.ref v0)), (1, some (.int v1)), (2, some (.int v2)), (3, some (.int v3)), (4, some (.int v4))] [] := by
  unfold fX12_turns_l101 at hf
  refine wh_ind (P := fun z => PW E p l e (rmv 3 0 0) s m args below meth c 5 0 0 (MQ below (QG E (fun v u => v = none ∧ u = r)) args s 0 0 (pA E)) (z.2) 101 [(0, some (.ref v0)), (1, some (.int v1)), (2, some (.int v2)), (3, some (.int v3)), (4, some (.int (z.1)))] []) (fun z x0 hs i1 i2 => ?_) _ hf
  exact wX12_turns_c101 (r := r) (v0 := v0) (v1 := v1) (v2 := v2) (v3 := v3) (v4 := z.1) (h := z.2) X hG hnm hs i1 (fun z1 e1 => k0 z1 (i2 _ e1).symm) (fun z1 e1 => kf z1 (i2 _ e1).symm)
noncomputable def fX12_turns_b86 (v0 : Nat) (v1 : Int32) (v2 : Int32) (t0 : Int32) (h : PH) : Option ((Int32 × PH) ⊕ PH) :=
  gd (hK h v0 = 12) (gs (hR h 12 v0 29) (fun a91 =>
  gd (hK h a91 = 20 ∧ inb (((400 : Int32) * v1) + v2) (hN h a91)) (fX12_turns_l101 v0 v1 v2 t0 (hI h 20 a91 (Int32.toNatClampNeg (((400 : Int32) * v1) + v2))) h)))
set_option maxRecDepth 100000 in
theorem mX12_turns_b86 {v0 : Nat} {v1 : Int32} {v2 : Int32} {t0 : Int32} {h : PH} {x : ((Int32 × PH) ⊕ PH)} (hf : fX12_turns_b86 v0 v1 v2 t0 h = some x) : (∀ w9 : (Int32 × PH), x = .inl w9 → eqz h (hX (w9.2)) (hV (w9.2))) ∧ (∀ w9 : PH, x = .inr w9 → eqz h (hX w9) (hV w9)) := by
  unfold fX12_turns_b86 at hf
  have hle := eqz_rf h
  obtain ⟨hk90, hf⟩ := gd_some hf
  obtain ⟨a91, e92, hf⟩ := gs_some hf
  obtain ⟨⟨hk94, hb93⟩, hf⟩ := gd_some hf
  obtain ⟨c0, cf⟩ := mX12_turns_l101 hf
  exact ⟨fun z e => eqz_rt (c0 z (e)) hle, fun z e => eqz_rt (cf z (e)) hle⟩
set_option maxRecDepth 100000 in
theorem wX12_turns_b86 {E : PE} {p : Program} {l : Launch} {e : Env} {s : State} {m : MethodId} {args : Array Value} {below : List Frame} {meth : Method} {c : Code} (X : Cx E p l e (rmv 3 0 0) s m args below meth c RX12 cX12_turns 5 (none)) (hG : Gs E l) (hnm : meth.name = yX12_turns.name) {v0 : Nat} {v1 : Int32} {v2 : Int32} {t0 : Int32} {h : PH} {r : PH} {x : ((Int32 × PH) ⊕ PH)} (hf : fX12_turns_b86 v0 v1 v2 t0 h = some x) (k0 : ∀ z : (Int32 × PH), x = .inl z → PW E p l e (rmv 3 0 0) s m args below meth c 5 0 0 (MQ below (QG E (fun v u => v = none ∧ u = r)) args s 0 0 (pA E)) (z.2) 46 [(0, some (.ref v0)), (1, some (.int v1)), (2, some (.int (z.1)))] []) (kf : ∀ z : PH, x = .inr z → z = r) : PW E p l e (rmv 3 0 0) s m args below meth c 5 0 0 (MQ below (QG E (fun v u => v = none ∧ u = r)) args s 0 0 (pA E)) h 86 [(0, some (.ref v0)), (1, some (.int v1)), (2, some (.int v2))] [.int t0] := by
  unfold fX12_turns_b86 at hf
  refine p_istore_n X (dcg dc_X12_turns 54 rfl) rfl (by decide) rfl ?_
  refine p_aload_n X (dcg dc_X12_turns 55 rfl) rfl rfl ?_
  obtain ⟨hk90, hf⟩ := gd_some hf
  refine p_getR X fl_X12_72 rfl (by decide) (dcg dc_X12_turns 56 rfl) hk90 ?_
  refine p_sipush (v := 400) X (dcg dc_X12_turns 57 rfl) (by decide) ?_
  refine p_iload_n X (dcg dc_X12_turns 58 rfl) rfl rfl ?_
  refine p_imul X (dcg dc_X12_turns 59 rfl) ?_
  refine p_iload_n X (dcg dc_X12_turns 60 rfl) rfl rfl ?_
  refine p_iadd X (dcg dc_X12_turns 61 rfl) ?_
  obtain ⟨a91, e92, hf⟩ := gs_some hf
  first | subst e92 | (try rw [e92])
  obtain ⟨⟨hk94, hb93⟩, hf⟩ := gd_some hf
  refine p_iald X (dcg dc_X12_turns 62 rfl) hk94 (vp_of_inb hb93) ?_
  refine p_istore X (dcg dc_X12_turns 63 rfl) (by decide) rfl ?_
  refine p_pick [0, 1, 2, 3, 4] ?_
  exact wX12_turns_l101 X hG hnm hf k0 kf
noncomputable def fX12_turns_b80 (v0 : Nat) (v1 : Int32) (v2 : Int32) (h : PH) : Option ((Int32 × PH) ⊕ PH) :=
  gd (hK h v0 = 12) (gs (hR h 12 v0 52) (fun a86 =>
  gd (hK h a86 = 20 ∧ inb v2 (hN h a86)) (fX12_turns_b86 v0 v1 v2 (hI h 20 a86 (Int32.toNatClampNeg v2)) h)))
set_option maxRecDepth 100000 in
theorem mX12_turns_b80 {v0 : Nat} {v1 : Int32} {v2 : Int32} {h : PH} {x : ((Int32 × PH) ⊕ PH)} (hf : fX12_turns_b80 v0 v1 v2 h = some x) : (∀ w9 : (Int32 × PH), x = .inl w9 → eqz h (hX (w9.2)) (hV (w9.2))) ∧ (∀ w9 : PH, x = .inr w9 → eqz h (hX w9) (hV w9)) := by
  unfold fX12_turns_b80 at hf
  have hle := eqz_rf h
  obtain ⟨hk85, hf⟩ := gd_some hf
  obtain ⟨a86, e87, hf⟩ := gs_some hf
  obtain ⟨⟨hk89, hb88⟩, hf⟩ := gd_some hf
  obtain ⟨c0, cf⟩ := mX12_turns_b86 hf
  exact ⟨fun z e => eqz_rt (c0 z (e)) hle, fun z e => eqz_rt (cf z (e)) hle⟩
set_option maxRecDepth 100000 in
theorem wX12_turns_b80 {E : PE} {p : Program} {l : Launch} {e : Env} {s : State} {m : MethodId} {args : Array Value} {below : List Frame} {meth : Method} {c : Code} (X : Cx E p l e (rmv 3 0 0) s m args below meth c RX12 cX12_turns 5 (none)) (hG : Gs E l) (hnm : meth.name = yX12_turns.name) {v0 : Nat} {v1 : Int32} {v2 : Int32} {h : PH} {r : PH} {x : ((Int32 × PH) ⊕ PH)} (hf : fX12_turns_b80 v0 v1 v2 h = some x) (k0 : ∀ z : (Int32 × PH), x = .inl z → PW E p l e (rmv 3 0 0) s m args below meth c 5 0 0 (MQ below (QG E (fun v u => v = none ∧ u = r)) args s 0 0 (pA E)) (z.2) 46 [(0, some (.ref v0)), (1, some (.int v1)), (2, some (.int (z.1)))] []) (kf : ∀ z : PH, x = .inr z → z = r) : PW E p l e (rmv 3 0 0) s m args below meth c 5 0 0 (MQ below (QG E (fun v u => v = none ∧ u = r)) args s 0 0 (pA E)) h 80 [(0, some (.ref v0)), (1, some (.int v1)), (2, some (.int v2))] [] := by
  unfold fX12_turns_b80 at hf
  refine p_aload_n X (dcg dc_X12_turns 50 rfl) rfl rfl ?_
  obtain ⟨hk85, hf⟩ := gd_some hf
  refine p_getR X fl_X12_126 rfl (by decide) (dcg dc_X12_turns 51 rfl) hk85 ?_
  refine p_iload_n X (dcg dc_X12_turns 52 rfl) rfl rfl ?_
  obtain ⟨a86, e87, hf⟩ := gs_some hf
  first | subst e87 | (try rw [e87])
  obtain ⟨⟨hk89, hb88⟩, hf⟩ := gd_some hf
  refine p_iald X (dcg dc_X12_turns 53 rfl) hk89 (vp_of_inb hb88) ?_
  refine p_pick [0, 1, 2] ?_
  exact wX12_turns_b86 X hG hnm hf k0 kf
noncomputable def fX12_turns_c46 (v0 : Nat) (v1 : Int32) (v2 : Int32) (h : PH) : Option ((Int32 × PH) ⊕ PH) :=
  if (v2 < 0) then (mr (gd (hK h v0 = 12) (gs (hR h 12 v0 32) (fun a24 =>
  gd (hK h a24 = 20 ∧ inb (7 : Int32) (hN h a24)) (lt (sI h 20 a24 (Int32.toNatClampNeg (7 : Int32)) (0 : Int32)) (fun h28 =>
  gs (hR h28 12 v0 33) (fun a29 =>
  gd (hK h28 a29 = 20 ∧ inb v1 (hN h28 a29)) (gd (inb (7 : Int32) (hN h28 a29)) (lt (sI h28 20 a29 (Int32.toNatClampNeg (7 : Int32)) (hI h28 20 a29 (Int32.toNatClampNeg v1))) (fun h34 =>
  fX12_turns_l171 v0 v1 (0 : Int32) h34)))))))))) else
  gd (hK h v0 = 12) (gs (hR h 12 v0 52) (fun a81 =>
  gd (hK h a81 = 20 ∧ inb v2 (hN h a81)) (if (¬ (hI h 20 a81 (Int32.toNatClampNeg v2)) = (2 : Int32)) then (fX12_turns_b80 v0 v1 v2 h) else
  gs (hR h 12 v0 25) (fun a113 =>
  gd (hK h a113 = 20 ∧ inb (((400 : Int32) * v1) + v2) (hN h a113)) (if (¬ (hI h 20 a113 (Int32.toNatClampNeg (((400 : Int32) * v1) + v2))) = (4 : Int32)) then (fX12_turns_b80 v0 v1 v2 h) else
  fX12_turns_b86 v0 v1 v2 (1 : Int32) h)))))
set_option maxRecDepth 100000 in
theorem mX12_turns_c46 {v0 : Nat} {v1 : Int32} {v2 : Int32} {h : PH} {x : ((Int32 × PH) ⊕ PH)} (hf : fX12_turns_c46 v0 v1 v2 h = some x) : (∀ w9 : (Int32 × PH), x = .inl w9 → eqz h (hX (w9.2)) (hV (w9.2))) ∧ (∀ w9 : PH, x = .inr w9 → eqz h (hX w9) (hV w9)) := by
  unfold fX12_turns_c46 at hf
  have hle := eqz_rf h
  rcases ite_or hf with ⟨q, hf⟩ | ⟨q, hf⟩
  · have hf := if_t q hf
    obtain ⟨y21, hfm, rfl⟩ := mr_some hf; have hf := hfm; clear hfm
    obtain ⟨hk23, hf⟩ := gd_some hf
    obtain ⟨a24, e25, hf⟩ := gs_some hf
    obtain ⟨⟨hk27, hb26⟩, hf⟩ := gd_some hf
    obtain ⟨h28, rfl, hf⟩ := lt_some hf
    obtain ⟨a29, e30, hf⟩ := gs_some hf
    obtain ⟨⟨hk32, hb31⟩, hf⟩ := gd_some hf
    obtain ⟨hb33, hf⟩ := gd_some hf
    obtain ⟨h34, rfl, hf⟩ := lt_some hf
    have cf := mX12_turns_l171 hf
    exact ⟨(fun z e => nomatch e), (fun z e => by cases e <;> exact eqz_rt cf hle)⟩
  · have hf := if_f q hf
    obtain ⟨hk80, hf⟩ := gd_some hf
    obtain ⟨a81, e82, hf⟩ := gs_some hf
    obtain ⟨⟨hk84, hb83⟩, hf⟩ := gd_some hf
    rcases ite_or hf with ⟨q, hf⟩ | ⟨q, hf⟩
    · have hf := if_t q hf
      obtain ⟨c0, cf⟩ := mX12_turns_b80 hf
      exact ⟨fun z e => eqz_rt (c0 z (e)) hle, fun z e => eqz_rt (cf z (e)) hle⟩
    · have hf := if_f q hf
      obtain ⟨a113, e114, hf⟩ := gs_some hf
      obtain ⟨⟨hk116, hb115⟩, hf⟩ := gd_some hf
      rcases ite_or hf with ⟨q, hf⟩ | ⟨q, hf⟩
      · have hf := if_t q hf
        obtain ⟨c0, cf⟩ := mX12_turns_b80 hf
        exact ⟨fun z e => eqz_rt (c0 z (e)) hle, fun z e => eqz_rt (cf z (e)) hle⟩
      · have hf := if_f q hf
        obtain ⟨c0, cf⟩ := mX12_turns_b86 hf
        exact ⟨fun z e => eqz_rt (c0 z (e)) hle, fun z e => eqz_rt (cf z (e)) hle⟩
set_option maxRecDepth 100000 in
theorem wX12_turns_c46 {E : PE} {p : Program} {l : Launch} {e : Env} {s : State} {m : MethodId} {args : Array Value} {below : List Frame} {meth : Method} {c : Code} (X : Cx E p l e (rmv 3 0 0) s m args below meth c RX12 cX12_turns 5 (none)) (hG : Gs E l) (hnm : meth.name = yX12_turns.name) {v0 : Nat} {v1 : Int32} {v2 : Int32} {h : PH} {r : PH} {x : ((Int32 × PH) ⊕ PH)} (hf : fX12_turns_c46 v0 v1 v2 h = some x) (k0 : ∀ z : (Int32 × PH), x = .inl z → PW E p l e (rmv 3 0 0) s m args below meth c 5 0 0 (MQ below (QG E (fun v u => v = none ∧ u = r)) args s 0 0 (pA E)) (z.2) 46 [(0, some (.ref v0)), (1, some (.int v1)), (2, some (.int (z.1)))] []) (kf : ∀ z : PH, x = .inr z → z = r) : PW E p l e (rmv 3 0 0) s m args below meth c 5 0 0 (MQ below (QG E (fun v u => v = none ∧ u = r)) args s 0 0 (pA E)) h 46 [(0, some (.ref v0)), (1, some (.int v1)), (2, some (.int v2))] [] := by
  unfold fX12_turns_c46 at hf
  refine p_iload_n X (dcg dc_X12_turns 30 rfl) rfl rfl ?_
  refine p_if_lt (tgt := 148) X (dcg dc_X12_turns 31 rfl) (by decide) (fun q => ?_) (fun q => ?_)
  · have hf := if_t q hf
    obtain ⟨y21, hf, hy22⟩ := mr_some hf
    have hy22f := kf y21 hy22
    subst hy22f
    refine p_aload_n X (dcg dc_X12_turns 89 rfl) rfl rfl ?_
    obtain ⟨hk23, hf⟩ := gd_some hf
    refine p_getR X fl_X12_81 rfl (by decide) (dcg dc_X12_turns 90 rfl) hk23 ?_
    refine p_bipush (v := 7) X (dcg dc_X12_turns 91 rfl) (by decide) ?_
    refine p_iconst (v := 0) X (dcg dc_X12_turns 92 rfl) (by decide) ?_
    obtain ⟨a24, e25, hf⟩ := gs_some hf
    first | subst e25 | (try rw [e25])
    obtain ⟨⟨hk27, hb26⟩, hf⟩ := gd_some hf
    refine p_iast X (dcg dc_X12_turns 93 rfl) hk27 (vp_of_inb hb26) ?_
    obtain ⟨h28, rfl, hf⟩ := lt_some hf
    refine p_aload_n X (dcg dc_X12_turns 94 rfl) rfl rfl ?_
    refine p_getR X fl_X12_84 rfl (by decide) (dcg dc_X12_turns 95 rfl) hk23 ?_
    refine p_bipush (v := 7) X (dcg dc_X12_turns 96 rfl) (by decide) ?_
    refine p_aload_n X (dcg dc_X12_turns 97 rfl) rfl rfl ?_
    refine p_getR X fl_X12_84 rfl (by decide) (dcg dc_X12_turns 98 rfl) hk23 ?_
    refine p_iload_n X (dcg dc_X12_turns 99 rfl) rfl rfl ?_
    obtain ⟨a29, e30, hf⟩ := gs_some hf
    first | subst e30 | (try rw [e30])
    obtain ⟨⟨hk32, hb31⟩, hf⟩ := gd_some hf
    refine p_iald X (dcg dc_X12_turns 100 rfl) hk32 (vp_of_inb hb31) ?_
    obtain ⟨hb33, hf⟩ := gd_some hf
    refine p_iast X (dcg dc_X12_turns 101 rfl) hk32 (vp_of_inb hb33) ?_
    obtain ⟨h34, rfl, hf⟩ := lt_some hf
    refine p_iconst (v := 0) X (dcg dc_X12_turns 102 rfl) (by decide) ?_
    refine p_istore_n X (dcg dc_X12_turns 103 rfl) rfl (by decide) rfl ?_
    refine p_pick [0, 1, 2] ?_
    exact wX12_turns_l171 X hG hnm hf 
  · have hf := if_f q hf
    refine p_aload_n X (dcg dc_X12_turns 32 rfl) rfl rfl ?_
    obtain ⟨hk80, hf⟩ := gd_some hf
    refine p_getR X fl_X12_126 rfl (by decide) (dcg dc_X12_turns 33 rfl) hk80 ?_
    refine p_iload_n X (dcg dc_X12_turns 34 rfl) rfl rfl ?_
    obtain ⟨a81, e82, hf⟩ := gs_some hf
    first | subst e82 | (try rw [e82])
    obtain ⟨⟨hk84, hb83⟩, hf⟩ := gd_some hf
    refine p_iald X (dcg dc_X12_turns 35 rfl) hk84 (vp_of_inb hb83) ?_
    refine p_iconst (v := 2) X (dcg dc_X12_turns 36 rfl) (by decide) ?_
    refine p_icmp_ne (tgt := 80) X (dcg dc_X12_turns 37 rfl) (by decide) (fun q => ?_) (fun q => ?_)
    · have hf := if_t q hf
      refine p_pick [0, 1, 2] ?_
      exact wX12_turns_b80 X hG hnm hf k0 kf
    · have hf := if_f q hf
      refine p_aload_n X (dcg dc_X12_turns 38 rfl) rfl rfl ?_
      refine p_getR X fl_X12_60 rfl (by decide) (dcg dc_X12_turns 39 rfl) hk80 ?_
      refine p_sipush (v := 400) X (dcg dc_X12_turns 40 rfl) (by decide) ?_
      refine p_iload_n X (dcg dc_X12_turns 41 rfl) rfl rfl ?_
      refine p_imul X (dcg dc_X12_turns 42 rfl) ?_
      refine p_iload_n X (dcg dc_X12_turns 43 rfl) rfl rfl ?_
      refine p_iadd X (dcg dc_X12_turns 44 rfl) ?_
      obtain ⟨a113, e114, hf⟩ := gs_some hf
      first | subst e114 | (try rw [e114])
      obtain ⟨⟨hk116, hb115⟩, hf⟩ := gd_some hf
      refine p_iald X (dcg dc_X12_turns 45 rfl) hk116 (vp_of_inb hb115) ?_
      refine p_iconst (v := 4) X (dcg dc_X12_turns 46 rfl) (by decide) ?_
      refine p_icmp_ne (tgt := 80) X (dcg dc_X12_turns 47 rfl) (by decide) (fun q => ?_) (fun q => ?_)
      · have hf := if_t q hf
        refine p_pick [0, 1, 2] ?_
        exact wX12_turns_b80 X hG hnm hf k0 kf
      · have hf := if_f q hf
        refine p_iconst (v := 1) X (dcg dc_X12_turns 48 rfl) (by decide) ?_
        refine p_goto (tgt := 86) X (dcg dc_X12_turns 49 rfl) (by decide) ?_
        refine p_pick [0, 1, 2] ?_
        exact wX12_turns_b86 X hG hnm hf k0 kf
noncomputable def fX12_turns_l46 (v0 : Nat) (v1 : Int32) (v2 : Int32) (h : PH) : Option PH := wh (fun z : (Int32 × PH) => fX12_turns_c46 v0 v1 (z.1) (z.2)) (v2, h)
set_option maxRecDepth 100000 in
theorem mX12_turns_l46 {v0 : Nat} {v1 : Int32} {v2 : Int32} {h : PH} {r : PH} (hf : fX12_turns_l46 v0 v1 v2 h = some r) : eqz h (hX r) (hV r) := by
  unfold fX12_turns_l46 at hf
  refine wh_ind (P := fun z => eqz (z.2) (hX r) (hV r)) (fun z x0 hs i1 i2 => ?_) _ hf
  obtain ⟨c0, cf⟩ := mX12_turns_c46 (v0 := v0) (v1 := v1) (v2 := z.1) (h := z.2) hs
  rcases hxx : x0 with zz | zz
  · exact eqz_tr (c0 zz hxx) (i1 zz hxx)
  · have ee := i2 zz hxx; subst ee; exact cf zz hxx
set_option maxRecDepth 100000 in
theorem wX12_turns_l46 {E : PE} {p : Program} {l : Launch} {e : Env} {s : State} {m : MethodId} {args : Array Value} {below : List Frame} {meth : Method} {c : Code} (X : Cx E p l e (rmv 3 0 0) s m args below meth c RX12 cX12_turns 5 (none)) (hG : Gs E l) (hnm : meth.name = yX12_turns.name) {v0 : Nat} {v1 : Int32} {v2 : Int32} {h : PH} {r : PH} (hf : fX12_turns_l46 v0 v1 v2 h = some r)  : PW E p l e (rmv 3 0 0) s m args below meth c 5 0 0 (MQ below (QG E (fun v u => v = none ∧ u = r)) args s 0 0 (pA E)) h 46 [(0, some (.ref v0)), (1, some (.int v1)), (2, some (.int v2))] [] := by
  unfold fX12_turns_l46 at hf
  refine wh_ind (P := fun z => PW E p l e (rmv 3 0 0) s m args below meth c 5 0 0 (MQ below (QG E (fun v u => v = none ∧ u = r)) args s 0 0 (pA E)) (z.2) 46 [(0, some (.ref v0)), (1, some (.int v1)), (2, some (.int (z.1)))] []) (fun z x0 hs i1 i2 => ?_) _ hf
  exact wX12_turns_c46 (r := r) (v0 := v0) (v1 := v1) (v2 := z.1) (h := z.2) X hG hnm hs i1  i2
noncomputable def fX12_turns_c2 (v0 : Nat) (v1 : Int32) (v2 : Int32) (h : PH) : Option ((Int32 × PH) ⊕ PH) :=
  gd (hK h v0 = 12) (gs (hR h 12 v0 32) (fun a2 =>
  gd (hK h a2 = 20 ∧ inb v1 (hN h a2)) (if ((hI h 20 a2 (Int32.toNatClampNeg v1)) ≤ v2) then (mr (gs (hR h 12 v0 34) (fun a8 =>
  gd (hK h a8 = 20 ∧ inb v1 (hN h a8)) (gs (hR h 12 v0 52) (fun a12 =>
  gd (hK h a12 = 20 ∧ inb (hI h 20 a8 (Int32.toNatClampNeg v1)) (hN h a12)) (lt (sI h 20 a12 (Int32.toNatClampNeg (hI h 20 a8 (Int32.toNatClampNeg v1))) (2 : Int32)) (fun h16 =>
  gs (hR h16 12 v0 32) (fun a17 =>
  gd (hK h16 a17 = 20 ∧ inb v1 (hN h16 a17)) (fX12_turns_l46 v0 v1 ((hI h16 20 a17 (Int32.toNatClampNeg v1)) - (1 : Int32)) h16))))))))) else
  gs (hR h 12 v0 52) (fun a117 =>
  gd (hK h a117 = 20 ∧ inb v2 (hN h a117)) (lt (sI h 20 a117 (Int32.toNatClampNeg v2) (0 : Int32)) (fun h121 =>
  some (.inl ((v2 + 1), h121))))))))
set_option maxRecDepth 100000 in
theorem mX12_turns_c2 {v0 : Nat} {v1 : Int32} {v2 : Int32} {h : PH} {x : ((Int32 × PH) ⊕ PH)} (hf : fX12_turns_c2 v0 v1 v2 h = some x) : (∀ w9 : (Int32 × PH), x = .inl w9 → eqz h (hX (w9.2)) (hV (w9.2))) ∧ (∀ w9 : PH, x = .inr w9 → eqz h (hX w9) (hV w9)) := by
  unfold fX12_turns_c2 at hf
  have hle := eqz_rf h
  obtain ⟨hk1, hf⟩ := gd_some hf
  obtain ⟨a2, e3, hf⟩ := gs_some hf
  obtain ⟨⟨hk5, hb4⟩, hf⟩ := gd_some hf
  rcases ite_or hf with ⟨q, hf⟩ | ⟨q, hf⟩
  · have hf := if_t q hf
    obtain ⟨y6, hfm, rfl⟩ := mr_some hf; have hf := hfm; clear hfm
    obtain ⟨a8, e9, hf⟩ := gs_some hf
    obtain ⟨⟨hk11, hb10⟩, hf⟩ := gd_some hf
    obtain ⟨a12, e13, hf⟩ := gs_some hf
    obtain ⟨⟨hk15, hb14⟩, hf⟩ := gd_some hf
    obtain ⟨h16, rfl, hf⟩ := lt_some hf
    obtain ⟨a17, e18, hf⟩ := gs_some hf
    obtain ⟨⟨hk20, hb19⟩, hf⟩ := gd_some hf
    have cf := mX12_turns_l46 hf
    exact ⟨(fun z e => nomatch e), (fun z e => by cases e <;> exact eqz_rt cf hle)⟩
  · have hf := if_f q hf
    obtain ⟨a117, e118, hf⟩ := gs_some hf
    obtain ⟨⟨hk120, hb119⟩, hf⟩ := gd_some hf
    obtain ⟨h121, rfl, hf⟩ := lt_some hf
    have ee := Option.some.inj hf; subst ee
    exact ⟨(fun z e => by have ee := Sum.inl.inj (e); subst ee; exact hle), (fun z e => nomatch e)⟩
set_option maxRecDepth 100000 in
theorem wX12_turns_c2 {E : PE} {p : Program} {l : Launch} {e : Env} {s : State} {m : MethodId} {args : Array Value} {below : List Frame} {meth : Method} {c : Code} (X : Cx E p l e (rmv 3 0 0) s m args below meth c RX12 cX12_turns 5 (none)) (hG : Gs E l) (hnm : meth.name = yX12_turns.name) {v0 : Nat} {v1 : Int32} {v2 : Int32} {h : PH} {r : PH} {x : ((Int32 × PH) ⊕ PH)} (hf : fX12_turns_c2 v0 v1 v2 h = some x) (k0 : ∀ z : (Int32 × PH), x = .inl z → PW E p l e (rmv 3 0 0) s m args below meth c 5 0 0 (MQ below (QG E (fun v u => v = none ∧ u = r)) args s 0 0 (pA E)) (z.2) 2 [(0, some (.ref v0)), (1, some (.int v1)), (2, some (.int (z.1)))] []) (kf : ∀ z : PH, x = .inr z → z = r) : PW E p l e (rmv 3 0 0) s m args below meth c 5 0 0 (MQ below (QG E (fun v u => v = none ∧ u = r)) args s 0 0 (pA E)) h 2 [(0, some (.ref v0)), (1, some (.int v1)), (2, some (.int v2))] [] := by
  unfold fX12_turns_c2 at hf
  refine p_iload_n X (dcg dc_X12_turns 2 rfl) rfl rfl ?_
  refine p_aload_n X (dcg dc_X12_turns 3 rfl) rfl rfl ?_
  obtain ⟨hk1, hf⟩ := gd_some hf
  refine p_getR X fl_X12_81 rfl (by decide) (dcg dc_X12_turns 4 rfl) hk1 ?_
  refine p_iload_n X (dcg dc_X12_turns 5 rfl) rfl rfl ?_
  obtain ⟨a2, e3, hf⟩ := gs_some hf
  first | subst e3 | (try rw [e3])
  obtain ⟨⟨hk5, hb4⟩, hf⟩ := gd_some hf
  refine p_iald X (dcg dc_X12_turns 6 rfl) hk5 (vp_of_inb hb4) ?_
  refine p_icmp_ge (tgt := 25) X (dcg dc_X12_turns 7 rfl) (by decide) (fun q => ?_) (fun q => ?_)
  · have hf := if_t q hf
    obtain ⟨y6, hf, hy7⟩ := mr_some hf
    have hy7f := kf y6 hy7
    subst hy7f
    refine p_aload_n X (dcg dc_X12_turns 15 rfl) rfl rfl ?_
    refine p_getR X fl_X12_126 rfl (by decide) (dcg dc_X12_turns 16 rfl) hk1 ?_
    refine p_aload_n X (dcg dc_X12_turns 17 rfl) rfl rfl ?_
    refine p_getR X fl_X12_87 rfl (by decide) (dcg dc_X12_turns 18 rfl) hk1 ?_
    refine p_iload_n X (dcg dc_X12_turns 19 rfl) rfl rfl ?_
    obtain ⟨a8, e9, hf⟩ := gs_some hf
    first | subst e9 | (try rw [e9])
    obtain ⟨⟨hk11, hb10⟩, hf⟩ := gd_some hf
    refine p_iald X (dcg dc_X12_turns 20 rfl) hk11 (vp_of_inb hb10) ?_
    refine p_iconst (v := 2) X (dcg dc_X12_turns 21 rfl) (by decide) ?_
    obtain ⟨a12, e13, hf⟩ := gs_some hf
    first | subst e13 | (try rw [e13])
    obtain ⟨⟨hk15, hb14⟩, hf⟩ := gd_some hf
    refine p_iast X (dcg dc_X12_turns 22 rfl) hk15 (vp_of_inb hb14) ?_
    obtain ⟨h16, rfl, hf⟩ := lt_some hf
    refine p_aload_n X (dcg dc_X12_turns 23 rfl) rfl rfl ?_
    refine p_getR X fl_X12_81 rfl (by decide) (dcg dc_X12_turns 24 rfl) hk1 ?_
    refine p_iload_n X (dcg dc_X12_turns 25 rfl) rfl rfl ?_
    obtain ⟨a17, e18, hf⟩ := gs_some hf
    first | subst e18 | (try rw [e18])
    obtain ⟨⟨hk20, hb19⟩, hf⟩ := gd_some hf
    refine p_iald X (dcg dc_X12_turns 26 rfl) hk20 (vp_of_inb hb19) ?_
    refine p_iconst (v := 1) X (dcg dc_X12_turns 27 rfl) (by decide) ?_
    refine p_isub X (dcg dc_X12_turns 28 rfl) ?_
    refine p_istore_n X (dcg dc_X12_turns 29 rfl) rfl (by decide) rfl ?_
    refine p_pick [0, 1, 2] ?_
    exact wX12_turns_l46 X hG hnm hf 
  · have hf := if_f q hf
    refine p_aload_n X (dcg dc_X12_turns 8 rfl) rfl rfl ?_
    refine p_getR X fl_X12_126 rfl (by decide) (dcg dc_X12_turns 9 rfl) hk1 ?_
    refine p_iload_n X (dcg dc_X12_turns 10 rfl) rfl rfl ?_
    refine p_iconst (v := 0) X (dcg dc_X12_turns 11 rfl) (by decide) ?_
    obtain ⟨a117, e118, hf⟩ := gs_some hf
    first | subst e118 | (try rw [e118])
    obtain ⟨⟨hk120, hb119⟩, hf⟩ := gd_some hf
    refine p_iast X (dcg dc_X12_turns 12 rfl) hk120 (vp_of_inb hb119) ?_
    obtain ⟨h121, rfl, hf⟩ := lt_some hf
    refine p_iinc (v := 1) X (dcg dc_X12_turns 13 rfl) rfl (by decide) (by decide) rfl ?_
    refine p_goto (tgt := 2) X (dcg dc_X12_turns 14 rfl) (by decide) ?_
    refine p_pick [0, 1, 2] ?_
    exact k0 _ (Option.some.inj hf).symm
noncomputable def fX12_turns_l2 (v0 : Nat) (v1 : Int32) (v2 : Int32) (h : PH) : Option PH := wh (fun z : (Int32 × PH) => fX12_turns_c2 v0 v1 (z.1) (z.2)) (v2, h)
set_option maxRecDepth 100000 in
theorem mX12_turns_l2 {v0 : Nat} {v1 : Int32} {v2 : Int32} {h : PH} {r : PH} (hf : fX12_turns_l2 v0 v1 v2 h = some r) : eqz h (hX r) (hV r) := by
  unfold fX12_turns_l2 at hf
  refine wh_ind (P := fun z => eqz (z.2) (hX r) (hV r)) (fun z x0 hs i1 i2 => ?_) _ hf
  obtain ⟨c0, cf⟩ := mX12_turns_c2 (v0 := v0) (v1 := v1) (v2 := z.1) (h := z.2) hs
  rcases hxx : x0 with zz | zz
  · exact eqz_tr (c0 zz hxx) (i1 zz hxx)
  · have ee := i2 zz hxx; subst ee; exact cf zz hxx
set_option maxRecDepth 100000 in
theorem wX12_turns_l2 {E : PE} {p : Program} {l : Launch} {e : Env} {s : State} {m : MethodId} {args : Array Value} {below : List Frame} {meth : Method} {c : Code} (X : Cx E p l e (rmv 3 0 0) s m args below meth c RX12 cX12_turns 5 (none)) (hG : Gs E l) (hnm : meth.name = yX12_turns.name) {v0 : Nat} {v1 : Int32} {v2 : Int32} {h : PH} {r : PH} (hf : fX12_turns_l2 v0 v1 v2 h = some r)  : PW E p l e (rmv 3 0 0) s m args below meth c 5 0 0 (MQ below (QG E (fun v u => v = none ∧ u = r)) args s 0 0 (pA E)) h 2 [(0, some (.ref v0)), (1, some (.int v1)), (2, some (.int v2))] [] := by
  unfold fX12_turns_l2 at hf
  refine wh_ind (P := fun z => PW E p l e (rmv 3 0 0) s m args below meth c 5 0 0 (MQ below (QG E (fun v u => v = none ∧ u = r)) args s 0 0 (pA E)) (z.2) 2 [(0, some (.ref v0)), (1, some (.int v1)), (2, some (.int (z.1)))] []) (fun z x0 hs i1 i2 => ?_) _ hf
  exact wX12_turns_c2 (r := r) (v0 := v0) (v1 := v1) (v2 := z.1) (h := z.2) X hG hnm hs i1  i2
noncomputable def fX12_turns (v0 : Nat) (v1 : Int32) (h : PH) : Option PH :=
  fX12_turns_l2 v0 v1 (0 : Int32) h
set_option maxRecDepth 100000 in
theorem mX12_turns {v0 : Nat} {v1 : Int32} {h : PH} {r : PH} (hf : fX12_turns v0 v1 h = some r) : eqz h (hX r) (hV r) := by
  unfold fX12_turns at hf
  have hle := eqz_rf h
  exact eqz_rt (mX12_turns_l2 hf) hle
set_option maxRecDepth 100000 in
theorem wX12_turns {E : PE} {l : Launch} (hG : Gs E l) {v0 : Nat} {v1 : Int32} {h : PH} {r : PH} (hf : fX12_turns v0 v1 h = some r) : Ct E l 3 0 0 yX12_turns cX12_turns 5 (none) [.ref v0, .int v1] h (fun v u => v = none ∧ u = r) := by
  refine ct_of hG (by decide) (Nat.le_of_ble_eq_true rfl) ?_
  intro p e s m args below meth c X hnm
  show PW E p l e _ s m args below meth c _ 0 0 _ h 0 [(0, some (.ref v0)), (1, some (.int v1))] []
  unfold fX12_turns at hf
  refine p_iconst (v := 0) X (dcg dc_X12_turns 0 rfl) (by decide) ?_
  refine p_istore_n X (dcg dc_X12_turns 1 rfl) rfl (by decide) rfl ?_
  refine p_pick [0, 1, 2] ?_
  exact wX12_turns_l2 X hG hnm hf 
theorem dc_X12_keepNot : decs cX12_keepNot [(0, .aload_n 0, 1), (1, .iconst 0, 1), (2, .putfield 1, 3), (5, .aload_n 0, 1), (6, .iload_n 1, 1), (7, .invokevirtual 358, 3), (10, .ifCond .ne 11, 3), (13, .aload_n 0, 1), (14, .iload_n 2, 1), (15, .invokevirtual 361, 3), (18, .ifCond .eq 5, 3), (21, .iconst 0, 1), (22, .ireturn, 1), (23, .aload_n 0, 1), (24, .iload_n 2, 1), (25, .invokevirtual 373, 3), (28, .aload_n 0, 1), (29, .bipush 7, 2), (31, .iload_n 1, 1), (32, .invokevirtual 364, 3), (35, .aload_n 0, 1), (36, .iload_n 1, 1), (37, .invokevirtual 367, 3), (40, .ireturn, 1)] = true := by decide +kernel
noncomputable def fX12_keepNot_b21  (h : PH) : Option (Int32 × PH) :=
  some (((0 : Int32), h))
set_option maxRecDepth 100000 in
theorem mX12_keepNot_b21  {h : PH} {r : (Int32 × PH)} (hf : fX12_keepNot_b21  h = some r) : eqz h (hX r.2) (hV r.2) := by
  unfold fX12_keepNot_b21 at hf
  have hle := eqz_rf h
  have ee := Option.some.inj hf; subst ee; exact hle
set_option maxRecDepth 100000 in
theorem wX12_keepNot_b21 {E : PE} {p : Program} {l : Launch} {e : Env} {s : State} {m : MethodId} {args : Array Value} {below : List Frame} {meth : Method} {c : Code} (X : Cx E p l e (rmv 5 0 0) s m args below meth c RX12 cX12_keepNot 3 (some .int)) (hG : Gs E l) (hnm : meth.name = yX12_keepNot.name)  {h : PH} {r : (Int32 × PH)} (hf : fX12_keepNot_b21  h = some r)  : PW E p l e (rmv 5 0 0) s m args below meth c 3 0 0 (MQ below (QG E (fun v u => v = some (.int r.1) ∧ u = r.2)) args s 0 0 (pA E)) h 21 [] [] := by
  unfold fX12_keepNot_b21 at hf
  refine p_iconst (v := 0) X (dcg dc_X12_keepNot 11 rfl) (by decide) ?_
  have er := Option.some.inj hf
  subst er
  exact p_iret X rfl (dcg dc_X12_keepNot 12 rfl) ⟨rfl, rfl⟩ (Nat.le_refl _) (Nat.le_refl _)
noncomputable def fX12_keepNot (v0 : Nat) (v1 : Int32) (v2 : Int32) (h : PH) : Option (Int32 × PH) :=
  gd (hK h v0 = 12) (lt (sI h 12 v0 0 (0 : Int32)) (fun h2 =>
  bd (fX12_noQuery v0 v1 h2) (fun z3 =>
  if (¬ z3.1 = 0) then (fX12_keepNot_b21  z3.2) else
  gd (hK z3.2 v0 = 12) (bd (fX12_noKept v0 v2 z3.2) (fun z5 =>
  if (z5.1 = 0) then (gd (hK z5.2 v0 = 12) (bd (fX12_turns v0 v2 z5.2) (fun z7 =>
  gd (hK z7 v0 = 12) (bd (fX12_copies v0 (7 : Int32) v1 z7) (fun z9 =>
  gd (hK z9 v0 = 12) (bd (fX12_manyFound v0 v1 z9) (fun z11 =>
  some ((z11.1, z11.2))))))))) else
  fX12_keepNot_b21  z5.2)))))
set_option maxRecDepth 100000 in
theorem mX12_keepNot {v0 : Nat} {v1 : Int32} {v2 : Int32} {h : PH} {r : (Int32 × PH)} (hf : fX12_keepNot v0 v1 v2 h = some r) : eqz h (hX r.2) (hV r.2) := by
  unfold fX12_keepNot at hf
  have hle := eqz_rf h
  obtain ⟨hk1, hf⟩ := gd_some hf
  obtain ⟨h2, rfl, hf⟩ := lt_some hf
  obtain ⟨z3, hz3, hf⟩ := bd_some hf
  have hle := eqz_rt (mX12_noQuery hz3) hle
  rcases ite_or hf with ⟨q, hf⟩ | ⟨q, hf⟩
  · have hf := if_t q hf
    exact eqz_rt (mX12_keepNot_b21 hf) hle
  · have hf := if_f q hf
    obtain ⟨hk4, hf⟩ := gd_some hf
    obtain ⟨z5, hz5, hf⟩ := bd_some hf
    have hle := eqz_rt (mX12_noKept hz5) hle
    rcases ite_or hf with ⟨q, hf⟩ | ⟨q, hf⟩
    · have hf := if_t q hf
      obtain ⟨hk6, hf⟩ := gd_some hf
      obtain ⟨z7, hz7, hf⟩ := bd_some hf
      have hle := eqz_rt (mX12_turns hz7) hle
      obtain ⟨hk8, hf⟩ := gd_some hf
      obtain ⟨z9, hz9, hf⟩ := bd_some hf
      have hle := eqz_rt (mX12_copies hz9) hle
      obtain ⟨hk10, hf⟩ := gd_some hf
      obtain ⟨z11, hz11, hf⟩ := bd_some hf
      have hle := eqz_rt (mX12_manyFound hz11) hle
      have ee := Option.some.inj hf; subst ee; exact hle
    · have hf := if_f q hf
      exact eqz_rt (mX12_keepNot_b21 hf) hle
set_option maxRecDepth 100000 in
theorem wX12_keepNot {E : PE} {l : Launch} (hG : Gs E l) {v0 : Nat} {v1 : Int32} {v2 : Int32} {h : PH} {r : (Int32 × PH)} (hf : fX12_keepNot v0 v1 v2 h = some r) : Ct E l 5 0 0 yX12_keepNot cX12_keepNot 3 (some .int) [.ref v0, .int v1, .int v2] h (fun v u => v = some (.int r.1) ∧ u = r.2) := by
  refine ct_of hG (by decide) (Nat.le_of_ble_eq_true rfl) ?_
  intro p e s m args below meth c X hnm
  show PW E p l e _ s m args below meth c _ 0 0 _ h 0 [(0, some (.ref v0)), (1, some (.int v1)), (2, some (.int v2))] []
  unfold fX12_keepNot at hf
  refine p_aload_n X (dcg dc_X12_keepNot 0 rfl) rfl rfl ?_
  refine p_iconst (v := 0) X (dcg dc_X12_keepNot 1 rfl) (by decide) ?_
  obtain ⟨hk1, hf⟩ := gd_some hf
  refine p_putI X fl_X12_1 rfl (by decide) (fun q hq => by cases hq; rfl) rfl rfl (dcg dc_X12_keepNot 2 rfl) hk1 ?_
  obtain ⟨h2, rfl, hf⟩ := lt_some hf
  refine p_aload_n X (dcg dc_X12_keepNot 3 rfl) rfl rfl ?_
  refine p_iload_n X (dcg dc_X12_keepNot 4 rfl) rfl rfl ?_
  obtain ⟨z3, hz3, hf⟩ := bd_some hf
  refine p_callV (As := [_]) X ml_X12_358 (dcg dc_X12_keepNot 5 rfl) rfl rfl hk1 (wX12_noQuery hG hz3) (by decide) (room4 (Nat.le_of_ble_eq_true rfl)) (Nat.le_refl _) (Nat.le_refl _) ?_
  rintro _ u9 ⟨rfl, e9⟩; have e9 := e9.symm; subst e9
  refine p_if_ne (tgt := 21) X (dcg dc_X12_keepNot 6 rfl) (by decide) (fun q => ?_) (fun q => ?_)
  · have hf := if_t q hf
    refine p_pick [] ?_
    exact wX12_keepNot_b21 X hG hnm hf 
  · have hf := if_f q hf
    refine p_aload_n X (dcg dc_X12_keepNot 7 rfl) rfl rfl ?_
    refine p_iload_n X (dcg dc_X12_keepNot 8 rfl) rfl rfl ?_
    obtain ⟨hk4, hf⟩ := gd_some hf
    obtain ⟨z5, hz5, hf⟩ := bd_some hf
    refine p_callV (As := [_]) X ml_X12_361 (dcg dc_X12_keepNot 9 rfl) rfl rfl hk4 (wX12_noKept hG hz5) (by decide) (room4 (Nat.le_of_ble_eq_true rfl)) (Nat.le_refl _) (Nat.le_refl _) ?_
    rintro _ u9 ⟨rfl, e9⟩; have e9 := e9.symm; subst e9
    refine p_if_eq (tgt := 23) X (dcg dc_X12_keepNot 10 rfl) (by decide) (fun q => ?_) (fun q => ?_)
    · have hf := if_t q hf
      refine p_aload_n X (dcg dc_X12_keepNot 13 rfl) rfl rfl ?_
      refine p_iload_n X (dcg dc_X12_keepNot 14 rfl) rfl rfl ?_
      obtain ⟨hk6, hf⟩ := gd_some hf
      obtain ⟨z7, hz7, hf⟩ := bd_some hf
      refine p_callV (As := [_]) X ml_X12_373 (dcg dc_X12_keepNot 15 rfl) rfl rfl hk6 (wX12_turns hG hz7) (by decide) (room4 (Nat.le_of_ble_eq_true rfl)) (Nat.le_refl _) (Nat.le_refl _) ?_
      rintro _ u9 ⟨rfl, e9⟩; have e9 := e9.symm; subst e9
      refine p_aload_n X (dcg dc_X12_keepNot 16 rfl) rfl rfl ?_
      refine p_bipush (v := 7) X (dcg dc_X12_keepNot 17 rfl) (by decide) ?_
      refine p_iload_n X (dcg dc_X12_keepNot 18 rfl) rfl rfl ?_
      obtain ⟨hk8, hf⟩ := gd_some hf
      obtain ⟨z9, hz9, hf⟩ := bd_some hf
      refine p_callV (As := [_, _]) X ml_X12_364 (dcg dc_X12_keepNot 19 rfl) rfl rfl hk8 (wX12_copies hG hz9) (by decide) (room4 (Nat.le_of_ble_eq_true rfl)) (Nat.le_refl _) (Nat.le_refl _) ?_
      rintro _ u9 ⟨rfl, e9⟩; have e9 := e9.symm; subst e9
      refine p_aload_n X (dcg dc_X12_keepNot 20 rfl) rfl rfl ?_
      refine p_iload_n X (dcg dc_X12_keepNot 21 rfl) rfl rfl ?_
      obtain ⟨hk10, hf⟩ := gd_some hf
      obtain ⟨z11, hz11, hf⟩ := bd_some hf
      refine p_callV (As := [_]) X ml_X12_367 (dcg dc_X12_keepNot 22 rfl) rfl rfl hk10 (wX12_manyFound hG hz11) (by decide) (room4 (Nat.le_of_ble_eq_true rfl)) (Nat.le_refl _) (Nat.le_refl _) ?_
      rintro _ u9 ⟨rfl, e9⟩; have e9 := e9.symm; subst e9
      have er := Option.some.inj hf
      subst er
      exact p_iret X rfl (dcg dc_X12_keepNot 23 rfl) ⟨rfl, rfl⟩ (Nat.le_refl _) (Nat.le_refl _)
    · have hf := if_f q hf
      refine p_pick [] ?_
      exact wX12_keepNot_b21 X hG hnm hf 
