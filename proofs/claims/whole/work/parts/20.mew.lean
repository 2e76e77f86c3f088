/-! methods of the program (by program: wip/whole/gen2.py) -/
theorem dc_X12_words : decs cX12_words [(0, .aload_n 0, 1), (1, .iconst 0, 1), (2, .putfield 1, 3), (5, .aload_n 0, 1), (6, .invokevirtual 237, 3), (9, .aload_n 0, 1), (10, .getfield 225, 3), (13, .ireturn, 1)] = true := by decide +kernel
noncomputable def fX12_words (v0 : Nat) (h : PH) : Option (Int32 × PH) :=
  gd (hK h v0 = 12) (lt (sI h 12 v0 0 (0 : Int32)) (fun h2 =>
  bd (fX12_finds v0 h2) (fun z3 =>
  gd (hK z3 v0 = 12) (some (((hI z3 12 v0 20), z3))))))
set_option maxRecDepth 100000 in
theorem mX12_words {v0 : Nat} {h : PH} {r : (Int32 × PH)} (hf : fX12_words v0 h = some r) : eqz h (hX r.2) (hV r.2) := by
  unfold fX12_words at hf
  have hle := eqz_rf h
  obtain ⟨hk1, hf⟩ := gd_some hf
  obtain ⟨h2, rfl, hf⟩ := lt_some hf
  obtain ⟨z3, hz3, hf⟩ := bd_some hf
  have hle := eqz_rt (mX12_finds hz3) hle
  obtain ⟨hk4, hf⟩ := gd_some hf
  have ee := Option.some.inj hf; subst ee; exact hle
set_option maxRecDepth 100000 in
theorem wX12_words {E : PE} {l : Launch} (hG : Gs E l) {v0 : Nat} {h : PH} {r : (Int32 × PH)} (hf : fX12_words v0 h = some r) : Ct E l 5 0 0 yX12_words cX12_words 1 (some .int) [.ref v0] h (fun v u => v = some (.int r.1) ∧ u = r.2) := by
  refine ct_of hG (by decide) (Nat.le_of_ble_eq_true rfl) ?_
  intro p e s m args below meth c X hnm
  show PW E p l e _ s m args below meth c _ 0 0 _ h 0 [(0, some (.ref v0))] []
  unfold fX12_words at hf
  refine p_aload_n X (dcg dc_X12_words 0 rfl) rfl rfl ?_
  refine p_iconst (v := 0) X (dcg dc_X12_words 1 rfl) (by decide) ?_
  obtain ⟨hk1, hf⟩ := gd_some hf
  refine p_putI X fl_X12_1 rfl (by decide) (fun q hq => by cases hq; rfl) rfl rfl (dcg dc_X12_words 2 rfl) hk1 ?_
  obtain ⟨h2, rfl, hf⟩ := lt_some hf
  refine p_aload_n X (dcg dc_X12_words 3 rfl) rfl rfl ?_
  obtain ⟨z3, hz3, hf⟩ := bd_some hf
  refine p_callV (As := []) X ml_X12_237 (dcg dc_X12_words 4 rfl) rfl rfl hk1 (wX12_finds hG hz3) (by decide) (room4 (Nat.le_of_ble_eq_true rfl)) (Nat.le_refl _) (Nat.le_refl _) ?_
  rintro _ u9 ⟨rfl, e9⟩; have e9 := e9.symm; subst e9
  refine p_aload_n X (dcg dc_X12_words 5 rfl) rfl rfl ?_
  obtain ⟨hk4, hf⟩ := gd_some hf
  refine p_getI X fl_X12_225 rfl (by decide) (dcg dc_X12_words 6 rfl) hk4 ?_
  have er := Option.some.inj hf
  subst er
  exact p_iret X rfl (dcg dc_X12_words 7 rfl) ⟨rfl, rfl⟩ (Nat.le_refl _) (Nat.le_refl _)
theorem dc_X12_indexWord : decs cX12_indexWord [(0, .aload_n 0, 1), (1, .iconst 0, 1), (2, .putfield 1, 3), (5, .aload_n 0, 1), (6, .invokevirtual 237, 3), (9, .aload_n 0, 1), (10, .iload_n 1, 1), (11, .iconst 0, 1), (12, .aload_n 0, 1), (13, .getfield 225, 3), (16, .iconst 1, 1), (17, .isub, 1), (18, .invokestatic 148, 3), (21, .iconst 1, 1), (22, .invokevirtual 156, 3), (25, .ifCond .eq 7, 3), (28, .iconst 0, 1), (29, .goto 9, 3), (32, .aload_n 0, 1), (33, .getfield 57, 3), (36, .iload_n 1, 1), (37, .iaload, 1), (38, .ireturn, 1)] = true := by decide +kernel
noncomputable def fX12_indexWord_b38 (t0 : Int32) (h : PH) : Option (Int32 × PH) :=
  some ((t0, h))
set_option maxRecDepth 100000 in
theorem mX12_indexWord_b38 {t0 : Int32} {h : PH} {r : (Int32 × PH)} (hf : fX12_indexWord_b38 t0 h = some r) : eqz h (hX r.2) (hV r.2) := by
  unfold fX12_indexWord_b38 at hf
  have hle := eqz_rf h
  have ee := Option.some.inj hf; subst ee; exact hle
set_option maxRecDepth 100000 in
theorem wX12_indexWord_b38 {E : PE} {p : Program} {l : Launch} {e : Env} {s : State} {m : MethodId} {args : Array Value} {below : List Frame} {meth : Method} {c : Code} (X : Cx E p l e (rmv 5 0 0) s m args below meth c RX12 cX12_indexWord 2 (some .int)) (hG : Gs E l) (hnm : meth.name = yX12_indexWord.name) {t0 : Int32} {h : PH} {r : (Int32 × PH)} (hf : fX12_indexWord_b38 t0 h = some r)  : PW E p l e (rmv 5 0 0) s m args below meth c 2 0 0 (MQ below (QG E (fun v u => v = some (.int r.1) ∧ u = r.2)) args s 0 0 (pA E)) h 38 [] [.int t0] := by
  unfold fX12_indexWord_b38 at hf
  have er := Option.some.inj hf
  subst er
  exact p_iret X rfl (dcg dc_X12_indexWord 22 rfl) ⟨rfl, rfl⟩ (Nat.le_refl _) (Nat.le_refl _)
noncomputable def fX12_indexWord (v0 : Nat) (v1 : Int32) (h : PH) : Option (Int32 × PH) :=
  gd (hK h v0 = 12) (lt (sI h 12 v0 0 (0 : Int32)) (fun h2 =>
  bd (fX12_finds v0 h2) (fun z3 =>
  gd (hK z3 v0 = 12) (bd (fX12_in v1 (0 : Int32) ((hI z3 12 v0 20) - (1 : Int32))) (fun z5 =>
  bd (fX12_fails v0 z5 (1 : Int32) z3) (fun z6 =>
  if (z6.1 = 0) then (gd (hK z6.2 v0 = 12) (gs (hR z6.2 12 v0 19) (fun a8 =>
  gd (hK z6.2 a8 = 20 ∧ inb v1 (hN z6.2 a8)) (fX12_indexWord_b38 (hI z6.2 20 a8 (Int32.toNatClampNeg v1)) z6.2)))) else
  fX12_indexWord_b38 (0 : Int32) z6.2))))))
set_option maxRecDepth 100000 in
theorem mX12_indexWord {v0 : Nat} {v1 : Int32} {h : PH} {r : (Int32 × PH)} (hf : fX12_indexWord v0 v1 h = some r) : eqz h (hX r.2) (hV r.2) := by
  unfold fX12_indexWord at hf
  have hle := eqz_rf h
  obtain ⟨hk1, hf⟩ := gd_some hf
  obtain ⟨h2, rfl, hf⟩ := lt_some hf
  obtain ⟨z3, hz3, hf⟩ := bd_some hf
  have hle := eqz_rt (mX12_finds hz3) hle
  obtain ⟨hk4, hf⟩ := gd_some hf
  obtain ⟨z5, hz5, hf⟩ := bd_some hf
  obtain ⟨z6, hz6, hf⟩ := bd_some hf
  have hle := eqz_rt (mX12_fails hz6) hle
  rcases ite_or hf with ⟨q, hf⟩ | ⟨q, hf⟩
  · have hf := if_t q hf
    obtain ⟨hk7, hf⟩ := gd_some hf
    obtain ⟨a8, e9, hf⟩ := gs_some hf
    obtain ⟨⟨hk11, hb10⟩, hf⟩ := gd_some hf
    exact eqz_rt (mX12_indexWord_b38 hf) hle
  · have hf := if_f q hf
    exact eqz_rt (mX12_indexWord_b38 hf) hle
set_option maxRecDepth 100000 in
theorem wX12_indexWord {E : PE} {l : Launch} (hG : Gs E l) {v0 : Nat} {v1 : Int32} {h : PH} {r : (Int32 × PH)} (hf : fX12_indexWord v0 v1 h = some r) : Ct E l 5 0 0 yX12_indexWord cX12_indexWord 2 (some .int) [.ref v0, .int v1] h (fun v u => v = some (.int r.1) ∧ u = r.2) := by
  refine ct_of hG (by decide) (Nat.le_of_ble_eq_true rfl) ?_
  intro p e s m args below meth c X hnm
  show PW E p l e _ s m args below meth c _ 0 0 _ h 0 [(0, some (.ref v0)), (1, some (.int v1))] []
  unfold fX12_indexWord at hf
  refine p_aload_n X (dcg dc_X12_indexWord 0 rfl) rfl rfl ?_
  refine p_iconst (v := 0) X (dcg dc_X12_indexWord 1 rfl) (by decide) ?_
  obtain ⟨hk1, hf⟩ := gd_some hf
  refine p_putI X fl_X12_1 rfl (by decide) (fun q hq => by cases hq; rfl) rfl rfl (dcg dc_X12_indexWord 2 rfl) hk1 ?_
  obtain ⟨h2, rfl, hf⟩ := lt_some hf
  refine p_aload_n X (dcg dc_X12_indexWord 3 rfl) rfl rfl ?_
  obtain ⟨z3, hz3, hf⟩ := bd_some hf
  refine p_callV (As := []) X ml_X12_237 (dcg dc_X12_indexWord 4 rfl) rfl rfl hk1 (wX12_finds hG hz3) (by decide) (room4 (Nat.le_of_ble_eq_true rfl)) (Nat.le_refl _) (Nat.le_refl _) ?_
  rintro _ u9 ⟨rfl, e9⟩; have e9 := e9.symm; subst e9
  refine p_aload_n X (dcg dc_X12_indexWord 5 rfl) rfl rfl ?_
  refine p_iload_n X (dcg dc_X12_indexWord 6 rfl) rfl rfl ?_
  refine p_iconst (v := 0) X (dcg dc_X12_indexWord 7 rfl) (by decide) ?_
  refine p_aload_n X (dcg dc_X12_indexWord 8 rfl) rfl rfl ?_
  obtain ⟨hk4, hf⟩ := gd_some hf
  refine p_getI X fl_X12_225 rfl (by decide) (dcg dc_X12_indexWord 9 rfl) hk4 ?_
  refine p_iconst (v := 1) X (dcg dc_X12_indexWord 10 rfl) (by decide) ?_
  refine p_isub X (dcg dc_X12_indexWord 11 rfl) ?_
  obtain ⟨z5, hz5, hf⟩ := bd_some hf
  refine p_callS (As := [_, _, _]) X ml_X12_148 (dcg dc_X12_indexWord 12 rfl) rfl rfl  (wX12_in hG hz5) (by decide) (room4 (Nat.le_of_ble_eq_true rfl)) (Nat.le_refl _) (Nat.le_refl _) ?_
  rintro _ u9 ⟨rfl, e9⟩; have e9 := e9.symm; subst e9
  refine p_iconst (v := 1) X (dcg dc_X12_indexWord 13 rfl) (by decide) ?_
  obtain ⟨z6, hz6, hf⟩ := bd_some hf
  refine p_callV (As := [_, _]) X ml_X12_156 (dcg dc_X12_indexWord 14 rfl) rfl rfl hk4 (wX12_fails hG hz6) (by decide) (room4 (Nat.le_of_ble_eq_true rfl)) (Nat.le_refl _) (Nat.le_refl _) ?_
  rintro _ u9 ⟨rfl, e9⟩; have e9 := e9.symm; subst e9
  refine p_if_eq (tgt := 32) X (dcg dc_X12_indexWord 15 rfl) (by decide) (fun q => ?_) (fun q => ?_)
  · have hf := if_t q hf
    refine p_aload_n X (dcg dc_X12_indexWord 18 rfl) rfl rfl ?_
    obtain ⟨hk7, hf⟩ := gd_some hf
    refine p_getR X fl_X12_57 rfl (by decide) (dcg dc_X12_indexWord 19 rfl) hk7 ?_
    refine p_iload_n X (dcg dc_X12_indexWord 20 rfl) rfl rfl ?_
    obtain ⟨a8, e9, hf⟩ := gs_some hf
    first | subst e9 | (try rw [e9])
    obtain ⟨⟨hk11, hb10⟩, hf⟩ := gd_some hf
    refine p_iald X (dcg dc_X12_indexWord 21 rfl) hk11 (vp_of_inb hb10) ?_
    refine p_pick [] ?_
    exact wX12_indexWord_b38 X hG hnm hf 
  · have hf := if_f q hf
    refine p_iconst (v := 0) X (dcg dc_X12_indexWord 16 rfl) (by decide) ?_
    refine p_goto (tgt := 38) X (dcg dc_X12_indexWord 17 rfl) (by decide) ?_
    refine p_pick [] ?_
    exact wX12_indexWord_b38 X hG hnm hf 
theorem dc_X12_firstWord : decs cX12_firstWord [(0, .aload_n 0, 1), (1, .iconst 0, 1), (2, .putfield 1, 3), (5, .aload_n 0, 1), (6, .invokevirtual 237, 3), (9, .aload_n 0, 1), (10, .aload_n 0, 1), (11, .getfield 225, 3), (14, .ifCond .le 7, 3), (17, .iconst 1, 1), (18, .goto 4, 3), (21, .iconst 0, 1), (22, .iconst 1, 1), (23, .invokevirtual 156, 3), (26, .ifCond .eq 7, 3), (29, .iconst 0, 1), (30, .goto 9, 3), (33, .aload_n 0, 1), (34, .getfield 57, 3), (37, .iconst 0, 1), (38, .iaload, 1), (39, .ireturn, 1)] = true := by decide +kernel
noncomputable def fX12_firstWord_b39 (t0 : Int32) (h : PH) : Option (Int32 × PH) :=
  some ((t0, h))
set_option maxRecDepth 100000 in
theorem mX12_firstWord_b39 {t0 : Int32} {h : PH} {r : (Int32 × PH)} (hf : fX12_firstWord_b39 t0 h = some r) : eqz h (hX r.2) (hV r.2) := by
  unfold fX12_firstWord_b39 at hf
  have hle := eqz_rf h
  have ee := Option.some.inj hf; subst ee; exact hle
set_option maxRecDepth 100000 in
theorem wX12_firstWord_b39 {E : PE} {p : Program} {l : Launch} {e : Env} {s : State} {m : MethodId} {args : Array Value} {below : List Frame} {meth : Method} {c : Code} (X : Cx E p l e (rmv 5 0 0) s m args below meth c RX12 cX12_firstWord 1 (some .int)) (hG : Gs E l) (hnm : meth.name = yX12_firstWord.name) {t0 : Int32} {h : PH} {r : (Int32 × PH)} (hf : fX12_firstWord_b39 t0 h = some r)  : PW E p l e (rmv 5 0 0) s m args below meth c 1 0 0 (MQ below (QG E (fun v u => v = some (.int r.1) ∧ u = r.2)) args s 0 0 (pA E)) h 39 [] [.int t0] := by
  unfold fX12_firstWord_b39 at hf
  have er := Option.some.inj hf
  subst er
  exact p_iret X rfl (dcg dc_X12_firstWord 21 rfl) ⟨rfl, rfl⟩ (Nat.le_refl _) (Nat.le_refl _)
noncomputable def fX12_firstWord_b22 (v0 : Nat) (t0 : Option Nat) (t1 : Int32) (h : PH) : Option (Int32 × PH) :=
  gs t0 (fun a5 =>
  gd (hK h a5 = 12) (bd (fX12_fails a5 t1 (1 : Int32) h) (fun z8 =>
  if (z8.1 = 0) then (gd (hK z8.2 v0 = 12) (gs (hR z8.2 12 v0 19) (fun a10 =>
  gd (hK z8.2 a10 = 20 ∧ inb (0 : Int32) (hN z8.2 a10)) (fX12_firstWord_b39 (hI z8.2 20 a10 (Int32.toNatClampNeg (0 : Int32))) z8.2)))) else
  fX12_firstWord_b39 (0 : Int32) z8.2)))
set_option maxRecDepth 100000 in
theorem mX12_firstWord_b22 {v0 : Nat} {t0 : Option Nat} {t1 : Int32} {h : PH} {r : (Int32 × PH)} (hf : fX12_firstWord_b22 v0 t0 t1 h = some r) : eqz h (hX r.2) (hV r.2) := by
  unfold fX12_firstWord_b22 at hf
  have hle := eqz_rf h
  obtain ⟨a5, e6, hf⟩ := gs_some hf
  obtain ⟨hk7, hf⟩ := gd_some hf
  obtain ⟨z8, hz8, hf⟩ := bd_some hf
  have hle := eqz_rt (mX12_fails hz8) hle
  rcases ite_or hf with ⟨q, hf⟩ | ⟨q, hf⟩
  · have hf := if_t q hf
    obtain ⟨hk9, hf⟩ := gd_some hf
    obtain ⟨a10, e11, hf⟩ := gs_some hf
    obtain ⟨⟨hk13, hb12⟩, hf⟩ := gd_some hf
    exact eqz_rt (mX12_firstWord_b39 hf) hle
  · have hf := if_f q hf
    exact eqz_rt (mX12_firstWord_b39 hf) hle
set_option maxRecDepth 100000 in
theorem wX12_firstWord_b22 {E : PE} {p : Program} {l : Launch} {e : Env} {s : State} {m : MethodId} {args : Array Value} {below : List Frame} {meth : Method} {c : Code} (X : Cx E p l e (rmv 5 0 0) s m args below meth c RX12 cX12_firstWord 1 (some .int)) (hG : Gs E l) (hnm : meth.name = yX12_firstWord.name) {v0 : Nat} {t0 : Option Nat} {t1 : Int32} {h : PH} {r : (Int32 × PH)} (hf : fX12_firstWord_b22 v0 t0 t1 h = some r)  : PW E p l e (rmv 5 0 0) s m args below meth c 1 0 0 (MQ below (QG E (fun v u => v = some (.int r.1) ∧ u = r.2)) args s 0 0 (pA E)) h 22 [(0, some (.ref v0))] [.int t1, va_rf t0] := by
  unfold fX12_firstWord_b22 at hf
  refine p_iconst (v := 1) X (dcg dc_X12_firstWord 12 rfl) (by decide) ?_
  obtain ⟨a5, e6, hf⟩ := gs_some hf
  first | subst e6 | (try rw [e6])
  obtain ⟨hk7, hf⟩ := gd_some hf
  obtain ⟨z8, hz8, hf⟩ := bd_some hf
  refine p_callV (As := [_, _]) X ml_X12_156 (dcg dc_X12_firstWord 13 rfl) rfl rfl hk7 (wX12_fails hG hz8) (by decide) (room4 (Nat.le_of_ble_eq_true rfl)) (Nat.le_refl _) (Nat.le_refl _) ?_
  rintro _ u9 ⟨rfl, e9⟩; have e9 := e9.symm; subst e9
  refine p_if_eq (tgt := 33) X (dcg dc_X12_firstWord 14 rfl) (by decide) (fun q => ?_) (fun q => ?_)
  · have hf := if_t q hf
    refine p_aload_n X (dcg dc_X12_firstWord 17 rfl) rfl rfl ?_
    obtain ⟨hk9, hf⟩ := gd_some hf
    refine p_getR X fl_X12_57 rfl (by decide) (dcg dc_X12_firstWord 18 rfl) hk9 ?_
    refine p_iconst (v := 0) X (dcg dc_X12_firstWord 19 rfl) (by decide) ?_
    obtain ⟨a10, e11, hf⟩ := gs_some hf
    first | subst e11 | (try rw [e11])
    obtain ⟨⟨hk13, hb12⟩, hf⟩ := gd_some hf
    refine p_iald X (dcg dc_X12_firstWord 20 rfl) hk13 (vp_of_inb hb12) ?_
    refine p_pick [] ?_
    exact wX12_firstWord_b39 X hG hnm hf 
  · have hf := if_f q hf
    refine p_iconst (v := 0) X (dcg dc_X12_firstWord 15 rfl) (by decide) ?_
    refine p_goto (tgt := 39) X (dcg dc_X12_firstWord 16 rfl) (by decide) ?_
    refine p_pick [] ?_
    exact wX12_firstWord_b39 X hG hnm hf 
noncomputable def fX12_firstWord (v0 : Nat) (h : PH) : Option (Int32 × PH) :=
  gd (hK h v0 = 12) (lt (sI h 12 v0 0 (0 : Int32)) (fun h2 =>
  bd (fX12_finds v0 h2) (fun z3 =>
  gd (hK z3 v0 = 12) (if ((hI z3 12 v0 20) ≤ 0) then (fX12_firstWord_b22 v0 (some v0) (0 : Int32) z3) else
  fX12_firstWord_b22 v0 (some v0) (1 : Int32) z3))))
set_option maxRecDepth 100000 in
theorem mX12_firstWord {v0 : Nat} {h : PH} {r : (Int32 × PH)} (hf : fX12_firstWord v0 h = some r) : eqz h (hX r.2) (hV r.2) := by
  unfold fX12_firstWord at hf
  have hle := eqz_rf h
  obtain ⟨hk1, hf⟩ := gd_some hf
  obtain ⟨h2, rfl, hf⟩ := lt_some hf
  obtain ⟨z3, hz3, hf⟩ := bd_some hf
  have hle := eqz_rt (mX12_finds hz3) hle
  obtain ⟨hk4, hf⟩ := gd_some hf
  rcases ite_or hf with ⟨q, hf⟩ | ⟨q, hf⟩
  · have hf := if_t q hf
    exact eqz_rt (mX12_firstWord_b22 hf) hle
  · have hf := if_f q hf
    exact eqz_rt (mX12_firstWord_b22 hf) hle
set_option maxRecDepth 100000 in
theorem wX12_firstWord {E : PE} {l : Launch} (hG : Gs E l) {v0 : Nat} {h : PH} {r : (Int32 × PH)} (hf : fX12_firstWord v0 h = some r) : Ct E l 5 0 0 yX12_firstWord cX12_firstWord 1 (some .int) [.ref v0] h (fun v u => v = some (.int r.1) ∧ u = r.2) := by
  refine ct_of hG (by decide) (Nat.le_of_ble_eq_true rfl) ?_
  intro p e s m args below meth c X hnm
  show PW E p l e _ s m args below meth c _ 0 0 _ h 0 [(0, some (.ref v0))] []
  unfold fX12_firstWord at hf
  refine p_aload_n X (dcg dc_X12_firstWord 0 rfl) rfl rfl ?_
  refine p_iconst (v := 0) X (dcg dc_X12_firstWord 1 rfl) (by decide) ?_
  obtain ⟨hk1, hf⟩ := gd_some hf
  refine p_putI X fl_X12_1 rfl (by decide) (fun q hq => by cases hq; rfl) rfl rfl (dcg dc_X12_firstWord 2 rfl) hk1 ?_
  obtain ⟨h2, rfl, hf⟩ := lt_some hf
  refine p_aload_n X (dcg dc_X12_firstWord 3 rfl) rfl rfl ?_
  obtain ⟨z3, hz3, hf⟩ := bd_some hf
  refine p_callV (As := []) X ml_X12_237 (dcg dc_X12_firstWord 4 rfl) rfl rfl hk1 (wX12_finds hG hz3) (by decide) (room4 (Nat.le_of_ble_eq_true rfl)) (Nat.le_refl _) (Nat.le_refl _) ?_
  rintro _ u9 ⟨rfl, e9⟩; have e9 := e9.symm; subst e9
  refine p_aload_n X (dcg dc_X12_firstWord 5 rfl) rfl rfl ?_
  refine p_aload_n X (dcg dc_X12_firstWord 6 rfl) rfl rfl ?_
  obtain ⟨hk4, hf⟩ := gd_some hf
  refine p_getI X fl_X12_225 rfl (by decide) (dcg dc_X12_firstWord 7 rfl) hk4 ?_
  refine p_if_le (tgt := 21) X (dcg dc_X12_firstWord 8 rfl) (by decide) (fun q => ?_) (fun q => ?_)
  · have hf := if_t q hf
    refine p_iconst (v := 0) X (dcg dc_X12_firstWord 11 rfl) (by decide) ?_
    refine p_pick [0] ?_
    exact wX12_firstWord_b22 X hG hnm hf 
  · have hf := if_f q hf
    refine p_iconst (v := 1) X (dcg dc_X12_firstWord 9 rfl) (by decide) ?_
    refine p_goto (tgt := 22) X (dcg dc_X12_firstWord 10 rfl) (by decide) ?_
    refine p_pick [0] ?_
    exact wX12_firstWord_b22 X hG hnm hf 
theorem dc_X12_lastWord : decs cX12_lastWord [(0, .aload_n 0, 1), (1, .iconst 0, 1), (2, .putfield 1, 3), (5, .aload_n 0, 1), (6, .invokevirtual 237, 3), (9, .aload_n 0, 1), (10, .aload_n 0, 1), (11, .getfield 225, 3), (14, .ifCond .le 7, 3), (17, .iconst 1, 1), (18, .goto 4, 3), (21, .iconst 0, 1), (22, .iconst 1, 1), (23, .invokevirtual 156, 3), (26, .ifCond .eq 7, 3), (29, .iconst 0, 1), (30, .goto 14, 3), (33, .aload_n 0, 1), (34, .getfield 57, 3), (37, .aload_n 0, 1), (38, .getfield 225, 3), (41, .iconst 1, 1), (42, .isub, 1), (43, .iaload, 1), (44, .ireturn, 1)] = true := by decide +kernel
noncomputable def fX12_lastWord_b44 (t0 : Int32) (h : PH) : Option (Int32 × PH) :=
  some ((t0, h))
set_option maxRecDepth 100000 in
theorem mX12_lastWord_b44 {t0 : Int32} {h : PH} {r : (Int32 × PH)} (hf : fX12_lastWord_b44 t0 h = some r) : eqz h (hX r.2) (hV r.2) := by
  unfold fX12_lastWord_b44 at hf
  have hle := eqz_rf h
  have ee := Option.some.inj hf; subst ee; exact hle
set_option maxRecDepth 100000 in
theorem wX12_lastWord_b44 {E : PE} {p : Program} {l : Launch} {e : Env} {s : State} {m : MethodId} {args : Array Value} {below : List Frame} {meth : Method} {c : Code} (X : Cx E p l e (rmv 5 0 0) s m args below meth c RX12 cX12_lastWord 1 (some .int)) (hG : Gs E l) (hnm : meth.name = yX12_lastWord.name) {t0 : Int32} {h : PH} {r : (Int32 × PH)} (hf : fX12_lastWord_b44 t0 h = some r)  : PW E p l e (rmv 5 0 0) s m args below meth c 1 0 0 (MQ below (QG E (fun v u => v = some (.int r.1) ∧ u = r.2)) args s 0 0 (pA E)) h 44 [] [.int t0] := by
  unfold fX12_lastWord_b44 at hf
  have er := Option.some.inj hf
  subst er
  exact p_iret X rfl (dcg dc_X12_lastWord 24 rfl) ⟨rfl, rfl⟩ (Nat.le_refl _) (Nat.le_refl _)
noncomputable def fX12_lastWord_b22 (v0 : Nat) (t0 : Option Nat) (t1 : Int32) (h : PH) : Option (Int32 × PH) :=
  gs t0 (fun a5 =>
  gd (hK h a5 = 12) (bd (fX12_fails a5 t1 (1 : Int32) h) (fun z8 =>
  if (z8.1 = 0) then (gd (hK z8.2 v0 = 12) (gs (hR z8.2 12 v0 19) (fun a10 =>
  gd (hK z8.2 a10 = 20 ∧ inb ((hI z8.2 12 v0 20) - (1 : Int32)) (hN z8.2 a10)) (fX12_lastWord_b44 (hI z8.2 20 a10 (Int32.toNatClampNeg ((hI z8.2 12 v0 20) - (1 : Int32)))) z8.2)))) else
  fX12_lastWord_b44 (0 : Int32) z8.2)))
set_option maxRecDepth 100000 in
theorem mX12_lastWord_b22 {v0 : Nat} {t0 : Option Nat} {t1 : Int32} {h : PH} {r : (Int32 × PH)} (hf : fX12_lastWord_b22 v0 t0 t1 h = some r) : eqz h (hX r.2) (hV r.2) := by
  unfold fX12_lastWord_b22 at hf
  have hle := eqz_rf h
  obtain ⟨a5, e6, hf⟩ := gs_some hf
  obtain ⟨hk7, hf⟩ := gd_some hf
  obtain ⟨z8, hz8, hf⟩ := bd_some hf
  have hle := eqz_rt (mX12_fails hz8) hle
  rcases ite_or hf with ⟨q, hf⟩ | ⟨q, hf⟩
  · have hf := if_t q hf
    obtain ⟨hk9, hf⟩ := gd_some hf
    obtain ⟨a10, e11, hf⟩ := gs_some hf
    obtain ⟨⟨hk13, hb12⟩, hf⟩ := gd_some hf
    exact eqz_rt (mX12_lastWord_b44 hf) hle
  · have hf := if_f q hf
    exact eqz_rt (mX12_lastWord_b44 hf) hle
set_option maxRecDepth 100000 in
theorem wX12_lastWord_b22 {E : PE} {p : Program} {l : Launch} {e : Env} {s : State} {m : MethodId} {args : Array Value} {below : List Frame} {meth : Method} {c : Code} (X : Cx E p l e (rmv 5 0 0) s m args below meth c RX12 cX12_lastWord 1 (some .int)) (hG : Gs E l) (hnm : meth.name = yX12_lastWord.name) {v0 : Nat} {t0 : Option Nat} {t1 : Int32} {h : PH} {r : (Int32 × PH)} (hf : fX12_lastWord_b22 v0 t0 t1 h = some r)  : PW E p l e (rmv 5 0 0) s m args below meth c 1 0 0 (MQ below (QG E (fun v u => v = some (.int r.1) ∧ u = r.2)) args s 0 0 (pA E)) h 22 [(0, some (.ref v0))] [.int t1, va_rf t0] := by
  unfold fX12_lastWord_b22 at hf
  refine p_iconst (v := 1) X (dcg dc_X12_lastWord 12 rfl) (by decide) ?_
  obtain ⟨a5, e6, hf⟩ := gs_some hf
  first | subst e6 | (try rw [e6])
  obtain ⟨hk7, hf⟩ := gd_some hf
  obtain ⟨z8, hz8, hf⟩ := bd_some hf
  refine p_callV (As := [_, _]) X ml_X12_156 (dcg dc_X12_lastWord 13 rfl) rfl rfl hk7 (wX12_fails hG hz8) (by decide) (room4 (Nat.le_of_ble_eq_true rfl)) (Nat.le_refl _) (Nat.le_refl _) ?_
  rintro _ u9 ⟨rfl, e9⟩; have e9 := e9.symm; subst e9
  refine p_if_eq (tgt := 33) X (dcg dc_X12_lastWord 14 rfl) (by decide) (fun q => ?_) (fun q => ?_)
  · have hf := if_t q hf
    refine p_aload_n X (dcg dc_X12_lastWord 17 rfl) rfl rfl ?_
    obtain ⟨hk9, hf⟩ := gd_some hf
    refine p_getR X fl_X12_57 rfl (by decide) (dcg dc_X12_lastWord 18 rfl) hk9 ?_
    refine p_aload_n X (dcg dc_X12_lastWord 19 rfl) rfl rfl ?_
    refine p_getI X fl_X12_225 rfl (by decide) (dcg dc_X12_lastWord 20 rfl) hk9 ?_
    refine p_iconst (v := 1) X (dcg dc_X12_lastWord 21 rfl) (by decide) ?_
    refine p_isub X (dcg dc_X12_lastWord 22 rfl) ?_
    obtain ⟨a10, e11, hf⟩ := gs_some hf
    first | subst e11 | (try rw [e11])
    obtain ⟨⟨hk13, hb12⟩, hf⟩ := gd_some hf
    refine p_iald X (dcg dc_X12_lastWord 23 rfl) hk13 (vp_of_inb hb12) ?_
    refine p_pick [] ?_
    exact wX12_lastWord_b44 X hG hnm hf 
  · have hf := if_f q hf
    refine p_iconst (v := 0) X (dcg dc_X12_lastWord 15 rfl) (by decide) ?_
    refine p_goto (tgt := 44) X (dcg dc_X12_lastWord 16 rfl) (by decide) ?_
    refine p_pick [] ?_
    exact wX12_lastWord_b44 X hG hnm hf 
noncomputable def fX12_lastWord (v0 : Nat) (h : PH) : Option (Int32 × PH) :=
  gd (hK h v0 = 12) (lt (sI h 12 v0 0 (0 : Int32)) (fun h2 =>
  bd (fX12_finds v0 h2) (fun z3 =>
  gd (hK z3 v0 = 12) (if ((hI z3 12 v0 20) ≤ 0) then (fX12_lastWord_b22 v0 (some v0) (0 : Int32) z3) else
  fX12_lastWord_b22 v0 (some v0) (1 : Int32) z3))))
set_option maxRecDepth 100000 in
theorem mX12_lastWord {v0 : Nat} {h : PH} {r : (Int32 × PH)} (hf : fX12_lastWord v0 h = some r) : eqz h (hX r.2) (hV r.2) := by
  unfold fX12_lastWord at hf
  have hle := eqz_rf h
  obtain ⟨hk1, hf⟩ := gd_some hf
  obtain ⟨h2, rfl, hf⟩ := lt_some hf
  obtain ⟨z3, hz3, hf⟩ := bd_some hf
  have hle := eqz_rt (mX12_finds hz3) hle
  obtain ⟨hk4, hf⟩ := gd_some hf
  rcases ite_or hf with ⟨q, hf⟩ | ⟨q, hf⟩
  · have hf := if_t q hf
    exact eqz_rt (mX12_lastWord_b22 hf) hle
  · have hf := if_f q hf
    exact eqz_rt (mX12_lastWord_b22 hf) hle
set_option maxRecDepth 100000 in
theorem wX12_lastWord {E : PE} {l : Launch} (hG : Gs E l) {v0 : Nat} {h : PH} {r : (Int32 × PH)} (hf : fX12_lastWord v0 h = some r) : Ct E l 5 0 0 yX12_lastWord cX12_lastWord 1 (some .int) [.ref v0] h (fun v u => v = some (.int r.1) ∧ u = r.2) := by
  refine ct_of hG (by decide) (Nat.le_of_ble_eq_true rfl) ?_
  intro p e s m args below meth c X hnm
  show PW E p l e _ s m args below meth c _ 0 0 _ h 0 [(0, some (.ref v0))] []
  unfold fX12_lastWord at hf
  refine p_aload_n X (dcg dc_X12_lastWord 0 rfl) rfl rfl ?_
  refine p_iconst (v := 0) X (dcg dc_X12_lastWord 1 rfl) (by decide) ?_
  obtain ⟨hk1, hf⟩ := gd_some hf
  refine p_putI X fl_X12_1 rfl (by decide) (fun q hq => by cases hq; rfl) rfl rfl (dcg dc_X12_lastWord 2 rfl) hk1 ?_
  obtain ⟨h2, rfl, hf⟩ := lt_some hf
  refine p_aload_n X (dcg dc_X12_lastWord 3 rfl) rfl rfl ?_
  obtain ⟨z3, hz3, hf⟩ := bd_some hf
  refine p_callV (As := []) X ml_X12_237 (dcg dc_X12_lastWord 4 rfl) rfl rfl hk1 (wX12_finds hG hz3) (by decide) (room4 (Nat.le_of_ble_eq_true rfl)) (Nat.le_refl _) (Nat.le_refl _) ?_
  rintro _ u9 ⟨rfl, e9⟩; have e9 := e9.symm; subst e9
  refine p_aload_n X (dcg dc_X12_lastWord 5 rfl) rfl rfl ?_
  refine p_aload_n X (dcg dc_X12_lastWord 6 rfl) rfl rfl ?_
  obtain ⟨hk4, hf⟩ := gd_some hf
  refine p_getI X fl_X12_225 rfl (by decide) (dcg dc_X12_lastWord 7 rfl) hk4 ?_
  refine p_if_le (tgt := 21) X (dcg dc_X12_lastWord 8 rfl) (by decide) (fun q => ?_) (fun q => ?_)
  · have hf := if_t q hf
    refine p_iconst (v := 0) X (dcg dc_X12_lastWord 11 rfl) (by decide) ?_
    refine p_pick [0] ?_
    exact wX12_lastWord_b22 X hG hnm hf 
  · have hf := if_f q hf
    refine p_iconst (v := 1) X (dcg dc_X12_lastWord 9 rfl) (by decide) ?_
    refine p_goto (tgt := 22) X (dcg dc_X12_lastWord 10 rfl) (by decide) ?_
    refine p_pick [0] ?_
    exact wX12_lastWord_b22 X hG hnm hf 
theorem dc_X12_beside : decs cX12_beside [(0, .aload_n 0, 1), (1, .iconst 0, 1), (2, .putfield 1, 3), (5, .aload_n 0, 1), (6, .iload_n 1, 1), (7, .invokevirtual 240, 3), (10, .ifCond .eq 5, 3), (13, .iconst 0, 1), (14, .ireturn, 1), (15, .aload_n 0, 1), (16, .invokevirtual 237, 3), (19, .iconst (-1), 1), (20, .istore_n 3, 1), (21, .iconst 0, 1), (22, .istore 4, 2), (24, .iload 4, 2), (26, .aload_n 0, 1), (27, .getfield 225, 3), (30, .if_icmp .ge 61, 3), (33, .iload_n 2, 1), (34, .ifCond .eq 25, 3), (37, .iload_n 1, 1), (38, .aload_n 0, 1), (39, .getfield 57, 3), (42, .iload 4, 2), (44, .iaload, 1), (45, .invokestatic 228, 3), (48, .ifCond .eq 11, 3), (51, .aload_n 0, 1), (52, .getfield 57, 3), (55, .iload 4, 2), (57, .iaload, 1), (58, .ireturn, 1), (59, .iload_n 2, 1), (60, .ifCond .ne 25, 3), (63, .aload_n 0, 1), (64, .getfield 57, 3), (67, .iload 4, 2), (69, .iaload, 1), (70, .iload_n 1, 1), (71, .invokestatic 228, 3), (74, .ifCond .eq 11, 3), (77, .aload_n 0, 1), (78, .getfield 57, 3), (81, .iload 4, 2), (83, .iaload, 1), (84, .istore_n 3, 1), (85, .iinc 4 1, 3), (88, .goto (-64), 3), (91, .iload_n 3, 1), (92, .ireturn, 1)] = true := by decide +kernel
noncomputable def fX12_beside_b85 (v0 : Nat) (v1 : Int32) (v2 : Int32) (v3 : Int32) (v4 : Int32) (h : PH) : Option ((Int32 × Int32) ⊕ (Int32 × PH)) :=
  some (.inl (v3, (v4 + 1)))
set_option maxRecDepth 100000 in
theorem mX12_beside_b85 {v0 : Nat} {v1 : Int32} {v2 : Int32} {v3 : Int32} {v4 : Int32} {h : PH} {x : ((Int32 × Int32) ⊕ (Int32 × PH))} (hf : fX12_beside_b85 v0 v1 v2 v3 v4 h = some x) : (∀ w9 : (Int32 × PH), x = .inr w9 → eqz h (hX w9.2) (hV w9.2)) := by
  unfold fX12_beside_b85 at hf
  have hle := eqz_rf h
  have ee := Option.some.inj hf; subst ee
  exact (fun z e => nomatch e)
set_option maxRecDepth 100000 in
theorem wX12_beside_b85 {E : PE} {p : Program} {l : Launch} {e : Env} {s : State} {m : MethodId} {args : Array Value} {below : List Frame} {meth : Method} {c : Code} (X : Cx E p l e (rmv 5 0 0) s m args below meth c RX12 cX12_beside 5 (some .int)) (hG : Gs E l) (hnm : meth.name = yX12_beside.name) {v0 : Nat} {v1 : Int32} {v2 : Int32} {v3 : Int32} {v4 : Int32} {h : PH} {r : (Int32 × PH)} {x : ((Int32 × Int32) ⊕ (Int32 × PH))} (hf : fX12_beside_b85 v0 v1 v2 v3 v4 h = some x) (k0 : ∀ z : (Int32 × Int32), x = .inl z → PW E p l e (rmv 5 0 0) s m args below meth c 5 0 0 (MQ below (QG E (fun v u => v = some (.int r.1) ∧ u = r.2)) args s 0 0 (pA E)) h 24 [(0, some (.ref v0)), (1, some (.int v1)), (2, some (.int v2)), (3, some (.int (z.1))), (4, some (.int (z.2)))] []) (kf : ∀ z : (Int32 × PH), x = .inr z → z = r) : PW E p l e (rmv 5 0 0) s m args below meth c 5 0 0 (MQ below (QG E (fun v u => v = some (.int r.1) ∧ u = r.2)) args s 0 0 (pA E)) h 85 [(0, some (.ref v0)), (1, some (.int v1)), (2, some (.int v2)), (3, some (.int v3)), (4, some (.int v4))] [] := by
  unfold fX12_beside_b85 at hf
  refine p_iinc (v := 1) X (dcg dc_X12_beside 47 rfl) rfl (by decide) (by decide) rfl ?_
  refine p_goto (tgt := 24) X (dcg dc_X12_beside 48 rfl) (by decide) ?_
  refine p_pick [0, 1, 2, 3, 4] ?_
  exact k0 _ (Option.some.inj hf).symm
noncomputable def fX12_beside_b59 (v0 : Nat) (v1 : Int32) (v2 : Int32) (v3 : Int32) (v4 : Int32) (h : PH) : Option ((Int32 × Int32) ⊕ (Int32 × PH)) :=
  if (¬ v2 = 0) then (fX12_beside_b85 v0 v1 v2 v3 v4 h) else
  gd (hK h v0 = 12) (gs (hR h 12 v0 19) (fun a10 =>
  gd (hK h a10 = 20 ∧ inb v4 (hN h a10)) (bd (fX12_isAhead (hI h 20 a10 (Int32.toNatClampNeg v4)) v1) (fun z14 =>
  if (z14 = 0) then (fX12_beside_b85 v0 v1 v2 v3 v4 h) else
  gs (hR h 12 v0 19) (fun a15 =>
  gd (hK h a15 = 20 ∧ inb v4 (hN h a15)) (fX12_beside_b85 v0 v1 v2 (hI h 20 a15 (Int32.toNatClampNeg v4)) v4 h))))))
set_option maxRecDepth 100000 in
theorem mX12_beside_b59 {v0 : Nat} {v1 : Int32} {v2 : Int32} {v3 : Int32} {v4 : Int32} {h : PH} {x : ((Int32 × Int32) ⊕ (Int32 × PH))} (hf : fX12_beside_b59 v0 v1 v2 v3 v4 h = some x) : (∀ w9 : (Int32 × PH), x = .inr w9 → eqz h (hX w9.2) (hV w9.2)) := by
  unfold fX12_beside_b59 at hf
  have hle := eqz_rf h
  rcases ite_or hf with ⟨q, hf⟩ | ⟨q, hf⟩
  · have hf := if_t q hf
    obtain cf := mX12_beside_b85 hf
    exact fun z e => eqz_rt (cf z (e)) hle
  · have hf := if_f q hf
    obtain ⟨hk9, hf⟩ := gd_some hf
    obtain ⟨a10, e11, hf⟩ := gs_some hf
    obtain ⟨⟨hk13, hb12⟩, hf⟩ := gd_some hf
    obtain ⟨z14, hz14, hf⟩ := bd_some hf
    rcases ite_or hf with ⟨q, hf⟩ | ⟨q, hf⟩
    · have hf := if_t q hf
      obtain cf := mX12_beside_b85 hf
      exact fun z e => eqz_rt (cf z (e)) hle
    · have hf := if_f q hf
      obtain ⟨a15, e16, hf⟩ := gs_some hf
      obtain ⟨⟨hk18, hb17⟩, hf⟩ := gd_some hf
      obtain cf := mX12_beside_b85 hf
      exact fun z e => eqz_rt (cf z (e)) hle
set_option maxRecDepth 100000 in
theorem wX12_beside_b59 {E : PE} {p : Program} {l : Launch} {e : Env} {s : State} {m : MethodId} {args : Array Value} {below : List Frame} {meth : Method} {c : Code} (X : Cx E p l e (rmv 5 0 0) s m args below meth c RX12 cX12_beside 5 (some .int)) (hG : Gs E l) (hnm : meth.name = yX12_beside.name) {v0 : Nat} {v1 : Int32} {v2 : Int32} {v3 : Int32} {v4 : Int32} {h : PH} {r : (Int32 × PH)} {x : ((Int32 × Int32) ⊕ (Int32 × PH))} (hf : fX12_beside_b59 v0 v1 v2 v3 v4 h = some x) (k0 : ∀ z : (Int32 × Int32), x = .inl z → PW E p l e (rmv 5 0 0) s m args below meth c 5 0 0 (MQ below (QG E (fun v u => v = some (.int r.1) ∧ u = r.2)) args s 0 0 (pA E)) h 24 [(0, some (.ref v0)), (1, some (.int v1)), (2, some (.int v2)), (3, some (.int (z.1))), (4, some (.int (z.2)))] []) (kf : ∀ z : (Int32 × PH), x = .inr z → z = r) : PW E p l e (rmv 5 0 0) s m args below meth c 5 0 0 (MQ below (QG E (fun v u => v = some (.int r.1) ∧ u = r.2)) args s 0 0 (pA E)) h 59 [(0, some (.ref v0)), (1, some (.int v1)), (2, some (.int v2)), (3, some (.int v3)), (4, some (.int v4))] [] := by
  unfold fX12_beside_b59 at hf
  refine p_iload_n X (dcg dc_X12_beside 33 rfl) rfl rfl ?_
  refine p_if_ne (tgt := 85) X (dcg dc_X12_beside 34 rfl) (by decide) (fun q => ?_) (fun q => ?_)
  · have hf := if_t q hf
    refine p_pick [0, 1, 2, 3, 4] ?_
    exact wX12_beside_b85 X hG hnm hf k0 kf
  · have hf := if_f q hf
    refine p_aload_n X (dcg dc_X12_beside 35 rfl) rfl rfl ?_
    obtain ⟨hk9, hf⟩ := gd_some hf
    refine p_getR X fl_X12_57 rfl (by decide) (dcg dc_X12_beside 36 rfl) hk9 ?_
    refine p_iload X (dcg dc_X12_beside 37 rfl) rfl ?_
    obtain ⟨a10, e11, hf⟩ := gs_some hf
    first | subst e11 | (try rw [e11])
    obtain ⟨⟨hk13, hb12⟩, hf⟩ := gd_some hf
    refine p_iald X (dcg dc_X12_beside 38 rfl) hk13 (vp_of_inb hb12) ?_
    refine p_iload_n X (dcg dc_X12_beside 39 rfl) rfl rfl ?_
    obtain ⟨z14, hz14, hf⟩ := bd_some hf
    refine p_callS (As := [_, _]) X ml_X12_228 (dcg dc_X12_beside 40 rfl) rfl rfl  (wX12_isAhead hG hz14) (by decide) (room4 (Nat.le_of_ble_eq_true rfl)) (Nat.le_refl _) (Nat.le_refl _) ?_
    rintro _ u9 ⟨rfl, e9⟩; have e9 := e9.symm; subst e9
    refine p_if_eq (tgt := 85) X (dcg dc_X12_beside 41 rfl) (by decide) (fun q => ?_) (fun q => ?_)
    · have hf := if_t q hf
      refine p_pick [0, 1, 2, 3, 4] ?_
      exact wX12_beside_b85 X hG hnm hf k0 kf
    · have hf := if_f q hf
      refine p_aload_n X (dcg dc_X12_beside 42 rfl) rfl rfl ?_
      refine p_getR X fl_X12_57 rfl (by decide) (dcg dc_X12_beside 43 rfl) hk9 ?_
      refine p_iload X (dcg dc_X12_beside 44 rfl) rfl ?_
      obtain ⟨a15, e16, hf⟩ := gs_some hf
      first | subst e16 | (try rw [e16])
      obtain ⟨⟨hk18, hb17⟩, hf⟩ := gd_some hf
      refine p_iald X (dcg dc_X12_beside 45 rfl) hk18 (vp_of_inb hb17) ?_
      refine p_istore_n X (dcg dc_X12_beside 46 rfl) rfl (by decide) rfl ?_
      refine p_pick [0, 1, 2, 3, 4] ?_
      exact wX12_beside_b85 X hG hnm hf k0 kf
noncomputable def fX12_beside_c24 (v0 : Nat) (v1 : Int32) (v2 : Int32) (v3 : Int32) (v4 : Int32) (h : PH) : Option ((Int32 × Int32) ⊕ (Int32 × PH)) :=
  gd (hK h v0 = 12) (if ((hI h 12 v0 20) ≤ v4) then (mr (some ((v3, h)))) else
  if (v2 = 0) then (fX12_beside_b59 v0 v1 v2 v3 v4 h) else
  gs (hR h 12 v0 19) (fun a19 =>
  gd (hK h a19 = 20 ∧ inb v4 (hN h a19)) (bd (fX12_isAhead v1 (hI h 20 a19 (Int32.toNatClampNeg v4))) (fun z23 =>
  if (z23 = 0) then (fX12_beside_b59 v0 v1 v2 v3 v4 h) else
  mr (gs (hR h 12 v0 19) (fun a26 =>
  gd (hK h a26 = 20 ∧ inb v4 (hN h a26)) (some (((hI h 20 a26 (Int32.toNatClampNeg v4)), h)))))))))
set_option maxRecDepth 100000 in
theorem mX12_beside_c24 {v0 : Nat} {v1 : Int32} {v2 : Int32} {v3 : Int32} {v4 : Int32} {h : PH} {x : ((Int32 × Int32) ⊕ (Int32 × PH))} (hf : fX12_beside_c24 v0 v1 v2 v3 v4 h = some x) : (∀ w9 : (Int32 × PH), x = .inr w9 → eqz h (hX w9.2) (hV w9.2)) := by
  unfold fX12_beside_c24 at hf
  have hle := eqz_rf h
  obtain ⟨hk6, hf⟩ := gd_some hf
  rcases ite_or hf with ⟨q, hf⟩ | ⟨q, hf⟩
  · have hf := if_t q hf
    obtain ⟨y7, hfm, rfl⟩ := mr_some hf; have hf := hfm; clear hfm
    have ee := Option.some.inj hf; subst ee
    exact (fun z e => by have ee := Sum.inr.inj (e); subst ee; exact hle)
  · have hf := if_f q hf
    rcases ite_or hf with ⟨q, hf⟩ | ⟨q, hf⟩
    · have hf := if_t q hf
      obtain cf := mX12_beside_b59 hf
      exact fun z e => eqz_rt (cf z (e)) hle
    · have hf := if_f q hf
      obtain ⟨a19, e20, hf⟩ := gs_some hf
      obtain ⟨⟨hk22, hb21⟩, hf⟩ := gd_some hf
      obtain ⟨z23, hz23, hf⟩ := bd_some hf
      rcases ite_or hf with ⟨q, hf⟩ | ⟨q, hf⟩
      · have hf := if_t q hf
        obtain cf := mX12_beside_b59 hf
        exact fun z e => eqz_rt (cf z (e)) hle
      · have hf := if_f q hf
        obtain ⟨y24, hfm, rfl⟩ := mr_some hf; have hf := hfm; clear hfm
        obtain ⟨a26, e27, hf⟩ := gs_some hf
        obtain ⟨⟨hk29, hb28⟩, hf⟩ := gd_some hf
        have ee := Option.some.inj hf; subst ee
        exact (fun z e => by have ee := Sum.inr.inj (e); subst ee; exact hle)
set_option maxRecDepth 100000 in
theorem wX12_beside_c24 {E : PE} {p : Program} {l : Launch} {e : Env} {s : State} {m : MethodId} {args : Array Value} {below : List Frame} {meth : Method} {c : Code} (X : Cx E p l e (rmv 5 0 0) s m args below meth c RX12 cX12_beside 5 (some .int)) (hG : Gs E l) (hnm : meth.name = yX12_beside.name) {v0 : Nat} {v1 : Int32} {v2 : Int32} {v3 : Int32} {v4 : Int32} {h : PH} {r : (Int32 × PH)} {x : ((Int32 × Int32) ⊕ (Int32 × PH))} (hf : fX12_beside_c24 v0 v1 v2 v3 v4 h = some x) (k0 : ∀ z : (Int32 × Int32), x = .inl z → PW E p l e (rmv 5 0 0) s m args below meth c 5 0 0 (MQ below (QG E (fun v u => v = some (.int r.1) ∧ u = r.2)) args s 0 0 (pA E)) h 24 [(0, some (.ref v0)), (1, some (.int v1)), (2, some (.int v2)), (3, some (.int (z.1))), (4, some (.int (z.2)))] []) (kf : ∀ z : (Int32 × PH), x = .inr z → z = r) : PW E p l e (rmv 5 0 0) s m args below meth c 5 0 0 (MQ below (QG E (fun v u => v = some (.int r.1) ∧ u = r.2)) args s 0 0 (pA E)) h 24 [(0, some (.ref v0)), (1, some (.int v1)), (2, some (.int v2)), (3, some (.int v3)), (4, some (.int v4))] [] := by
  unfold fX12_beside_c24 at hf
  refine p_iload X (dcg dc_X12_beside 15 rfl) rfl ?_
  refine p_aload_n X (dcg dc_X12_beside 16 rfl) rfl rfl ?_
  obtain ⟨hk6, hf⟩ := gd_some hf
  refine p_getI X fl_X12_225 rfl (by decide) (dcg dc_X12_beside 17 rfl) hk6 ?_
  refine p_icmp_ge (tgt := 91) X (dcg dc_X12_beside 18 rfl) (by decide) (fun q => ?_) (fun q => ?_)
  · have hf := if_t q hf
    obtain ⟨y7, hf, hy8⟩ := mr_some hf
    have hy8f := kf y7 hy8
    subst hy8f
    refine p_iload_n X (dcg dc_X12_beside 49 rfl) rfl rfl ?_
    have er := Option.some.inj hf
    subst er
    exact p_iret X rfl (dcg dc_X12_beside 50 rfl) ⟨rfl, rfl⟩ (Nat.le_refl _) (Nat.le_refl _)
  · have hf := if_f q hf
    refine p_iload_n X (dcg dc_X12_beside 19 rfl) rfl rfl ?_
    refine p_if_eq (tgt := 59) X (dcg dc_X12_beside 20 rfl) (by decide) (fun q => ?_) (fun q => ?_)
    · have hf := if_t q hf
      refine p_pick [0, 1, 2, 3, 4] ?_
      exact wX12_beside_b59 X hG hnm hf k0 kf
    · have hf := if_f q hf
      refine p_iload_n X (dcg dc_X12_beside 21 rfl) rfl rfl ?_
      refine p_aload_n X (dcg dc_X12_beside 22 rfl) rfl rfl ?_
      refine p_getR X fl_X12_57 rfl (by decide) (dcg dc_X12_beside 23 rfl) hk6 ?_
      refine p_iload X (dcg dc_X12_beside 24 rfl) rfl ?_
      obtain ⟨a19, e20, hf⟩ := gs_some hf
      first | subst e20 | (try rw [e20])
      obtain ⟨⟨hk22, hb21⟩, hf⟩ := gd_some hf
      refine p_iald X (dcg dc_X12_beside 25 rfl) hk22 (vp_of_inb hb21) ?_
      obtain ⟨z23, hz23, hf⟩ := bd_some hf
      refine p_callS (As := [_, _]) X ml_X12_228 (dcg dc_X12_beside 26 rfl) rfl rfl  (wX12_isAhead hG hz23) (by decide) (room4 (Nat.le_of_ble_eq_true rfl)) (Nat.le_refl _) (Nat.le_refl _) ?_
      rintro _ u9 ⟨rfl, e9⟩; have e9 := e9.symm; subst e9
      refine p_if_eq (tgt := 59) X (dcg dc_X12_beside 27 rfl) (by decide) (fun q => ?_) (fun q => ?_)
      · have hf := if_t q hf
        refine p_pick [0, 1, 2, 3, 4] ?_
        exact wX12_beside_b59 X hG hnm hf k0 kf
      · have hf := if_f q hf
        obtain ⟨y24, hf, hy25⟩ := mr_some hf
        have hy25f := kf y24 hy25
        subst hy25f
        refine p_aload_n X (dcg dc_X12_beside 28 rfl) rfl rfl ?_
        refine p_getR X fl_X12_57 rfl (by decide) (dcg dc_X12_beside 29 rfl) hk6 ?_
        refine p_iload X (dcg dc_X12_beside 30 rfl) rfl ?_
        obtain ⟨a26, e27, hf⟩ := gs_some hf
        first | subst e27 | (try rw [e27])
        obtain ⟨⟨hk29, hb28⟩, hf⟩ := gd_some hf
        refine p_iald X (dcg dc_X12_beside 31 rfl) hk29 (vp_of_inb hb28) ?_
        have er := Option.some.inj hf
        subst er
        exact p_iret X rfl (dcg dc_X12_beside 32 rfl) ⟨rfl, rfl⟩ (Nat.le_refl _) (Nat.le_refl _)
noncomputable def fX12_beside_l24 (v0 : Nat) (v1 : Int32) (v2 : Int32) (v3 : Int32) (v4 : Int32) (h : PH) : Option (Int32 × PH) := wh (fun z : (Int32 × Int32) => fX12_beside_c24 v0 v1 v2 (z.1) (z.2) h) (v3, v4)
set_option maxRecDepth 100000 in
theorem mX12_beside_l24 {v0 : Nat} {v1 : Int32} {v2 : Int32} {v3 : Int32} {v4 : Int32} {h : PH} {r : (Int32 × PH)} (hf : fX12_beside_l24 v0 v1 v2 v3 v4 h = some r) : eqz h (hX r.2) (hV r.2) := by
  unfold fX12_beside_l24 at hf
  refine wh_ind (P := fun z => eqz h (hX r.2) (hV r.2)) (fun z x0 hs i1 i2 => ?_) _ hf
  obtain cf := mX12_beside_c24 (v0 := v0) (v1 := v1) (v2 := v2) (v3 := z.1) (v4 := z.2) (h := h) hs
  rcases hxx : x0 with zz | zz
  · exact (i1 zz hxx)
  · have ee := i2 zz hxx; subst ee; exact cf zz hxx
set_option maxRecDepth 100000 in
theorem wX12_beside_l24 {E : PE} {p : Program} {l : Launch} {e : Env} {s : State} {m : MethodId} {args : Array Value} {below : List Frame} {meth : Method} {c : Code} (X : Cx E p l e (rmv 5 0 0) s m args below meth c RX12 cX12_beside 5 (some .int)) (hG : Gs E l) (hnm : meth.name = yX12_beside.name) {v0 : Nat} {v1 : Int32} {v2 : Int32} {v3 : Int32} {v4 : Int32} {h : PH} {r : (Int32 × PH)} (hf : fX12_beside_l24 v0 v1 v2 v3 v4 h = some r)  : PW E p l e (rmv 5 0 0) s m args below meth c 5 0 0 (MQ below (QG E (fun v u => v = some (.int r.1) ∧ u = r.2)) args s 0 0 (pA E)) h 24 [(0, some (.ref v0)), (1, some (.int v1)), (2, some (.int v2)), (3, some (.int v3)), (4, some (.int v4))] [] := by
  unfold fX12_beside_l24 at hf
  refine wh_ind (P := fun z => PW E p l e (rmv 5 0 0) s m args below meth c 5 0 0 (MQ below (QG E (fun v u => v = some (.int r.1) ∧ u = r.2)) args s 0 0 (pA E)) h 24 [(0, some (.ref v0)), (1, some (.int v1)), (2, some (.int v2)), (3, some (.int (z.1))), (4, some (.int (z.2)))] []) (fun z x0 hs i1 i2 => ?_) _ hf
  exact wX12_beside_c24 (r := r) (v0 := v0) (v1 := v1) (v2 := v2) (v3 := z.1) (v4 := z.2) (h := h) X hG hnm hs i1  i2
noncomputable def fX12_beside (v0 : Nat) (v1 : Int32) (v2 : Int32) (h : PH) : Option (Int32 × PH) :=
  gd (hK h v0 = 12) (lt (sI h 12 v0 0 (0 : Int32)) (fun h2 =>
  bd (fX12_noWord v0 v1 h2) (fun z3 =>
  if (z3.1 = 0) then (gd (hK z3.2 v0 = 12) (bd (fX12_finds v0 z3.2) (fun z5 =>
  fX12_beside_l24 v0 v1 v2 (-1 : Int32) (0 : Int32) z5))) else
  some (((0 : Int32), z3.2)))))
set_option maxRecDepth 100000 in
theorem mX12_beside {v0 : Nat} {v1 : Int32} {v2 : Int32} {h : PH} {r : (Int32 × PH)} (hf : fX12_beside v0 v1 v2 h = some r) : eqz h (hX r.2) (hV r.2) := by
  unfold fX12_beside at hf
  have hle := eqz_rf h
  obtain ⟨hk1, hf⟩ := gd_some hf
  obtain ⟨h2, rfl, hf⟩ := lt_some hf
  obtain ⟨z3, hz3, hf⟩ := bd_some hf
  have hle := eqz_rt (mX12_noWord hz3) hle
  rcases ite_or hf with ⟨q, hf⟩ | ⟨q, hf⟩
  · have hf := if_t q hf
    obtain ⟨hk4, hf⟩ := gd_some hf
    obtain ⟨z5, hz5, hf⟩ := bd_some hf
    have hle := eqz_rt (mX12_finds hz5) hle
    exact eqz_rt (mX12_beside_l24 hf) hle
  · have hf := if_f q hf
    have ee := Option.some.inj hf; subst ee; exact hle
set_option maxRecDepth 100000 in
theorem wX12_beside {E : PE} {l : Launch} (hG : Gs E l) {v0 : Nat} {v1 : Int32} {v2 : Int32} {h : PH} {r : (Int32 × PH)} (hf : fX12_beside v0 v1 v2 h = some r) : Ct E l 5 0 0 yX12_beside cX12_beside 5 (some .int) [.ref v0, .int v1, .int v2] h (fun v u => v = some (.int r.1) ∧ u = r.2) := by
  refine ct_of hG (by decide) (Nat.le_of_ble_eq_true rfl) ?_
  intro p e s m args below meth c X hnm
  show PW E p l e _ s m args below meth c _ 0 0 _ h 0 [(0, some (.ref v0)), (1, some (.int v1)), (2, some (.int v2))] []
  unfold fX12_beside at hf
  refine p_aload_n X (dcg dc_X12_beside 0 rfl) rfl rfl ?_
  refine p_iconst (v := 0) X (dcg dc_X12_beside 1 rfl) (by decide) ?_
  obtain ⟨hk1, hf⟩ := gd_some hf
  refine p_putI X fl_X12_1 rfl (by decide) (fun q hq => by cases hq; rfl) rfl rfl (dcg dc_X12_beside 2 rfl) hk1 ?_
  obtain ⟨h2, rfl, hf⟩ := lt_some hf
  refine p_aload_n X (dcg dc_X12_beside 3 rfl) rfl rfl ?_
  refine p_iload_n X (dcg dc_X12_beside 4 rfl) rfl rfl ?_
  obtain ⟨z3, hz3, hf⟩ := bd_some hf
  refine p_callV (As := [_]) X ml_X12_240 (dcg dc_X12_beside 5 rfl) rfl rfl hk1 (wX12_noWord hG hz3) (by decide) (room4 (Nat.le_of_ble_eq_true rfl)) (Nat.le_refl _) (Nat.le_refl _) ?_
  rintro _ u9 ⟨rfl, e9⟩; have e9 := e9.symm; subst e9
  refine p_if_eq (tgt := 15) X (dcg dc_X12_beside 6 rfl) (by decide) (fun q => ?_) (fun q => ?_)
  · have hf := if_t q hf
    refine p_aload_n X (dcg dc_X12_beside 9 rfl) rfl rfl ?_
    obtain ⟨hk4, hf⟩ := gd_some hf
    obtain ⟨z5, hz5, hf⟩ := bd_some hf
    refine p_callV (As := []) X ml_X12_237 (dcg dc_X12_beside 10 rfl) rfl rfl hk4 (wX12_finds hG hz5) (by decide) (room4 (Nat.le_of_ble_eq_true rfl)) (Nat.le_refl _) (Nat.le_refl _) ?_
    rintro _ u9 ⟨rfl, e9⟩; have e9 := e9.symm; subst e9
    refine p_iconst (v := -1) X (dcg dc_X12_beside 11 rfl) (by decide) ?_
    refine p_istore_n X (dcg dc_X12_beside 12 rfl) rfl (by decide) rfl ?_
    refine p_iconst (v := 0) X (dcg dc_X12_beside 13 rfl) (by decide) ?_
    refine p_istore X (dcg dc_X12_beside 14 rfl) (by decide) rfl ?_
    refine p_pick [0, 1, 2, 3, 4] ?_
    exact wX12_beside_l24 X hG hnm hf 
  · have hf := if_f q hf
    refine p_iconst (v := 0) X (dcg dc_X12_beside 7 rfl) (by decide) ?_
    have er := Option.some.inj hf
    subst er
    exact p_iret X rfl (dcg dc_X12_beside 8 rfl) ⟨rfl, rfl⟩ (Nat.le_refl _) (Nat.le_refl _)
theorem dc_X12_between : decs cX12_between [(0, .aload_n 0, 1), (1, .iconst 0, 1), (2, .putfield 1, 3), (5, .aload_n 0, 1), (6, .iload_n 1, 1), (7, .invokevirtual 240, 3), (10, .ifCond .ne 32, 3), (13, .aload_n 0, 1), (14, .iload_n 2, 1), (15, .invokevirtual 240, 3), (18, .ifCond .ne 24, 3), (21, .aload_n 0, 1), (22, .iload_n 2, 1), (23, .iload_n 1, 1), (24, .invokestatic 228, 3), (27, .ifCond .ne 7, 3), (30, .iconst 1, 1), (31, .goto 4, 3), (34, .iconst 0, 1), (35, .iconst 1, 1), (36, .invokevirtual 156, 3), (39, .ifCond .eq 5, 3), (42, .iconst 0, 1), (43, .ireturn, 1), (44, .aload_n 0, 1), (45, .invokevirtual 237, 3), (48, .iconst 0, 1), (49, .istore_n 3, 1), (50, .iconst 0, 1), (51, .istore 4, 2), (53, .iload 4, 2), (55, .aload_n 0, 1), (56, .getfield 225, 3), (59, .if_icmp .ge 45, 3), (62, .iload_n 3, 1), (63, .aload_n 0, 1), (64, .getfield 57, 3), (67, .iload 4, 2), (69, .iaload, 1), (70, .iload_n 1, 1), (71, .invokestatic 228, 3), (74, .ifCond .ne 21, 3), (77, .aload_n 0, 1), (78, .getfield 57, 3), (81, .iload 4, 2), (83, .iaload, 1), (84, .iload_n 2, 1), (85, .invokestatic 228, 3), (88, .ifCond .eq 7, 3), (91, .iconst 1, 1), (92, .goto 4, 3), (95, .iconst 0, 1), (96, .iadd, 1), (97, .istore_n 3, 1), (98, .iinc 4 1, 3), (101, .goto (-48), 3), (104, .iload_n 3, 1), (105, .ireturn, 1)] = true := by decide +kernel
noncomputable def fX12_between_b42  (h : PH) : Option (Int32 × PH) :=
  some (((0 : Int32), h))
set_option maxRecDepth 100000 in
theorem mX12_between_b42  {h : PH} {r : (Int32 × PH)} (hf : fX12_between_b42  h = some r) : eqz h (hX r.2) (hV r.2) := by
  unfold fX12_between_b42 at hf
  have hle := eqz_rf h
  have ee := Option.some.inj hf; subst ee; exact hle
set_option maxRecDepth 100000 in
theorem wX12_between_b42 {E : PE} {p : Program} {l : Launch} {e : Env} {s : State} {m : MethodId} {args : Array Value} {below : List Frame} {meth : Method} {c : Code} (X : Cx E p l e (rmv 5 0 0) s m args below meth c RX12 cX12_between 5 (some .int)) (hG : Gs E l) (hnm : meth.name = yX12_between.name)  {h : PH} {r : (Int32 × PH)} (hf : fX12_between_b42  h = some r)  : PW E p l e (rmv 5 0 0) s m args below meth c 5 0 0 (MQ below (QG E (fun v u => v = some (.int r.1) ∧ u = r.2)) args s 0 0 (pA E)) h 42 [] [] := by
  unfold fX12_between_b42 at hf
  refine p_iconst (v := 0) X (dcg dc_X12_between 22 rfl) (by decide) ?_
  have er := Option.some.inj hf
  subst er
  exact p_iret X rfl (dcg dc_X12_between 23 rfl) ⟨rfl, rfl⟩ (Nat.le_refl _) (Nat.le_refl _)
noncomputable def fX12_between_b96 (v0 : Nat) (v1 : Int32) (v2 : Int32) (v4 : Int32) (t0 : Int32) (t1 : Int32) (h : PH) : Option ((Int32 × Int32) ⊕ (Int32 × PH)) :=
  some (.inl ((t0 + t1), (v4 + 1)))
set_option maxRecDepth 100000 in
theorem mX12_between_b96 {v0 : Nat} {v1 : Int32} {v2 : Int32} {v4 : Int32} {t0 : Int32} {t1 : Int32} {h : PH} {x : ((Int32 × Int32) ⊕ (Int32 × PH))} (hf : fX12_between_b96 v0 v1 v2 v4 t0 t1 h = some x) : (∀ w9 : (Int32 × PH), x = .inr w9 → eqz h (hX w9.2) (hV w9.2)) := by
  unfold fX12_between_b96 at hf
  have hle := eqz_rf h
  have ee := Option.some.inj hf; subst ee
  exact (fun z e => nomatch e)
set_option maxRecDepth 100000 in
theorem wX12_between_b96 {E : PE} {p : Program} {l : Launch} {e : Env} {s : State} {m : MethodId} {args : Array Value} {below : List Frame} {meth : Method} {c : Code} (X : Cx E p l e (rmv 5 0 0) s m args below meth c RX12 cX12_between 5 (some .int)) (hG : Gs E l) (hnm : meth.name = yX12_between.name) {v0 : Nat} {v1 : Int32} {v2 : Int32} {v4 : Int32} {t0 : Int32} {t1 : Int32} {h : PH} {r : (Int32 × PH)} {x : ((Int32 × Int32) ⊕ (Int32 × PH))} (hf : fX12_between_b96 v0 v1 v2 v4 t0 t1 h = some x) (k0 : ∀ z : (Int32 × Int32), x = .inl z → PW E p l e (rmv 5 0 0) s m args below meth c 5 0 0 (MQ below (QG E (fun v u => v = some (.int r.1) ∧ u = r.2)) args s 0 0 (pA E)) h 53 [(0, some (.ref v0)), (1, some (.int v1)), (2, some (.int v2)), (3, some (.int (z.1))), (4, some (.int (z.2)))] []) (kf : ∀ z : (Int32 × PH), x = .inr z → z = r) : PW E p l e (rmv 5 0 0) s m args below meth c 5 0 0 (MQ below (QG E (fun v u => v = some (.int r.1) ∧ u = r.2)) args s 0 0 (pA E)) h 96 [(0, some (.ref v0)), (1, some (.int v1)), (2, some (.int v2)), (4, some (.int v4))] [.int t1, .int t0] := by
  unfold fX12_between_b96 at hf
  refine p_iadd X (dcg dc_X12_between 52 rfl) ?_
  refine p_istore_n X (dcg dc_X12_between 53 rfl) rfl (by decide) rfl ?_
  refine p_iinc (v := 1) X (dcg dc_X12_between 54 rfl) rfl (by decide) (by decide) rfl ?_
  refine p_goto (tgt := 53) X (dcg dc_X12_between 55 rfl) (by decide) ?_
  refine p_pick [0, 1, 2, 3, 4] ?_
  exact k0 _ (Option.some.inj hf).symm
noncomputable def fX12_between_b95 (v0 : Nat) (v1 : Int32) (v2 : Int32) (v4 : Int32) (t0 : Int32) (h : PH) : Option ((Int32 × Int32) ⊕ (Int32 × PH)) :=
  fX12_between_b96 v0 v1 v2 v4 t0 (0 : Int32) h
set_option maxRecDepth 100000 in
theorem mX12_between_b95 {v0 : Nat} {v1 : Int32} {v2 : Int32} {v4 : Int32} {t0 : Int32} {h : PH} {x : ((Int32 × Int32) ⊕ (Int32 × PH))} (hf : fX12_between_b95 v0 v1 v2 v4 t0 h = some x) : (∀ w9 : (Int32 × PH), x = .inr w9 → eqz h (hX w9.2) (hV w9.2)) := by
  unfold fX12_between_b95 at hf
  have hle := eqz_rf h
  obtain cf := mX12_between_b96 hf
  exact fun z e => eqz_rt (cf z (e)) hle
set_option maxRecDepth 100000 in
theorem wX12_between_b95 {E : PE} {p : Program} {l : Launch} {e : Env} {s : State} {m : MethodId} {args : Array Value} {below : List Frame} {meth : Method} {c : Code} (X : Cx E p l e (rmv 5 0 0) s m args below meth c RX12 cX12_between 5 (some .int)) (hG : Gs E l) (hnm : meth.name = yX12_between.name) {v0 : Nat} {v1 : Int32} {v2 : Int32} {v4 : Int32} {t0 : Int32} {h : PH} {r : (Int32 × PH)} {x : ((Int32 × Int32) ⊕ (Int32 × PH))} (hf : fX12_between_b95 v0 v1 v2 v4 t0 h = some x) (k0 : ∀ z : (Int32 × Int32), x = .inl z → PW E p l e (rmv 5 0 0) s m args below meth c 5 0 0 (MQ below (QG E (fun v u => v = some (.int r.1) ∧ u = r.2)) args s 0 0 (pA E)) h 53 [(0, some (.ref v0)), (1, some (.int v1)), (2, some (.int v2)), (3, some (.int (z.1))), (4, some (.int (z.2)))] []) (kf : ∀ z : (Int32 × PH), x = .inr z → z = r) : PW E p l e (rmv 5 0 0) s m args below meth c 5 0 0 (MQ below (QG E (fun v u => v = some (.int r.1) ∧ u = r.2)) args s 0 0 (pA E)) h 95 [(0, some (.ref v0)), (1, some (.int v1)), (2, some (.int v2)), (4, some (.int v4))] [.int t0] := by
  unfold fX12_between_b95 at hf
  refine p_iconst (v := 0) X (dcg dc_X12_between 51 rfl) (by decide) ?_
  refine p_pick [0, 1, 2, 4] ?_
  exact wX12_between_b96 X hG hnm hf k0 kf
noncomputable def fX12_between_c53 (v0 : Nat) (v1 : Int32) (v2 : Int32) (v3 : Int32) (v4 : Int32) (h : PH) : Option ((Int32 × Int32) ⊕ (Int32 × PH)) :=
  gd (hK h v0 = 12) (if ((hI h 12 v0 20) ≤ v4) then (mr (some ((v3, h)))) else
  gs (hR h 12 v0 19) (fun a16 =>
  gd (hK h a16 = 20 ∧ inb v4 (hN h a16)) (bd (fX12_isAhead (hI h 20 a16 (Int32.toNatClampNeg v4)) v1) (fun z20 =>
  if (¬ z20 = 0) then (fX12_between_b95 v0 v1 v2 v4 v3 h) else
  gs (hR h 12 v0 19) (fun a21 =>
  gd (hK h a21 = 20 ∧ inb v4 (hN h a21)) (bd (fX12_isAhead (hI h 20 a21 (Int32.toNatClampNeg v4)) v2) (fun z25 =>
  if (z25 = 0) then (fX12_between_b95 v0 v1 v2 v4 v3 h) else
  fX12_between_b96 v0 v1 v2 v4 v3 (1 : Int32) h)))))))
set_option maxRecDepth 100000 in
theorem mX12_between_c53 {v0 : Nat} {v1 : Int32} {v2 : Int32} {v3 : Int32} {v4 : Int32} {h : PH} {x : ((Int32 × Int32) ⊕ (Int32 × PH))} (hf : fX12_between_c53 v0 v1 v2 v3 v4 h = some x) : (∀ w9 : (Int32 × PH), x = .inr w9 → eqz h (hX w9.2) (hV w9.2)) := by
  unfold fX12_between_c53 at hf
  have hle := eqz_rf h
  obtain ⟨hk13, hf⟩ := gd_some hf
  rcases ite_or hf with ⟨q, hf⟩ | ⟨q, hf⟩
  · have hf := if_t q hf
    obtain ⟨y14, hfm, rfl⟩ := mr_some hf; have hf := hfm; clear hfm
    have ee := Option.some.inj hf; subst ee
    exact (fun z e => by have ee := Sum.inr.inj (e); subst ee; exact hle)
  · have hf := if_f q hf
    obtain ⟨a16, e17, hf⟩ := gs_some hf
    obtain ⟨⟨hk19, hb18⟩, hf⟩ := gd_some hf
    obtain ⟨z20, hz20, hf⟩ := bd_some hf
    rcases ite_or hf with ⟨q, hf⟩ | ⟨q, hf⟩
    · have hf := if_t q hf
      obtain cf := mX12_between_b95 hf
      exact fun z e => eqz_rt (cf z (e)) hle
    · have hf := if_f q hf
      obtain ⟨a21, e22, hf⟩ := gs_some hf
      obtain ⟨⟨hk24, hb23⟩, hf⟩ := gd_some hf
      obtain ⟨z25, hz25, hf⟩ := bd_some hf
      rcases ite_or hf with ⟨q, hf⟩ | ⟨q, hf⟩
      · have hf := if_t q hf
        obtain cf := mX12_between_b95 hf
        exact fun z e => eqz_rt (cf z (e)) hle
      · have hf := if_f q hf
        obtain cf := mX12_between_b96 hf
        exact fun z e => eqz_rt (cf z (e)) hle
set_option maxRecDepth 100000 in
theorem wX12_between_c53 {E : PE} {p : Program} {l : Launch} {e : Env} {s : State} {m : MethodId} {args : Array Value} {below : List Frame} {meth : Method} {c : Code} (X : Cx E p l e (rmv 5 0 0) s m args below meth c RX12 cX12_between 5 (some .int)) (hG : Gs E l) (hnm : meth.name = yX12_between.name) {v0 : Nat} {v1 : Int32} {v2 : Int32} {v3 : Int32} {v4 : Int32} {h : PH} {r : (Int32 × PH)} {x : ((Int32 × Int32) ⊕ (Int32 × PH))} (hf : fX12_between_c53 v0 v1 v2 v3 v4 h = some x) (k0 : ∀ z : (Int32 × Int32), x = .inl z → PW E p l e (rmv 5 0 0) s m args below meth c 5 0 0 (MQ below (QG E (fun v u => v = some (.int r.1) ∧ u = r.2)) args s 0 0 (pA E)) h 53 [(0, some (.ref v0)), (1, some (.int v1)), (2, some (.int v2)), (3, some (.int (z.1))), (4, some (.int (z.2)))] []) (kf : ∀ z : (Int32 × PH), x = .inr z → z = r) : PW E p l e (rmv 5 0 0) s m args below meth c 5 0 0 (MQ below (QG E (fun v u => v = some (.int r.1) ∧ u = r.2)) args s 0 0 (pA E)) h 53 [(0, some (.ref v0)), (1, some (.int v1)), (2, some (.int v2)), (3, some (.int v3)), (4, some (.int v4))] [] := by
  unfold fX12_between_c53 at hf
  refine p_iload X (dcg dc_X12_between 30 rfl) rfl ?_
  refine p_aload_n X (dcg dc_X12_between 31 rfl) rfl rfl ?_
  obtain ⟨hk13, hf⟩ := gd_some hf
  refine p_getI X fl_X12_225 rfl (by decide) (dcg dc_X12_between 32 rfl) hk13 ?_
  refine p_icmp_ge (tgt := 104) X (dcg dc_X12_between 33 rfl) (by decide) (fun q => ?_) (fun q => ?_)
  · have hf := if_t q hf
    obtain ⟨y14, hf, hy15⟩ := mr_some hf
    have hy15f := kf y14 hy15
    subst hy15f
    refine p_iload_n X (dcg dc_X12_between 56 rfl) rfl rfl ?_
    have er := Option.some.inj hf
    subst er
    exact p_iret X rfl (dcg dc_X12_between 57 rfl) ⟨rfl, rfl⟩ (Nat.le_refl _) (Nat.le_refl _)
  · have hf := if_f q hf
    refine p_iload_n X (dcg dc_X12_between 34 rfl) rfl rfl ?_
    refine p_aload_n X (dcg dc_X12_between 35 rfl) rfl rfl ?_
    refine p_getR X fl_X12_57 rfl (by decide) (dcg dc_X12_between 36 rfl) hk13 ?_
    refine p_iload X (dcg dc_X12_between 37 rfl) rfl ?_
    obtain ⟨a16, e17, hf⟩ := gs_some hf
    first | subst e17 | (try rw [e17])
    obtain ⟨⟨hk19, hb18⟩, hf⟩ := gd_some hf
    refine p_iald X (dcg dc_X12_between 38 rfl) hk19 (vp_of_inb hb18) ?_
    refine p_iload_n X (dcg dc_X12_between 39 rfl) rfl rfl ?_
    obtain ⟨z20, hz20, hf⟩ := bd_some hf
    refine p_callS (As := [_, _]) X ml_X12_228 (dcg dc_X12_between 40 rfl) rfl rfl  (wX12_isAhead hG hz20) (by decide) (room4 (Nat.le_of_ble_eq_true rfl)) (Nat.le_refl _) (Nat.le_refl _) ?_
    rintro _ u9 ⟨rfl, e9⟩; have e9 := e9.symm; subst e9
    refine p_if_ne (tgt := 95) X (dcg dc_X12_between 41 rfl) (by decide) (fun q => ?_) (fun q => ?_)
    · have hf := if_t q hf
      refine p_pick [0, 1, 2, 4] ?_
      exact wX12_between_b95 X hG hnm hf k0 kf
    · have hf := if_f q hf
      refine p_aload_n X (dcg dc_X12_between 42 rfl) rfl rfl ?_
      refine p_getR X fl_X12_57 rfl (by decide) (dcg dc_X12_between 43 rfl) hk13 ?_
      refine p_iload X (dcg dc_X12_between 44 rfl) rfl ?_
      obtain ⟨a21, e22, hf⟩ := gs_some hf
      first | subst e22 | (try rw [e22])
      obtain ⟨⟨hk24, hb23⟩, hf⟩ := gd_some hf
      refine p_iald X (dcg dc_X12_between 45 rfl) hk24 (vp_of_inb hb23) ?_
      refine p_iload_n X (dcg dc_X12_between 46 rfl) rfl rfl ?_
      obtain ⟨z25, hz25, hf⟩ := bd_some hf
      refine p_callS (As := [_, _]) X ml_X12_228 (dcg dc_X12_between 47 rfl) rfl rfl  (wX12_isAhead hG hz25) (by decide) (room4 (Nat.le_of_ble_eq_true rfl)) (Nat.le_refl _) (Nat.le_refl _) ?_
      rintro _ u9 ⟨rfl, e9⟩; have e9 := e9.symm; subst e9
      refine p_if_eq (tgt := 95) X (dcg dc_X12_between 48 rfl) (by decide) (fun q => ?_) (fun q => ?_)
      · have hf := if_t q hf
        refine p_pick [0, 1, 2, 4] ?_
        exact wX12_between_b95 X hG hnm hf k0 kf
      · have hf := if_f q hf
        refine p_iconst (v := 1) X (dcg dc_X12_between 49 rfl) (by decide) ?_
        refine p_goto (tgt := 96) X (dcg dc_X12_between 50 rfl) (by decide) ?_
        refine p_pick [0, 1, 2, 4] ?_
        exact wX12_between_b96 X hG hnm hf k0 kf
noncomputable def fX12_between_l53 (v0 : Nat) (v1 : Int32) (v2 : Int32) (v3 : Int32) (v4 : Int32) (h : PH) : Option (Int32 × PH) := wh (fun z : (Int32 × Int32) => fX12_between_c53 v0 v1 v2 (z.1) (z.2) h) (v3, v4)
set_option maxRecDepth 100000 in
theorem mX12_between_l53 {v0 : Nat} {v1 : Int32} {v2 : Int32} {v3 : Int32} {v4 : Int32} {h : PH} {r : (Int32 × PH)} (hf : fX12_between_l53 v0 v1 v2 v3 v4 h = some r) : eqz h (hX r.2) (hV r.2) := by
  unfold fX12_between_l53 at hf
  refine wh_ind (P := fun z => eqz h (hX r.2) (hV r.2)) (fun z x0 hs i1 i2 => ?_) _ hf
  obtain cf := mX12_between_c53 (v0 := v0) (v1 := v1) (v2 := v2) (v3 := z.1) (v4 := z.2) (h := h) hs
  rcases hxx : x0 with zz | zz
  · exact (i1 zz hxx)
  · have ee := i2 zz hxx; subst ee; exact cf zz hxx
set_option maxRecDepth 100000 in
theorem wX12_between_l53 {E : PE} {p : Program} {l : Launch} {e : Env} {s : State} {m : MethodId} {args : Array Value} {below : List Frame} {meth : Method} {c : Code} (X : Cx E p l e (rmv 5 0 0) s m args below meth c RX12 cX12_between 5 (some .int)) (hG : Gs E l) (hnm : meth.name = yX12_between.name) {v0 : Nat} {v1 : Int32} {v2 : Int32} {v3 : Int32} {v4 : Int32} {h : PH} {r : (Int32 × PH)} (hf : fX12_between_l53 v0 v1 v2 v3 v4 h = some r)  : PW E p l e (rmv 5 0 0) s m args below meth c 5 0 0 (MQ below (QG E (fun v u => v = some (.int r.1) ∧ u = r.2)) args s 0 0 (pA E)) h 53 [(0, some (.ref v0)), (1, some (.int v1)), (2, some (.int v2)), (3, some (.int v3)), (4, some (.int v4))] [] := by
  unfold fX12_between_l53 at hf
  refine wh_ind (P := fun z => PW E p l e (rmv 5 0 0) s m args below meth c 5 0 0 (MQ below (QG E (fun v u => v = some (.int r.1) ∧ u = r.2)) args s 0 0 (pA E)) h 53 [(0, some (.ref v0)), (1, some (.int v1)), (2, some (.int v2)), (3, some (.int (z.1))), (4, some (.int (z.2)))] []) (fun z x0 hs i1 i2 => ?_) _ hf
  exact wX12_between_c53 (r := r) (v0 := v0) (v1 := v1) (v2 := v2) (v3 := z.1) (v4 := z.2) (h := h) X hG hnm hs i1  i2
noncomputable def fX12_between_b35 (v0 : Nat) (v1 : Int32) (v2 : Int32) (t0 : Option Nat) (t1 : Int32) (h : PH) : Option (Int32 × PH) :=
  gs t0 (fun a7 =>
  gd (hK h a7 = 12) (bd (fX12_fails a7 t1 (1 : Int32) h) (fun z10 =>
  if (z10.1 = 0) then (gd (hK z10.2 v0 = 12) (bd (fX12_finds v0 z10.2) (fun z12 =>
  fX12_between_l53 v0 v1 v2 (0 : Int32) (0 : Int32) z12))) else
  fX12_between_b42  z10.2)))
set_option maxRecDepth 100000 in
theorem mX12_between_b35 {v0 : Nat} {v1 : Int32} {v2 : Int32} {t0 : Option Nat} {t1 : Int32} {h : PH} {r : (Int32 × PH)} (hf : fX12_between_b35 v0 v1 v2 t0 t1 h = some r) : eqz h (hX r.2) (hV r.2) := by
  unfold fX12_between_b35 at hf
  have hle := eqz_rf h
  obtain ⟨a7, e8, hf⟩ := gs_some hf
  obtain ⟨hk9, hf⟩ := gd_some hf
  obtain ⟨z10, hz10, hf⟩ := bd_some hf
  have hle := eqz_rt (mX12_fails hz10) hle
  rcases ite_or hf with ⟨q, hf⟩ | ⟨q, hf⟩
  · have hf := if_t q hf
    obtain ⟨hk11, hf⟩ := gd_some hf
    obtain ⟨z12, hz12, hf⟩ := bd_some hf
    have hle := eqz_rt (mX12_finds hz12) hle
    exact eqz_rt (mX12_between_l53 hf) hle
  · have hf := if_f q hf
    exact eqz_rt (mX12_between_b42 hf) hle
set_option maxRecDepth 100000 in
theorem wX12_between_b35 {E : PE} {p : Program} {l : Launch} {e : Env} {s : State} {m : MethodId} {args : Array Value} {below : List Frame} {meth : Method} {c : Code} (X : Cx E p l e (rmv 5 0 0) s m args below meth c RX12 cX12_between 5 (some .int)) (hG : Gs E l) (hnm : meth.name = yX12_between.name) {v0 : Nat} {v1 : Int32} {v2 : Int32} {t0 : Option Nat} {t1 : Int32} {h : PH} {r : (Int32 × PH)} (hf : fX12_between_b35 v0 v1 v2 t0 t1 h = some r)  : PW E p l e (rmv 5 0 0) s m args below meth c 5 0 0 (MQ below (QG E (fun v u => v = some (.int r.1) ∧ u = r.2)) args s 0 0 (pA E)) h 35 [(0, some (.ref v0)), (1, some (.int v1)), (2, some (.int v2))] [.int t1, va_rf t0] := by
  unfold fX12_between_b35 at hf
  refine p_iconst (v := 1) X (dcg dc_X12_between 19 rfl) (by decide) ?_
  obtain ⟨a7, e8, hf⟩ := gs_some hf
  first | subst e8 | (try rw [e8])
  obtain ⟨hk9, hf⟩ := gd_some hf
  obtain ⟨z10, hz10, hf⟩ := bd_some hf
  refine p_callV (As := [_, _]) X ml_X12_156 (dcg dc_X12_between 20 rfl) rfl rfl hk9 (wX12_fails hG hz10) (by decide) (room4 (Nat.le_of_ble_eq_true rfl)) (Nat.le_refl _) (Nat.le_refl _) ?_
  rintro _ u9 ⟨rfl, e9⟩; have e9 := e9.symm; subst e9
  refine p_if_eq (tgt := 44) X (dcg dc_X12_between 21 rfl) (by decide) (fun q => ?_) (fun q => ?_)
  · have hf := if_t q hf
    refine p_aload_n X (dcg dc_X12_between 24 rfl) rfl rfl ?_
    obtain ⟨hk11, hf⟩ := gd_some hf
    obtain ⟨z12, hz12, hf⟩ := bd_some hf
    refine p_callV (As := []) X ml_X12_237 (dcg dc_X12_between 25 rfl) rfl rfl hk11 (wX12_finds hG hz12) (by decide) (room4 (Nat.le_of_ble_eq_true rfl)) (Nat.le_refl _) (Nat.le_refl _) ?_
    rintro _ u9 ⟨rfl, e9⟩; have e9 := e9.symm; subst e9
    refine p_iconst (v := 0) X (dcg dc_X12_between 26 rfl) (by decide) ?_
    refine p_istore_n X (dcg dc_X12_between 27 rfl) rfl (by decide) rfl ?_
    refine p_iconst (v := 0) X (dcg dc_X12_between 28 rfl) (by decide) ?_
    refine p_istore X (dcg dc_X12_between 29 rfl) (by decide) rfl ?_
    refine p_pick [0, 1, 2, 3, 4] ?_
    exact wX12_between_l53 X hG hnm hf 
  · have hf := if_f q hf
    refine p_pick [] ?_
    exact wX12_between_b42 X hG hnm hf 
noncomputable def fX12_between (v0 : Nat) (v1 : Int32) (v2 : Int32) (h : PH) : Option (Int32 × PH) :=
  gd (hK h v0 = 12) (lt (sI h 12 v0 0 (0 : Int32)) (fun h2 =>
  bd (fX12_noWord v0 v1 h2) (fun z3 =>
  if (¬ z3.1 = 0) then (fX12_between_b42  z3.2) else
  gd (hK z3.2 v0 = 12) (bd (fX12_noWord v0 v2 z3.2) (fun z5 =>
  if (¬ z5.1 = 0) then (fX12_between_b42  z5.2) else
  bd (fX12_isAhead v2 v1) (fun z6 =>
  if (¬ z6 = 0) then (fX12_between_b35 v0 v1 v2 (some v0) (0 : Int32) z5.2) else
  fX12_between_b35 v0 v1 v2 (some v0) (1 : Int32) z5.2))))))
set_option maxRecDepth 100000 in
theorem mX12_between {v0 : Nat} {v1 : Int32} {v2 : Int32} {h : PH} {r : (Int32 × PH)} (hf : fX12_between v0 v1 v2 h = some r) : eqz h (hX r.2) (hV r.2) := by
  unfold fX12_between at hf
  have hle := eqz_rf h
  obtain ⟨hk1, hf⟩ := gd_some hf
  obtain ⟨h2, rfl, hf⟩ := lt_some hf
  obtain ⟨z3, hz3, hf⟩ := bd_some hf
  have hle := eqz_rt (mX12_noWord hz3) hle
  rcases ite_or hf with ⟨q, hf⟩ | ⟨q, hf⟩
  · have hf := if_t q hf
    exact eqz_rt (mX12_between_b42 hf) hle
  · have hf := if_f q hf
    obtain ⟨hk4, hf⟩ := gd_some hf
    obtain ⟨z5, hz5, hf⟩ := bd_some hf
    have hle := eqz_rt (mX12_noWord hz5) hle
    rcases ite_or hf with ⟨q, hf⟩ | ⟨q, hf⟩
    · have hf := if_t q hf
      exact eqz_rt (mX12_between_b42 hf) hle
    · have hf := if_f q hf
      obtain ⟨z6, hz6, hf⟩ := bd_some hf
      rcases ite_or hf with ⟨q, hf⟩ | ⟨q, hf⟩
      · have hf := if_t q hf
        exact eqz_rt (mX12_between_b35 hf) hle
      · have hf := if_f q hf
        exact eqz_rt (mX12_between_b35 hf) hle
set_option maxRecDepth 100000 in
theorem wX12_between {E : PE} {l : Launch} (hG : Gs E l) {v0 : Nat} {v1 : Int32} {v2 : Int32} {h : PH} {r : (Int32 × PH)} (hf : fX12_between v0 v1 v2 h = some r) : Ct E l 5 0 0 yX12_between cX12_between 5 (some .int) [.ref v0, .int v1, .int v2] h (fun v u => v = some (.int r.1) ∧ u = r.2) := by
  refine ct_of hG (by decide) (Nat.le_of_ble_eq_true rfl) ?_
  intro p e s m args below meth c X hnm
  show PW E p l e _ s m args below meth c _ 0 0 _ h 0 [(0, some (.ref v0)), (1, some (.int v1)), (2, some (.int v2))] []
  unfold fX12_between at hf
  refine p_aload_n X (dcg dc_X12_between 0 rfl) rfl rfl ?_
  refine p_iconst (v := 0) X (dcg dc_X12_between 1 rfl) (by decide) ?_
  obtain ⟨hk1, hf⟩ := gd_some hf
  refine p_putI X fl_X12_1 rfl (by decide) (fun q hq => by cases hq; rfl) rfl rfl (dcg dc_X12_between 2 rfl) hk1 ?_
  obtain ⟨h2, rfl, hf⟩ := lt_some hf
  refine p_aload_n X (dcg dc_X12_between 3 rfl) rfl rfl ?_
  refine p_iload_n X (dcg dc_X12_between 4 rfl) rfl rfl ?_
  obtain ⟨z3, hz3, hf⟩ := bd_some hf
  refine p_callV (As := [_]) X ml_X12_240 (dcg dc_X12_between 5 rfl) rfl rfl hk1 (wX12_noWord hG hz3) (by decide) (room4 (Nat.le_of_ble_eq_true rfl)) (Nat.le_refl _) (Nat.le_refl _) ?_
  rintro _ u9 ⟨rfl, e9⟩; have e9 := e9.symm; subst e9
  refine p_if_ne (tgt := 42) X (dcg dc_X12_between 6 rfl) (by decide) (fun q => ?_) (fun q => ?_)
  · have hf := if_t q hf
    refine p_pick [] ?_
    exact wX12_between_b42 X hG hnm hf 
  · have hf := if_f q hf
    refine p_aload_n X (dcg dc_X12_between 7 rfl) rfl rfl ?_
    refine p_iload_n X (dcg dc_X12_between 8 rfl) rfl rfl ?_
    obtain ⟨hk4, hf⟩ := gd_some hf
    obtain ⟨z5, hz5, hf⟩ := bd_some hf
    refine p_callV (As := [_]) X ml_X12_240 (dcg dc_X12_between 9 rfl) rfl rfl hk4 (wX12_noWord hG hz5) (by decide) (room4 (Nat.le_of_ble_eq_true rfl)) (Nat.le_refl _) (Nat.le_refl _) ?_
    rintro _ u9 ⟨rfl, e9⟩; have e9 := e9.symm; subst e9
    refine p_if_ne (tgt := 42) X (dcg dc_X12_between 10 rfl) (by decide) (fun q => ?_) (fun q => ?_)
    · have hf := if_t q hf
      refine p_pick [] ?_
      exact wX12_between_b42 X hG hnm hf 
    · have hf := if_f q hf
      refine p_aload_n X (dcg dc_X12_between 11 rfl) rfl rfl ?_
      refine p_iload_n X (dcg dc_X12_between 12 rfl) rfl rfl ?_
      refine p_iload_n X (dcg dc_X12_between 13 rfl) rfl rfl ?_
      obtain ⟨z6, hz6, hf⟩ := bd_some hf
      refine p_callS (As := [_, _]) X ml_X12_228 (dcg dc_X12_between 14 rfl) rfl rfl  (wX12_isAhead hG hz6) (by decide) (room4 (Nat.le_of_ble_eq_true rfl)) (Nat.le_refl _) (Nat.le_refl _) ?_
      rintro _ u9 ⟨rfl, e9⟩; have e9 := e9.symm; subst e9
      refine p_if_ne (tgt := 34) X (dcg dc_X12_between 15 rfl) (by decide) (fun q => ?_) (fun q => ?_)
      · have hf := if_t q hf
        refine p_iconst (v := 0) X (dcg dc_X12_between 18 rfl) (by decide) ?_
        refine p_pick [0, 1, 2] ?_
        exact wX12_between_b35 X hG hnm hf 
      · have hf := if_f q hf
        refine p_iconst (v := 1) X (dcg dc_X12_between 16 rfl) (by decide) ?_
        refine p_goto (tgt := 35) X (dcg dc_X12_between 17 rfl) (by decide) ?_
        refine p_pick [0, 1, 2] ?_
        exact wX12_between_b35 X hG hnm hf 
theorem dc_X12_beginning : decs cX12_beginning [(0, .aload_n 0, 1), (1, .iconst 0, 1), (2, .putfield 1, 3), (5, .aload_n 0, 1), (6, .iload_n 1, 1), (7, .invokevirtual 240, 3), (10, .ifCond .eq 5, 3), (13, .iconst 0, 1), (14, .ireturn, 1), (15, .aload_n 0, 1), (16, .invokevirtual 237, 3), (19, .iconst 0, 1), (20, .istore_n 2, 1), (21, .iconst 0, 1), (22, .istore_n 3, 1), (23, .iload_n 3, 1), (24, .aload_n 0, 1), (25, .getfield 225, 3), (28, .if_icmp .ge 30, 3), (31, .iload_n 2, 1), (32, .aload_n 0, 1), (33, .getfield 57, 3), (36, .iload_n 3, 1), (37, .iaload, 1), (38, .iload_n 1, 1), (39, .invokestatic 243, 3), (42, .ifCond .eq 7, 3), (45, .iconst 1, 1), (46, .goto 4, 3), (49, .iconst 0, 1), (50, .iadd, 1), (51, .istore_n 2, 1), (52, .iinc 3 1, 3), (55, .goto (-32), 3), (58, .iload_n 2, 1), (59, .ireturn, 1)] = true := by decide +kernel
noncomputable def fX12_beginning_b50 (v0 : Nat) (v1 : Int32) (v3 : Int32) (t0 : Int32) (t1 : Int32) (h : PH) : Option ((Int32 × Int32) ⊕ (Int32 × PH)) :=
  some (.inl ((t0 + t1), (v3 + 1)))
set_option maxRecDepth 100000 in
theorem mX12_beginning_b50 {v0 : Nat} {v1 : Int32} {v3 : Int32} {t0 : Int32} {t1 : Int32} {h : PH} {x : ((Int32 × Int32) ⊕ (Int32 × PH))} (hf : fX12_beginning_b50 v0 v1 v3 t0 t1 h = some x) : (∀ w9 : (Int32 × PH), x = .inr w9 → eqz h (hX w9.2) (hV w9.2)) := by
  unfold fX12_beginning_b50 at hf
  have hle := eqz_rf h
  have ee := Option.some.inj hf; subst ee
  exact (fun z e => nomatch e)
set_option maxRecDepth 100000 in
theorem wX12_beginning_b50 {E : PE} {p : Program} {l : Launch} {e : Env} {s : State} {m : MethodId} {args : Array Value} {below : List Frame} {meth : Method} {c : Code} (X : Cx E p l e (rmv 5 0 0) s m args below meth c RX12 cX12_beginning 4 (some .int)) (hG : Gs E l) (hnm : meth.name = yX12_beginning.name) {v0 : Nat} {v1 : Int32} {v3 : Int32} {t0 : Int32} {t1 : Int32} {h : PH} {r : (Int32 × PH)} {x : ((Int32 × Int32) ⊕ (Int32 × PH))} (hf : fX12_beginning_b50 v0 v1 v3 t0 t1 h = some x) (k0 : ∀ z : (Int32 × Int32), x = .inl z → PW E p l e (rmv 5 0 0) s m args below meth c 4 0 0 (MQ below (QG E (fun v u => v = some (.int r.1) ∧ u = r.2)) args s 0 0 (pA E)) h 23 [(0, some (.ref v0)), (1, some (.int v1)), (2, some (.int (z.1))), (3, some (.int (z.2)))] []) (kf : ∀ z : (Int32 × PH), x = .inr z → z = r) : PW E p l e (rmv 5 0 0) s m args below meth c 4 0 0 (MQ below (QG E (fun v u => v = some (.int r.1) ∧ u = r.2)) args s 0 0 (pA E)) h 50 [(0, some (.ref v0)), (1, some (.int v1)), (3, some (.int v3))] [.int t1, .int t0] := by
  unfold fX12_beginning_b50 at hf
  refine p_iadd X (dcg dc_X12_beginning 30 rfl) ?_
  refine p_istore_n X (dcg dc_X12_beginning 31 rfl) rfl (by decide) rfl ?_
  refine p_iinc (v := 1) X (dcg dc_X12_beginning 32 rfl) rfl (by decide) (by decide) rfl ?_
  refine p_goto (tgt := 23) X (dcg dc_X12_beginning 33 rfl) (by decide) ?_
  refine p_pick [0, 1, 2, 3] ?_
  exact k0 _ (Option.some.inj hf).symm
noncomputable def fX12_beginning_c23 (v0 : Nat) (v1 : Int32) (v2 : Int32) (v3 : Int32) (h : PH) : Option ((Int32 × Int32) ⊕ (Int32 × PH)) :=
  gd (hK h v0 = 12) (if ((hI h 12 v0 20) ≤ v3) then (mr (some ((v2, h)))) else
  gs (hR h 12 v0 19) (fun a9 =>
  gd (hK h a9 = 20 ∧ inb v3 (hN h a9)) (bd (fX12_beginsWith (hI h 20 a9 (Int32.toNatClampNeg v3)) v1) (fun z13 =>
  if (z13 = 0) then (fX12_beginning_b50 v0 v1 v3 v2 (0 : Int32) h) else
  fX12_beginning_b50 v0 v1 v3 v2 (1 : Int32) h))))
set_option maxRecDepth 100000 in
theorem mX12_beginning_c23 {v0 : Nat} {v1 : Int32} {v2 : Int32} {v3 : Int32} {h : PH} {x : ((Int32 × Int32) ⊕ (Int32 × PH))} (hf : fX12_beginning_c23 v0 v1 v2 v3 h = some x) : (∀ w9 : (Int32 × PH), x = .inr w9 → eqz h (hX w9.2) (hV w9.2)) := by
  unfold fX12_beginning_c23 at hf
  have hle := eqz_rf h
  obtain ⟨hk6, hf⟩ := gd_some hf
  rcases ite_or hf with ⟨q, hf⟩ | ⟨q, hf⟩
  · have hf := if_t q hf
    obtain ⟨y7, hfm, rfl⟩ := mr_some hf; have hf := hfm; clear hfm
    have ee := Option.some.inj hf; subst ee
    exact (fun z e => by have ee := Sum.inr.inj (e); subst ee; exact hle)
  · have hf := if_f q hf
    obtain ⟨a9, e10, hf⟩ := gs_some hf
    obtain ⟨⟨hk12, hb11⟩, hf⟩ := gd_some hf
    obtain ⟨z13, hz13, hf⟩ := bd_some hf
    rcases ite_or hf with ⟨q, hf⟩ | ⟨q, hf⟩
    · have hf := if_t q hf
      obtain cf := mX12_beginning_b50 hf
      exact fun z e => eqz_rt (cf z (e)) hle
    · have hf := if_f q hf
      obtain cf := mX12_beginning_b50 hf
      exact fun z e => eqz_rt (cf z (e)) hle
set_option maxRecDepth 100000 in
theorem wX12_beginning_c23 {E : PE} {p : Program} {l : Launch} {e : Env} {s : State} {m : MethodId} {args : Array Value} {below : List Frame} {meth : Method} {c : Code} (X : Cx E p l e (rmv 5 0 0) s m args below meth c RX12 cX12_beginning 4 (some .int)) (hG : Gs E l) (hnm : meth.name = yX12_beginning.name) {v0 : Nat} {v1 : Int32} {v2 : Int32} {v3 : Int32} {h : PH} {r : (Int32 × PH)} {x : ((Int32 × Int32) ⊕ (Int32 × PH))} (hf : fX12_beginning_c23 v0 v1 v2 v3 h = some x) (k0 : ∀ z : (Int32 × Int32), x = .inl z → PW E p l e (rmv 5 0 0) s m args below meth c 4 0 0 (MQ below (QG E (fun v u => v = some (.int r.1) ∧ u = r.2)) args s 0 0 (pA E)) h 23 [(0, some (.ref v0)), (1, some (.int v1)), (2, some (.int (z.1))), (3, some (.int (z.2)))] []) (kf : ∀ z : (Int32 × PH), x = .inr z → z = r) : PW E p l e (rmv 5 0 0) s m args below meth c 4 0 0 (MQ below (QG E (fun v u => v = some (.int r.1) ∧ u = r.2)) args s 0 0 (pA E)) h 23 [(0, some (.ref v0)), (1, some (.int v1)), (2, some (.int v2)), (3, some (.int v3))] [] := by
  unfold fX12_beginning_c23 at hf
  refine p_iload_n X (dcg dc_X12_beginning 15 rfl) rfl rfl ?_
  refine p_aload_n X (dcg dc_X12_beginning 16 rfl) rfl rfl ?_
  obtain ⟨hk6, hf⟩ := gd_some hf
  refine p_getI X fl_X12_225 rfl (by decide) (dcg dc_X12_beginning 17 rfl) hk6 ?_
  refine p_icmp_ge (tgt := 58) X (dcg dc_X12_beginning 18 rfl) (by decide) (fun q => ?_) (fun q => ?_)
  · have hf := if_t q hf
    obtain ⟨y7, hf, hy8⟩ := mr_some hf
    have hy8f := kf y7 hy8
    subst hy8f
    refine p_iload_n X (dcg dc_X12_beginning 34 rfl) rfl rfl ?_
    have er := Option.some.inj hf
    subst er
    exact p_iret X rfl (dcg dc_X12_beginning 35 rfl) ⟨rfl, rfl⟩ (Nat.le_refl _) (Nat.le_refl _)
  · have hf := if_f q hf
    refine p_iload_n X (dcg dc_X12_beginning 19 rfl) rfl rfl ?_
    refine p_aload_n X (dcg dc_X12_beginning 20 rfl) rfl rfl ?_
    refine p_getR X fl_X12_57 rfl (by decide) (dcg dc_X12_beginning 21 rfl) hk6 ?_
    refine p_iload_n X (dcg dc_X12_beginning 22 rfl) rfl rfl ?_
    obtain ⟨a9, e10, hf⟩ := gs_some hf
    first | subst e10 | (try rw [e10])
    obtain ⟨⟨hk12, hb11⟩, hf⟩ := gd_some hf
    refine p_iald X (dcg dc_X12_beginning 23 rfl) hk12 (vp_of_inb hb11) ?_
    refine p_iload_n X (dcg dc_X12_beginning 24 rfl) rfl rfl ?_
    obtain ⟨z13, hz13, hf⟩ := bd_some hf
    refine p_callS (As := [_, _]) X ml_X12_243 (dcg dc_X12_beginning 25 rfl) rfl rfl  (wX12_beginsWith hG hz13) (by decide) (room4 (Nat.le_of_ble_eq_true rfl)) (Nat.le_refl _) (Nat.le_refl _) ?_
    rintro _ u9 ⟨rfl, e9⟩; have e9 := e9.symm; subst e9
    refine p_if_eq (tgt := 49) X (dcg dc_X12_beginning 26 rfl) (by decide) (fun q => ?_) (fun q => ?_)
    · have hf := if_t q hf
      refine p_iconst (v := 0) X (dcg dc_X12_beginning 29 rfl) (by decide) ?_
      refine p_pick [0, 1, 3] ?_
      exact wX12_beginning_b50 X hG hnm hf k0 kf
    · have hf := if_f q hf
      refine p_iconst (v := 1) X (dcg dc_X12_beginning 27 rfl) (by decide) ?_
      refine p_goto (tgt := 50) X (dcg dc_X12_beginning 28 rfl) (by decide) ?_
      refine p_pick [0, 1, 3] ?_
      exact wX12_beginning_b50 X hG hnm hf k0 kf
noncomputable def fX12_beginning_l23 (v0 : Nat) (v1 : Int32) (v2 : Int32) (v3 : Int32) (h : PH) : Option (Int32 × PH) := wh (fun z : (Int32 × Int32) => fX12_beginning_c23 v0 v1 (z.1) (z.2) h) (v2, v3)
set_option maxRecDepth 100000 in
theorem mX12_beginning_l23 {v0 : Nat} {v1 : Int32} {v2 : Int32} {v3 : Int32} {h : PH} {r : (Int32 × PH)} (hf : fX12_beginning_l23 v0 v1 v2 v3 h = some r) : eqz h (hX r.2) (hV r.2) := by
  unfold fX12_beginning_l23 at hf
  refine wh_ind (P := fun z => eqz h (hX r.2) (hV r.2)) (fun z x0 hs i1 i2 => ?_) _ hf
  obtain cf := mX12_beginning_c23 (v0 := v0) (v1 := v1) (v2 := z.1) (v3 := z.2) (h := h) hs
  rcases hxx : x0 with zz | zz
  · exact (i1 zz hxx)
  · have ee := i2 zz hxx; subst ee; exact cf zz hxx
set_option maxRecDepth 100000 in
theorem wX12_beginning_l23 {E : PE} {p : Program} {l : Launch} {e : Env} {s : State} {m : MethodId} {args : Array Value} {below : List Frame} {meth : Method} {c : Code} (X : Cx E p l e (rmv 5 0 0) s m args below meth c RX12 cX12_beginning 4 (some .int)) (hG : Gs E l) (hnm : meth.name = yX12_beginning.name) {v0 : Nat} {v1 : Int32} {v2 : Int32} {v3 : Int32} {h : PH} {r : (Int32 × PH)} (hf : fX12_beginning_l23 v0 v1 v2 v3 h = some r)  : PW E p l e (rmv 5 0 0) s m args below meth c 4 0 0 (MQ below (QG E (fun v u => v = some (.int r.1) ∧ u = r.2)) args s 0 0 (pA E)) h 23 [(0, some (.ref v0)), (1, some (.int v1)), (2, some (.int v2)), (3, some (.int v3))] [] := by
  unfold fX12_beginning_l23 at hf
  refine wh_ind (P := fun z => PW E p l e (rmv 5 0 0) s m args below meth c 4 0 0 (MQ below (QG E (fun v u => v = some (.int r.1) ∧ u = r.2)) args s 0 0 (pA E)) h 23 [(0, some (.ref v0)), (1, some (.int v1)), (2, some (.int (z.1))), (3, some (.int (z.2)))] []) (fun z x0 hs i1 i2 => ?_) _ hf
  exact wX12_beginning_c23 (r := r) (v0 := v0) (v1 := v1) (v2 := z.1) (v3 := z.2) (h := h) X hG hnm hs i1  i2
noncomputable def fX12_beginning (v0 : Nat) (v1 : Int32) (h : PH) : Option (Int32 × PH) :=
  gd (hK h v0 = 12) (lt (sI h 12 v0 0 (0 : Int32)) (fun h2 =>
  bd (fX12_noWord v0 v1 h2) (fun z3 =>
  if (z3.1 = 0) then (gd (hK z3.2 v0 = 12) (bd (fX12_finds v0 z3.2) (fun z5 =>
  fX12_beginning_l23 v0 v1 (0 : Int32) (0 : Int32) z5))) else
  some (((0 : Int32), z3.2)))))
set_option maxRecDepth 100000 in
theorem mX12_beginning {v0 : Nat} {v1 : Int32} {h : PH} {r : (Int32 × PH)} (hf : fX12_beginning v0 v1 h = some r) : eqz h (hX r.2) (hV r.2) := by
  unfold fX12_beginning at hf
  have hle := eqz_rf h
  obtain ⟨hk1, hf⟩ := gd_some hf
  obtain ⟨h2, rfl, hf⟩ := lt_some hf
  obtain ⟨z3, hz3, hf⟩ := bd_some hf
  have hle := eqz_rt (mX12_noWord hz3) hle
  rcases ite_or hf with ⟨q, hf⟩ | ⟨q, hf⟩
  · have hf := if_t q hf
    obtain ⟨hk4, hf⟩ := gd_some hf
    obtain ⟨z5, hz5, hf⟩ := bd_some hf
    have hle := eqz_rt (mX12_finds hz5) hle
    exact eqz_rt (mX12_beginning_l23 hf) hle
  · have hf := if_f q hf
    have ee := Option.some.inj hf; subst ee; exact hle
set_option maxRecDepth 100000 in
theorem wX12_beginning {E : PE} {l : Launch} (hG : Gs E l) {v0 : Nat} {v1 : Int32} {h : PH} {r : (Int32 × PH)} (hf : fX12_beginning v0 v1 h = some r) : Ct E l 5 0 0 yX12_beginning cX12_beginning 4 (some .int) [.ref v0, .int v1] h (fun v u => v = some (.int r.1) ∧ u = r.2) := by
  refine ct_of hG (by decide) (Nat.le_of_ble_eq_true rfl) ?_
  intro p e s m args below meth c X hnm
  show PW E p l e _ s m args below meth c _ 0 0 _ h 0 [(0, some (.ref v0)), (1, some (.int v1))] []
  unfold fX12_beginning at hf
  refine p_aload_n X (dcg dc_X12_beginning 0 rfl) rfl rfl ?_
  refine p_iconst (v := 0) X (dcg dc_X12_beginning 1 rfl) (by decide) ?_
  obtain ⟨hk1, hf⟩ := gd_some hf
  refine p_putI X fl_X12_1 rfl (by decide) (fun q hq => by cases hq; rfl) rfl rfl (dcg dc_X12_beginning 2 rfl) hk1 ?_
  obtain ⟨h2, rfl, hf⟩ := lt_some hf
  refine p_aload_n X (dcg dc_X12_beginning 3 rfl) rfl rfl ?_
  refine p_iload_n X (dcg dc_X12_beginning 4 rfl) rfl rfl ?_
  obtain ⟨z3, hz3, hf⟩ := bd_some hf
  refine p_callV (As := [_]) X ml_X12_240 (dcg dc_X12_beginning 5 rfl) rfl rfl hk1 (wX12_noWord hG hz3) (by decide) (room4 (Nat.le_of_ble_eq_true rfl)) (Nat.le_refl _) (Nat.le_refl _) ?_
  rintro _ u9 ⟨rfl, e9⟩; have e9 := e9.symm; subst e9
  refine p_if_eq (tgt := 15) X (dcg dc_X12_beginning 6 rfl) (by decide) (fun q => ?_) (fun q => ?_)
  · have hf := if_t q hf
    refine p_aload_n X (dcg dc_X12_beginning 9 rfl) rfl rfl ?_
    obtain ⟨hk4, hf⟩ := gd_some hf
    obtain ⟨z5, hz5, hf⟩ := bd_some hf
    refine p_callV (As := []) X ml_X12_237 (dcg dc_X12_beginning 10 rfl) rfl rfl hk4 (wX12_finds hG hz5) (by decide) (room4 (Nat.le_of_ble_eq_true rfl)) (Nat.le_refl _) (Nat.le_refl _) ?_
    rintro _ u9 ⟨rfl, e9⟩; have e9 := e9.symm; subst e9
    refine p_iconst (v := 0) X (dcg dc_X12_beginning 11 rfl) (by decide) ?_
    refine p_istore_n X (dcg dc_X12_beginning 12 rfl) rfl (by decide) rfl ?_
    refine p_iconst (v := 0) X (dcg dc_X12_beginning 13 rfl) (by decide) ?_
    refine p_istore_n X (dcg dc_X12_beginning 14 rfl) rfl (by decide) rfl ?_
    refine p_pick [0, 1, 2, 3] ?_
    exact wX12_beginning_l23 X hG hnm hf 
  · have hf := if_f q hf
    refine p_iconst (v := 0) X (dcg dc_X12_beginning 7 rfl) (by decide) ?_
    have er := Option.some.inj hf
    subst er
    exact p_iret X rfl (dcg dc_X12_beginning 8 rfl) ⟨rfl, rfl⟩ (Nat.le_refl _) (Nat.le_refl _)
theorem dc_X12_textsWith : decs cX12_textsWith [(0, .aload_n 0, 1), (1, .iconst 0, 1), (2, .putfield 1, 3), (5, .aload_n 0, 1), (6, .iload_n 1, 1), (7, .invokevirtual 240, 3), (10, .ifCond .eq 7, 3), (13, .iconst 0, 1), (14, .goto 8, 3), (17, .aload_n 0, 1), (18, .iload_n 1, 1), (19, .invokevirtual 246, 3), (22, .ireturn, 1)] = true := by decide +kernel
noncomputable def fX12_textsWith_b22 (t0 : Int32) (h : PH) : Option (Int32 × PH) :=
  some ((t0, h))
set_option maxRecDepth 100000 in
theorem mX12_textsWith_b22 {t0 : Int32} {h : PH} {r : (Int32 × PH)} (hf : fX12_textsWith_b22 t0 h = some r) : eqz h (hX r.2) (hV r.2) := by
  unfold fX12_textsWith_b22 at hf
  have hle := eqz_rf h
  have ee := Option.some.inj hf; subst ee; exact hle
set_option maxRecDepth 100000 in
theorem wX12_textsWith_b22 {E : PE} {p : Program} {l : Launch} {e : Env} {s : State} {m : MethodId} {args : Array Value} {below : List Frame} {meth : Method} {c : Code} (X : Cx E p l e (rmv 3 0 0) s m args below meth c RX12 cX12_textsWith 2 (some .int)) (hG : Gs E l) (hnm : meth.name = yX12_textsWith.name) {t0 : Int32} {h : PH} {r : (Int32 × PH)} (hf : fX12_textsWith_b22 t0 h = some r)  : PW E p l e (rmv 3 0 0) s m args below meth c 2 0 0 (MQ below (QG E (fun v u => v = some (.int r.1) ∧ u = r.2)) args s 0 0 (pA E)) h 22 [] [.int t0] := by
  unfold fX12_textsWith_b22 at hf
  have er := Option.some.inj hf
  subst er
  exact p_iret X rfl (dcg dc_X12_textsWith 12 rfl) ⟨rfl, rfl⟩ (Nat.le_refl _) (Nat.le_refl _)
noncomputable def fX12_textsWith (v0 : Nat) (v1 : Int32) (h : PH) : Option (Int32 × PH) :=
  gd (hK h v0 = 12) (lt (sI h 12 v0 0 (0 : Int32)) (fun h2 =>
  bd (fX12_noWord v0 v1 h2) (fun z3 =>
  if (z3.1 = 0) then (gd (hK z3.2 v0 = 12) (bd (fX12_manyWith v0 v1 z3.2) (fun z5 =>
  fX12_textsWith_b22 z5 z3.2))) else
  fX12_textsWith_b22 (0 : Int32) z3.2)))
set_option maxRecDepth 100000 in
theorem mX12_textsWith {v0 : Nat} {v1 : Int32} {h : PH} {r : (Int32 × PH)} (hf : fX12_textsWith v0 v1 h = some r) : eqz h (hX r.2) (hV r.2) := by
  unfold fX12_textsWith at hf
  have hle := eqz_rf h
  obtain ⟨hk1, hf⟩ := gd_some hf
  obtain ⟨h2, rfl, hf⟩ := lt_some hf
  obtain ⟨z3, hz3, hf⟩ := bd_some hf
  have hle := eqz_rt (mX12_noWord hz3) hle
  rcases ite_or hf with ⟨q, hf⟩ | ⟨q, hf⟩
  · have hf := if_t q hf
    obtain ⟨hk4, hf⟩ := gd_some hf
    obtain ⟨z5, hz5, hf⟩ := bd_some hf
    exact eqz_rt (mX12_textsWith_b22 hf) hle
  · have hf := if_f q hf
    exact eqz_rt (mX12_textsWith_b22 hf) hle
set_option maxRecDepth 100000 in
theorem wX12_textsWith {E : PE} {l : Launch} (hG : Gs E l) {v0 : Nat} {v1 : Int32} {h : PH} {r : (Int32 × PH)} (hf : fX12_textsWith v0 v1 h = some r) : Ct E l 3 0 0 yX12_textsWith cX12_textsWith 2 (some .int) [.ref v0, .int v1] h (fun v u => v = some (.int r.1) ∧ u = r.2) := by
  refine ct_of hG (by decide) (Nat.le_of_ble_eq_true rfl) ?_
  intro p e s m args below meth c X hnm
  show PW E p l e _ s m args below meth c _ 0 0 _ h 0 [(0, some (.ref v0)), (1, some (.int v1))] []
  unfold fX12_textsWith at hf
  refine p_aload_n X (dcg dc_X12_textsWith 0 rfl) rfl rfl ?_
  refine p_iconst (v := 0) X (dcg dc_X12_textsWith 1 rfl) (by decide) ?_
  obtain ⟨hk1, hf⟩ := gd_some hf
  refine p_putI X fl_X12_1 rfl (by decide) (fun q hq => by cases hq; rfl) rfl rfl (dcg dc_X12_textsWith 2 rfl) hk1 ?_
  obtain ⟨h2, rfl, hf⟩ := lt_some hf
  refine p_aload_n X (dcg dc_X12_textsWith 3 rfl) rfl rfl ?_
  refine p_iload_n X (dcg dc_X12_textsWith 4 rfl) rfl rfl ?_
  obtain ⟨z3, hz3, hf⟩ := bd_some hf
  refine p_callV (As := [_]) X ml_X12_240 (dcg dc_X12_textsWith 5 rfl) rfl rfl hk1 (wX12_noWord hG hz3) (by decide) (room4 (Nat.le_of_ble_eq_true rfl)) (Nat.le_refl _) (Nat.le_refl _) ?_
  rintro _ u9 ⟨rfl, e9⟩; have e9 := e9.symm; subst e9
  refine p_if_eq (tgt := 17) X (dcg dc_X12_textsWith 6 rfl) (by decide) (fun q => ?_) (fun q => ?_)
  · have hf := if_t q hf
    refine p_aload_n X (dcg dc_X12_textsWith 9 rfl) rfl rfl ?_
    refine p_iload_n X (dcg dc_X12_textsWith 10 rfl) rfl rfl ?_
    obtain ⟨hk4, hf⟩ := gd_some hf
    obtain ⟨z5, hz5, hf⟩ := bd_some hf
    refine p_callV (As := [_]) X ml_X12_246 (dcg dc_X12_textsWith 11 rfl) rfl rfl hk4 (wX12_manyWith hG hz5) (by decide) (room4 (Nat.le_of_ble_eq_true rfl)) (Nat.le_refl _) (Nat.le_refl _) ?_
    rintro _ u9 ⟨rfl, e9⟩; have e9 := e9.symm; subst e9
    refine p_pick [] ?_
    exact wX12_textsWith_b22 X hG hnm hf 
  · have hf := if_f q hf
    refine p_iconst (v := 0) X (dcg dc_X12_textsWith 7 rfl) (by decide) ?_
    refine p_goto (tgt := 22) X (dcg dc_X12_textsWith 8 rfl) (by decide) ?_
    refine p_pick [] ?_
    exact wX12_textsWith_b22 X hG hnm hf 
theorem dc_X12_isIn : decs cX12_isIn [(0, .aload_n 0, 1), (1, .iconst 0, 1), (2, .putfield 1, 3), (5, .aload_n 0, 1), (6, .iload_n 1, 1), (7, .invokevirtual 240, 3), (10, .ifCond .ne 39, 3), (13, .aload_n 0, 1), (14, .iload_n 2, 1), (15, .ifCond .lt 7, 3), (18, .iconst 1, 1), (19, .goto 4, 3), (22, .iconst 0, 1), (23, .iconst 2, 1), (24, .invokevirtual 156, 3), (27, .ifCond .ne 22, 3), (30, .iload_n 2, 1), (31, .bipush 100, 2), (33, .if_icmp .ge 16, 3), (36, .aload_n 0, 1), (37, .iload_n 2, 1), (38, .iload_n 1, 1), (39, .invokevirtual 234, 3), (42, .ifCond .eq 7, 3), (45, .iconst 1, 1), (46, .goto 4, 3), (49, .iconst 0, 1), (50, .ireturn, 1)] = true := by decide +kernel
noncomputable def fX12_isIn_b50 (t0 : Int32) (h : PH) : Option (Int32 × PH) :=
  gd (t0 &&& 1 = t0) (some ((t0, h)))
set_option maxRecDepth 100000 in
theorem mX12_isIn_b50 {t0 : Int32} {h : PH} {r : (Int32 × PH)} (hf : fX12_isIn_b50 t0 h = some r) : eqz h (hX r.2) (hV r.2) := by
  unfold fX12_isIn_b50 at hf
  have hle := eqz_rf h
  obtain ⟨hg4, hf⟩ := gd_some hf
  have ee := Option.some.inj hf; subst ee; exact hle
set_option maxRecDepth 100000 in
theorem wX12_isIn_b50 {E : PE} {p : Program} {l : Launch} {e : Env} {s : State} {m : MethodId} {args : Array Value} {below : List Frame} {meth : Method} {c : Code} (X : Cx E p l e (rmv 3 0 0) s m args below meth c RX12 cX12_isIn 3 (some .boolean)) (hG : Gs E l) (hnm : meth.name = yX12_isIn.name) {t0 : Int32} {h : PH} {r : (Int32 × PH)} (hf : fX12_isIn_b50 t0 h = some r)  : PW E p l e (rmv 3 0 0) s m args below meth c 3 0 0 (MQ below (QG E (fun v u => v = some (.int r.1) ∧ u = r.2)) args s 0 0 (pA E)) h 50 [] [.int t0] := by
  unfold fX12_isIn_b50 at hf
  obtain ⟨hg4, hf⟩ := gd_some hf
  have er := Option.some.inj hf
  subst er
  exact p_zret X rfl (congrArg Value.int hg4) (dcg dc_X12_isIn 27 rfl) ⟨rfl, rfl⟩ (Nat.le_refl _) (Nat.le_refl _)
noncomputable def fX12_isIn_b49  (h : PH) : Option (Int32 × PH) :=
  fX12_isIn_b50 (0 : Int32) h
set_option maxRecDepth 100000 in
theorem mX12_isIn_b49  {h : PH} {r : (Int32 × PH)} (hf : fX12_isIn_b49  h = some r) : eqz h (hX r.2) (hV r.2) := by
  unfold fX12_isIn_b49 at hf
  have hle := eqz_rf h
  exact eqz_rt (mX12_isIn_b50 hf) hle
set_option maxRecDepth 100000 in
theorem wX12_isIn_b49 {E : PE} {p : Program} {l : Launch} {e : Env} {s : State} {m : MethodId} {args : Array Value} {below : List Frame} {meth : Method} {c : Code} (X : Cx E p l e (rmv 3 0 0) s m args below meth c RX12 cX12_isIn 3 (some .boolean)) (hG : Gs E l) (hnm : meth.name = yX12_isIn.name)  {h : PH} {r : (Int32 × PH)} (hf : fX12_isIn_b49  h = some r)  : PW E p l e (rmv 3 0 0) s m args below meth c 3 0 0 (MQ below (QG E (fun v u => v = some (.int r.1) ∧ u = r.2)) args s 0 0 (pA E)) h 49 [] [] := by
  unfold fX12_isIn_b49 at hf
  refine p_iconst (v := 0) X (dcg dc_X12_isIn 26 rfl) (by decide) ?_
  refine p_pick [] ?_
  exact wX12_isIn_b50 X hG hnm hf 
noncomputable def fX12_isIn_b23 (v0 : Nat) (v1 : Int32) (v2 : Int32) (t0 : Option Nat) (t1 : Int32) (h : PH) : Option (Int32 × PH) :=
  gs t0 (fun a5 =>
  gd (hK h a5 = 12) (bd (fX12_fails a5 t1 (2 : Int32) h) (fun z8 =>
  if (¬ z8.1 = 0) then (fX12_isIn_b49  z8.2) else
  if ((100 : Int32) ≤ v2) then (fX12_isIn_b49  z8.2) else
  gd (hK z8.2 v0 = 12) (bd (fX12_has v0 v2 v1 z8.2) (fun z10 =>
  if (z10 = 0) then (fX12_isIn_b49  z8.2) else
  fX12_isIn_b50 (1 : Int32) z8.2)))))
set_option maxRecDepth 100000 in
theorem mX12_isIn_b23 {v0 : Nat} {v1 : Int32} {v2 : Int32} {t0 : Option Nat} {t1 : Int32} {h : PH} {r : (Int32 × PH)} (hf : fX12_isIn_b23 v0 v1 v2 t0 t1 h = some r) : eqz h (hX r.2) (hV r.2) := by
  unfold fX12_isIn_b23 at hf
  have hle := eqz_rf h
  obtain ⟨a5, e6, hf⟩ := gs_some hf
  obtain ⟨hk7, hf⟩ := gd_some hf
  obtain ⟨z8, hz8, hf⟩ := bd_some hf
  have hle := eqz_rt (mX12_fails hz8) hle
  rcases ite_or hf with ⟨q, hf⟩ | ⟨q, hf⟩
  · have hf := if_t q hf
    exact eqz_rt (mX12_isIn_b49 hf) hle
  · have hf := if_f q hf
    rcases ite_or hf with ⟨q, hf⟩ | ⟨q, hf⟩
    · have hf := if_t q hf
      exact eqz_rt (mX12_isIn_b49 hf) hle
    · have hf := if_f q hf
      obtain ⟨hk9, hf⟩ := gd_some hf
      obtain ⟨z10, hz10, hf⟩ := bd_some hf
      rcases ite_or hf with ⟨q, hf⟩ | ⟨q, hf⟩
      · have hf := if_t q hf
        exact eqz_rt (mX12_isIn_b49 hf) hle
      · have hf := if_f q hf
        exact eqz_rt (mX12_isIn_b50 hf) hle
set_option maxRecDepth 100000 in
theorem wX12_isIn_b23 {E : PE} {p : Program} {l : Launch} {e : Env} {s : State} {m : MethodId} {args : Array Value} {below : List Frame} {meth : Method} {c : Code} (X : Cx E p l e (rmv 3 0 0) s m args below meth c RX12 cX12_isIn 3 (some .boolean)) (hG : Gs E l) (hnm : meth.name = yX12_isIn.name) {v0 : Nat} {v1 : Int32} {v2 : Int32} {t0 : Option Nat} {t1 : Int32} {h : PH} {r : (Int32 × PH)} (hf : fX12_isIn_b23 v0 v1 v2 t0 t1 h = some r)  : PW E p l e (rmv 3 0 0) s m args below meth c 3 0 0 (MQ below (QG E (fun v u => v = some (.int r.1) ∧ u = r.2)) args s 0 0 (pA E)) h 23 [(0, some (.ref v0)), (1, some (.int v1)), (2, some (.int v2))] [.int t1, va_rf t0] := by
  unfold fX12_isIn_b23 at hf
  refine p_iconst (v := 2) X (dcg dc_X12_isIn 13 rfl) (by decide) ?_
  obtain ⟨a5, e6, hf⟩ := gs_some hf
  first | subst e6 | (try rw [e6])
  obtain ⟨hk7, hf⟩ := gd_some hf
  obtain ⟨z8, hz8, hf⟩ := bd_some hf
  refine p_callV (As := [_, _]) X ml_X12_156 (dcg dc_X12_isIn 14 rfl) rfl rfl hk7 (wX12_fails hG hz8) (by decide) (room4 (Nat.le_of_ble_eq_true rfl)) (Nat.le_refl _) (Nat.le_refl _) ?_
  rintro _ u9 ⟨rfl, e9⟩; have e9 := e9.symm; subst e9
  refine p_if_ne (tgt := 49) X (dcg dc_X12_isIn 15 rfl) (by decide) (fun q => ?_) (fun q => ?_)
  · have hf := if_t q hf
    refine p_pick [] ?_
    exact wX12_isIn_b49 X hG hnm hf 
  · have hf := if_f q hf
    refine p_iload_n X (dcg dc_X12_isIn 16 rfl) rfl rfl ?_
    refine p_bipush (v := 100) X (dcg dc_X12_isIn 17 rfl) (by decide) ?_
    refine p_icmp_ge (tgt := 49) X (dcg dc_X12_isIn 18 rfl) (by decide) (fun q => ?_) (fun q => ?_)
    · have hf := if_t q hf
      refine p_pick [] ?_
      exact wX12_isIn_b49 X hG hnm hf 
    · have hf := if_f q hf
      refine p_aload_n X (dcg dc_X12_isIn 19 rfl) rfl rfl ?_
      refine p_iload_n X (dcg dc_X12_isIn 20 rfl) rfl rfl ?_
      refine p_iload_n X (dcg dc_X12_isIn 21 rfl) rfl rfl ?_
      obtain ⟨hk9, hf⟩ := gd_some hf
      obtain ⟨z10, hz10, hf⟩ := bd_some hf
      refine p_callV (As := [_, _]) X ml_X12_234 (dcg dc_X12_isIn 22 rfl) rfl rfl hk9 (wX12_has hG hz10) (by decide) (room4 (Nat.le_of_ble_eq_true rfl)) (Nat.le_refl _) (Nat.le_refl _) ?_
      rintro _ u9 ⟨rfl, e9⟩; have e9 := e9.symm; subst e9
      refine p_if_eq (tgt := 49) X (dcg dc_X12_isIn 23 rfl) (by decide) (fun q => ?_) (fun q => ?_)
      · have hf := if_t q hf
        refine p_pick [] ?_
        exact wX12_isIn_b49 X hG hnm hf 
      · have hf := if_f q hf
        refine p_iconst (v := 1) X (dcg dc_X12_isIn 24 rfl) (by decide) ?_
        refine p_goto (tgt := 50) X (dcg dc_X12_isIn 25 rfl) (by decide) ?_
        refine p_pick [] ?_
        exact wX12_isIn_b50 X hG hnm hf 
noncomputable def fX12_isIn (v0 : Nat) (v1 : Int32) (v2 : Int32) (h : PH) : Option (Int32 × PH) :=
  gd (hK h v0 = 12) (lt (sI h 12 v0 0 (0 : Int32)) (fun h2 =>
  bd (fX12_noWord v0 v1 h2) (fun z3 =>
  if (¬ z3.1 = 0) then (fX12_isIn_b49  z3.2) else
  if (v2 < 0) then (fX12_isIn_b23 v0 v1 v2 (some v0) (0 : Int32) z3.2) else
  fX12_isIn_b23 v0 v1 v2 (some v0) (1 : Int32) z3.2)))
set_option maxRecDepth 100000 in
theorem mX12_isIn {v0 : Nat} {v1 : Int32} {v2 : Int32} {h : PH} {r : (Int32 × PH)} (hf : fX12_isIn v0 v1 v2 h = some r) : eqz h (hX r.2) (hV r.2) := by
  unfold fX12_isIn at hf
  have hle := eqz_rf h
  obtain ⟨hk1, hf⟩ := gd_some hf
  obtain ⟨h2, rfl, hf⟩ := lt_some hf
  obtain ⟨z3, hz3, hf⟩ := bd_some hf
  have hle := eqz_rt (mX12_noWord hz3) hle
  rcases ite_or hf with ⟨q, hf⟩ | ⟨q, hf⟩
  · have hf := if_t q hf
    exact eqz_rt (mX12_isIn_b49 hf) hle
  · have hf := if_f q hf
    rcases ite_or hf with ⟨q, hf⟩ | ⟨q, hf⟩
    · have hf := if_t q hf
      exact eqz_rt (mX12_isIn_b23 hf) hle
    · have hf := if_f q hf
      exact eqz_rt (mX12_isIn_b23 hf) hle
set_option maxRecDepth 100000 in
theorem wX12_isIn {E : PE} {l : Launch} (hG : Gs E l) {v0 : Nat} {v1 : Int32} {v2 : Int32} {h : PH} {r : (Int32 × PH)} (hf : fX12_isIn v0 v1 v2 h = some r) : Ct E l 3 0 0 yX12_isIn cX12_isIn 3 (some .boolean) [.ref v0, .int v1, .int v2] h (fun v u => v = some (.int r.1) ∧ u = r.2) := by
  refine ct_of hG (by decide) (Nat.le_of_ble_eq_true rfl) ?_
  intro p e s m args below meth c X hnm
  show PW E p l e _ s m args below meth c _ 0 0 _ h 0 [(0, some (.ref v0)), (1, some (.int v1)), (2, some (.int v2))] []
  unfold fX12_isIn at hf
  refine p_aload_n X (dcg dc_X12_isIn 0 rfl) rfl rfl ?_
  refine p_iconst (v := 0) X (dcg dc_X12_isIn 1 rfl) (by decide) ?_
  obtain ⟨hk1, hf⟩ := gd_some hf
  refine p_putI X fl_X12_1 rfl (by decide) (fun q hq => by cases hq; rfl) rfl rfl (dcg dc_X12_isIn 2 rfl) hk1 ?_
  obtain ⟨h2, rfl, hf⟩ := lt_some hf
  refine p_aload_n X (dcg dc_X12_isIn 3 rfl) rfl rfl ?_
  refine p_iload_n X (dcg dc_X12_isIn 4 rfl) rfl rfl ?_
  obtain ⟨z3, hz3, hf⟩ := bd_some hf
  refine p_callV (As := [_]) X ml_X12_240 (dcg dc_X12_isIn 5 rfl) rfl rfl hk1 (wX12_noWord hG hz3) (by decide) (room4 (Nat.le_of_ble_eq_true rfl)) (Nat.le_refl _) (Nat.le_refl _) ?_
  rintro _ u9 ⟨rfl, e9⟩; have e9 := e9.symm; subst e9
  refine p_if_ne (tgt := 49) X (dcg dc_X12_isIn 6 rfl) (by decide) (fun q => ?_) (fun q => ?_)
  · have hf := if_t q hf
    refine p_pick [] ?_
    exact wX12_isIn_b49 X hG hnm hf 
  · have hf := if_f q hf
    refine p_aload_n X (dcg dc_X12_isIn 7 rfl) rfl rfl ?_
    refine p_iload_n X (dcg dc_X12_isIn 8 rfl) rfl rfl ?_
    refine p_if_lt (tgt := 22) X (dcg dc_X12_isIn 9 rfl) (by decide) (fun q => ?_) (fun q => ?_)
    · have hf := if_t q hf
      refine p_iconst (v := 0) X (dcg dc_X12_isIn 12 rfl) (by decide) ?_
      refine p_pick [0, 1, 2] ?_
      exact wX12_isIn_b23 X hG hnm hf 
    · have hf := if_f q hf
      refine p_iconst (v := 1) X (dcg dc_X12_isIn 10 rfl) (by decide) ?_
      refine p_goto (tgt := 23) X (dcg dc_X12_isIn 11 rfl) (by decide) ?_
      refine p_pick [0, 1, 2] ?_
      exact wX12_isIn_b23 X hG hnm hf 
theorem dc_X12_nextWith : decs cX12_nextWith [(0, .aload_n 0, 1), (1, .iconst 0, 1), (2, .putfield 1, 3), (5, .aload_n 0, 1), (6, .iload_n 1, 1), (7, .invokevirtual 240, 3), (10, .ifCond .ne 20, 3), (13, .aload_n 0, 1), (14, .iload_n 2, 1), (15, .ifCond .lt 7, 3), (18, .iconst 1, 1), (19, .goto 4, 3), (22, .iconst 0, 1), (23, .iconst 2, 1), (24, .invokevirtual 156, 3), (27, .ifCond .eq 5, 3), (30, .iconst 0, 1), (31, .ireturn, 1), (32, .iload_n 2, 1), (33, .istore_n 3, 1), (34, .iload_n 3, 1), (35, .bipush 100, 2), (37, .if_icmp .ge 20, 3), (40, .aload_n 0, 1), (41, .iload_n 3, 1), (42, .iload_n 1, 1), (43, .invokevirtual 234, 3), (46, .ifCond .eq 5, 3), (49, .iload_n 3, 1), (50, .ireturn, 1), (51, .iinc 3 1, 3), (54, .goto (-20), 3), (57, .iconst (-1), 1), (58, .ireturn, 1)] = true := by decide +kernel
noncomputable def fX12_nextWith_b30  (h : PH) : Option (Int32 × PH) :=
  some (((0 : Int32), h))
set_option maxRecDepth 100000 in
theorem mX12_nextWith_b30  {h : PH} {r : (Int32 × PH)} (hf : fX12_nextWith_b30  h = some r) : eqz h (hX r.2) (hV r.2) := by
  unfold fX12_nextWith_b30 at hf
  have hle := eqz_rf h
  have ee := Option.some.inj hf; subst ee; exact hle
set_option maxRecDepth 100000 in
theorem wX12_nextWith_b30 {E : PE} {p : Program} {l : Launch} {e : Env} {s : State} {m : MethodId} {args : Array Value} {below : List Frame} {meth : Method} {c : Code} (X : Cx E p l e (rmv 3 0 0) s m args below meth c RX12 cX12_nextWith 4 (some .int)) (hG : Gs E l) (hnm : meth.name = yX12_nextWith.name)  {h : PH} {r : (Int32 × PH)} (hf : fX12_nextWith_b30  h = some r)  : PW E p l e (rmv 3 0 0) s m args below meth c 4 0 0 (MQ below (QG E (fun v u => v = some (.int r.1) ∧ u = r.2)) args s 0 0 (pA E)) h 30 [] [] := by
  unfold fX12_nextWith_b30 at hf
  refine p_iconst (v := 0) X (dcg dc_X12_nextWith 16 rfl) (by decide) ?_
  have er := Option.some.inj hf
  subst er
  exact p_iret X rfl (dcg dc_X12_nextWith 17 rfl) ⟨rfl, rfl⟩ (Nat.le_refl _) (Nat.le_refl _)
noncomputable def fX12_nextWith_c34 (v0 : Nat) (v1 : Int32) (v3 : Int32) (h : PH) : Option ((Int32) ⊕ (Int32 × PH)) :=
  if ((100 : Int32) ≤ v3) then (mr (some (((-1 : Int32), h)))) else
  gd (hK h v0 = 12) (bd (fX12_has v0 v3 v1 h) (fun z11 =>
  if (z11 = 0) then (some (.inl ((v3 + 1)))) else
  mr (some ((v3, h)))))
set_option maxRecDepth 100000 in
theorem mX12_nextWith_c34 {v0 : Nat} {v1 : Int32} {v3 : Int32} {h : PH} {x : ((Int32) ⊕ (Int32 × PH))} (hf : fX12_nextWith_c34 v0 v1 v3 h = some x) : (∀ w9 : (Int32 × PH), x = .inr w9 → eqz h (hX w9.2) (hV w9.2)) := by
  unfold fX12_nextWith_c34 at hf
  have hle := eqz_rf h
  rcases ite_or hf with ⟨q, hf⟩ | ⟨q, hf⟩
  · have hf := if_t q hf
    obtain ⟨y8, hfm, rfl⟩ := mr_some hf; have hf := hfm; clear hfm
    have ee := Option.some.inj hf; subst ee
    exact (fun z e => by have ee := Sum.inr.inj (e); subst ee; exact hle)
  · have hf := if_f q hf
    obtain ⟨hk10, hf⟩ := gd_some hf
    obtain ⟨z11, hz11, hf⟩ := bd_some hf
    rcases ite_or hf with ⟨q, hf⟩ | ⟨q, hf⟩
    · have hf := if_t q hf
      have ee := Option.some.inj hf; subst ee
      exact (fun z e => nomatch e)
    · have hf := if_f q hf
      obtain ⟨y12, hfm, rfl⟩ := mr_some hf; have hf := hfm; clear hfm
      have ee := Option.some.inj hf; subst ee
      exact (fun z e => by have ee := Sum.inr.inj (e); subst ee; exact hle)
set_option maxRecDepth 100000 in
theorem wX12_nextWith_c34 {E : PE} {p : Program} {l : Launch} {e : Env} {s : State} {m : MethodId} {args : Array Value} {below : List Frame} {meth : Method} {c : Code} (X : Cx E p l e (rmv 3 0 0) s m args below meth c RX12 cX12_nextWith 4 (some .int)) (hG : Gs E l) (hnm : meth.name = yX12_nextWith.name) {v0 : Nat} {v1 : Int32} {v3 : Int32} {h : PH} {r : (Int32 × PH)} {x : ((Int32) ⊕ (Int32 × PH))} (hf : fX12_nextWith_c34 v0 v1 v3 h = some x) (k0 : ∀ z : (Int32), x = .inl z → PW E p l e (rmv 3 0 0) s m args below meth c 4 0 0 (MQ below (QG E (fun v u => v = some (.int r.1) ∧ u = r.2)) args s 0 0 (pA E)) h 34 [(0, some (.ref v0)), (1, some (.int v1)), (3, some (.int (z)))] []) (kf : ∀ z : (Int32 × PH), x = .inr z → z = r) : PW E p l e (rmv 3 0 0) s m args below meth c 4 0 0 (MQ below (QG E (fun v u => v = some (.int r.1) ∧ u = r.2)) args s 0 0 (pA E)) h 34 [(0, some (.ref v0)), (1, some (.int v1)), (3, some (.int v3))] [] := by
  unfold fX12_nextWith_c34 at hf
  refine p_iload_n X (dcg dc_X12_nextWith 20 rfl) rfl rfl ?_
  refine p_bipush (v := 100) X (dcg dc_X12_nextWith 21 rfl) (by decide) ?_
  refine p_icmp_ge (tgt := 57) X (dcg dc_X12_nextWith 22 rfl) (by decide) (fun q => ?_) (fun q => ?_)
  · have hf := if_t q hf
    obtain ⟨y8, hf, hy9⟩ := mr_some hf
    have hy9f := kf y8 hy9
    subst hy9f
    refine p_iconst (v := -1) X (dcg dc_X12_nextWith 32 rfl) (by decide) ?_
    have er := Option.some.inj hf
    subst er
    exact p_iret X rfl (dcg dc_X12_nextWith 33 rfl) ⟨rfl, rfl⟩ (Nat.le_refl _) (Nat.le_refl _)
  · have hf := if_f q hf
    refine p_aload_n X (dcg dc_X12_nextWith 23 rfl) rfl rfl ?_
    refine p_iload_n X (dcg dc_X12_nextWith 24 rfl) rfl rfl ?_
    refine p_iload_n X (dcg dc_X12_nextWith 25 rfl) rfl rfl ?_
    obtain ⟨hk10, hf⟩ := gd_some hf
    obtain ⟨z11, hz11, hf⟩ := bd_some hf
    refine p_callV (As := [_, _]) X ml_X12_234 (dcg dc_X12_nextWith 26 rfl) rfl rfl hk10 (wX12_has hG hz11) (by decide) (room4 (Nat.le_of_ble_eq_true rfl)) (Nat.le_refl _) (Nat.le_refl _) ?_
    rintro _ u9 ⟨rfl, e9⟩; have e9 := e9.symm; subst e9
    refine p_if_eq (tgt := 51) X (dcg dc_X12_nextWith 27 rfl) (by decide) (fun q => ?_) (fun q => ?_)
    · have hf := if_t q hf
      refine p_iinc (v := 1) X (dcg dc_X12_nextWith 30 rfl) rfl (by decide) (by decide) rfl ?_
      refine p_goto (tgt := 34) X (dcg dc_X12_nextWith 31 rfl) (by decide) ?_
      refine p_pick [0, 1, 3] ?_
      exact k0 _ (Option.some.inj hf).symm
    · have hf := if_f q hf
      obtain ⟨y12, hf, hy13⟩ := mr_some hf
      have hy13f := kf y12 hy13
      subst hy13f
      refine p_iload_n X (dcg dc_X12_nextWith 28 rfl) rfl rfl ?_
      have er := Option.some.inj hf
      subst er
      exact p_iret X rfl (dcg dc_X12_nextWith 29 rfl) ⟨rfl, rfl⟩ (Nat.le_refl _) (Nat.le_refl _)
noncomputable def fX12_nextWith_l34 (v0 : Nat) (v1 : Int32) (v3 : Int32) (h : PH) : Option (Int32 × PH) := wh (fun z : (Int32) => fX12_nextWith_c34 v0 v1 (z) h) (v3)
set_option maxRecDepth 100000 in
theorem mX12_nextWith_l34 {v0 : Nat} {v1 : Int32} {v3 : Int32} {h : PH} {r : (Int32 × PH)} (hf : fX12_nextWith_l34 v0 v1 v3 h = some r) : eqz h (hX r.2) (hV r.2) := by
  unfold fX12_nextWith_l34 at hf
  refine wh_ind (P := fun z => eqz h (hX r.2) (hV r.2)) (fun z x0 hs i1 i2 => ?_) _ hf
  obtain cf := mX12_nextWith_c34 (v0 := v0) (v1 := v1) (v3 := z) (h := h) hs
  rcases hxx : x0 with zz | zz
  · exact (i1 zz hxx)
  · have ee := i2 zz hxx; subst ee; exact cf zz hxx
set_option maxRecDepth 100000 in
theorem wX12_nextWith_l34 {E : PE} {p : Program} {l : Launch} {e : Env} {s : State} {m : MethodId} {args : Array Value} {below : List Frame} {meth : Method} {c : Code} (X : Cx E p l e (rmv 3 0 0) s m args below meth c RX12 cX12_nextWith 4 (some .int)) (hG : Gs E l) (hnm : meth.name = yX12_nextWith.name) {v0 : Nat} {v1 : Int32} {v3 : Int32} {h : PH} {r : (Int32 × PH)} (hf : fX12_nextWith_l34 v0 v1 v3 h = some r)  : PW E p l e (rmv 3 0 0) s m args below meth c 4 0 0 (MQ below (QG E (fun v u => v = some (.int r.1) ∧ u = r.2)) args s 0 0 (pA E)) h 34 [(0, some (.ref v0)), (1, some (.int v1)), (3, some (.int v3))] [] := by
  unfold fX12_nextWith_l34 at hf
  refine wh_ind (P := fun z => PW E p l e (rmv 3 0 0) s m args below meth c 4 0 0 (MQ below (QG E (fun v u => v = some (.int r.1) ∧ u = r.2)) args s 0 0 (pA E)) h 34 [(0, some (.ref v0)), (1, some (.int v1)), (3, some (.int (z)))] []) (fun z x0 hs i1 i2 => ?_) _ hf
  exact wX12_nextWith_c34 (r := r) (v0 := v0) (v1 := v1) (v3 := z) (h := h) X hG hnm hs i1  i2
noncomputable def fX12_nextWith_b23 (v0 : Nat) (v1 : Int32) (v2 : Int32) (t0 : Option Nat) (t1 : Int32) (h : PH) : Option (Int32 × PH) :=
  gs t0 (fun a4 =>
  gd (hK h a4 = 12) (bd (fX12_fails a4 t1 (2 : Int32) h) (fun z7 =>
  if (z7.1 = 0) then (fX12_nextWith_l34 v0 v1 v2 z7.2) else
  fX12_nextWith_b30  z7.2)))
set_option maxRecDepth 100000 in
theorem mX12_nextWith_b23 {v0 : Nat} {v1 : Int32} {v2 : Int32} {t0 : Option Nat} {t1 : Int32} {h : PH} {r : (Int32 × PH)} (hf : fX12_nextWith_b23 v0 v1 v2 t0 t1 h = some r) : eqz h (hX r.2) (hV r.2) := by
  unfold fX12_nextWith_b23 at hf
  have hle := eqz_rf h
  obtain ⟨a4, e5, hf⟩ := gs_some hf
  obtain ⟨hk6, hf⟩ := gd_some hf
  obtain ⟨z7, hz7, hf⟩ := bd_some hf
  have hle := eqz_rt (mX12_fails hz7) hle
  rcases ite_or hf with ⟨q, hf⟩ | ⟨q, hf⟩
  · have hf := if_t q hf
    exact eqz_rt (mX12_nextWith_l34 hf) hle
  · have hf := if_f q hf
    exact eqz_rt (mX12_nextWith_b30 hf) hle
set_option maxRecDepth 100000 in
theorem wX12_nextWith_b23 {E : PE} {p : Program} {l : Launch} {e : Env} {s : State} {m : MethodId} {args : Array Value} {below : List Frame} {meth : Method} {c : Code} (X : Cx E p l e (rmv 3 0 0) s m args below meth c RX12 cX12_nextWith 4 (some .int)) (hG : Gs E l) (hnm : meth.name = yX12_nextWith.name) {v0 : Nat} {v1 : Int32} {v2 : Int32} {t0 : Option Nat} {t1 : Int32} {h : PH} {r : (Int32 × PH)} (hf : fX12_nextWith_b23 v0 v1 v2 t0 t1 h = some r)  : PW E p l e (rmv 3 0 0) s m args below meth c 4 0 0 (MQ below (QG E (fun v u => v = some (.int r.1) ∧ u = r.2)) args s 0 0 (pA E)) h 23 [(0, some (.ref v0)), (1, some (.int v1)), (2, some (.int v2))] [.int t1, va_rf t0] := by
  unfold fX12_nextWith_b23 at hf
  refine p_iconst (v := 2) X (dcg dc_X12_nextWith 13 rfl) (by decide) ?_
  obtain ⟨a4, e5, hf⟩ := gs_some hf
  first | subst e5 | (try rw [e5])
  obtain ⟨hk6, hf⟩ := gd_some hf
  obtain ⟨z7, hz7, hf⟩ := bd_some hf
  refine p_callV (As := [_, _]) X ml_X12_156 (dcg dc_X12_nextWith 14 rfl) rfl rfl hk6 (wX12_fails hG hz7) (by decide) (room4 (Nat.le_of_ble_eq_true rfl)) (Nat.le_refl _) (Nat.le_refl _) ?_
  rintro _ u9 ⟨rfl, e9⟩; have e9 := e9.symm; subst e9
  refine p_if_eq (tgt := 32) X (dcg dc_X12_nextWith 15 rfl) (by decide) (fun q => ?_) (fun q => ?_)
  · have hf := if_t q hf
    refine p_iload_n X (dcg dc_X12_nextWith 18 rfl) rfl rfl ?_
    refine p_istore_n X (dcg dc_X12_nextWith 19 rfl) rfl (by decide) rfl ?_
    refine p_pick [0, 1, 3] ?_
    exact wX12_nextWith_l34 X hG hnm hf 
  · have hf := if_f q hf
    refine p_pick [] ?_
    exact wX12_nextWith_b30 X hG hnm hf 
noncomputable def fX12_nextWith (v0 : Nat) (v1 : Int32) (v2 : Int32) (h : PH) : Option (Int32 × PH) :=
  gd (hK h v0 = 12) (lt (sI h 12 v0 0 (0 : Int32)) (fun h2 =>
  bd (fX12_noWord v0 v1 h2) (fun z3 =>
  if (¬ z3.1 = 0) then (fX12_nextWith_b30  z3.2) else
  if (v2 < 0) then (fX12_nextWith_b23 v0 v1 v2 (some v0) (0 : Int32) z3.2) else
  fX12_nextWith_b23 v0 v1 v2 (some v0) (1 : Int32) z3.2)))
set_option maxRecDepth 100000 in
theorem mX12_nextWith {v0 : Nat} {v1 : Int32} {v2 : Int32} {h : PH} {r : (Int32 × PH)} (hf : fX12_nextWith v0 v1 v2 h = some r) : eqz h (hX r.2) (hV r.2) := by
  unfold fX12_nextWith at hf
  have hle := eqz_rf h
  obtain ⟨hk1, hf⟩ := gd_some hf
  obtain ⟨h2, rfl, hf⟩ := lt_some hf
  obtain ⟨z3, hz3, hf⟩ := bd_some hf
  have hle := eqz_rt (mX12_noWord hz3) hle
  rcases ite_or hf with ⟨q, hf⟩ | ⟨q, hf⟩
  · have hf := if_t q hf
    exact eqz_rt (mX12_nextWith_b30 hf) hle
  · have hf := if_f q hf
    rcases ite_or hf with ⟨q, hf⟩ | ⟨q, hf⟩
    · have hf := if_t q hf
      exact eqz_rt (mX12_nextWith_b23 hf) hle
    · have hf := if_f q hf
      exact eqz_rt (mX12_nextWith_b23 hf) hle
set_option maxRecDepth 100000 in
theorem wX12_nextWith {E : PE} {l : Launch} (hG : Gs E l) {v0 : Nat} {v1 : Int32} {v2 : Int32} {h : PH} {r : (Int32 × PH)} (hf : fX12_nextWith v0 v1 v2 h = some r) : Ct E l 3 0 0 yX12_nextWith cX12_nextWith 4 (some .int) [.ref v0, .int v1, .int v2] h (fun v u => v = some (.int r.1) ∧ u = r.2) := by
  refine ct_of hG (by decide) (Nat.le_of_ble_eq_true rfl) ?_
  intro p e s m args below meth c X hnm
  show PW E p l e _ s m args below meth c _ 0 0 _ h 0 [(0, some (.ref v0)), (1, some (.int v1)), (2, some (.int v2))] []
  unfold fX12_nextWith at hf
  refine p_aload_n X (dcg dc_X12_nextWith 0 rfl) rfl rfl ?_
  refine p_iconst (v := 0) X (dcg dc_X12_nextWith 1 rfl) (by decide) ?_
  obtain ⟨hk1, hf⟩ := gd_some hf
  refine p_putI X fl_X12_1 rfl (by decide) (fun q hq => by cases hq; rfl) rfl rfl (dcg dc_X12_nextWith 2 rfl) hk1 ?_
  obtain ⟨h2, rfl, hf⟩ := lt_some hf
  refine p_aload_n X (dcg dc_X12_nextWith 3 rfl) rfl rfl ?_
  refine p_iload_n X (dcg dc_X12_nextWith 4 rfl) rfl rfl ?_
  obtain ⟨z3, hz3, hf⟩ := bd_some hf
  refine p_callV (As := [_]) X ml_X12_240 (dcg dc_X12_nextWith 5 rfl) rfl rfl hk1 (wX12_noWord hG hz3) (by decide) (room4 (Nat.le_of_ble_eq_true rfl)) (Nat.le_refl _) (Nat.le_refl _) ?_
  rintro _ u9 ⟨rfl, e9⟩; have e9 := e9.symm; subst e9
  refine p_if_ne (tgt := 30) X (dcg dc_X12_nextWith 6 rfl) (by decide) (fun q => ?_) (fun q => ?_)
  · have hf := if_t q hf
    refine p_pick [] ?_
    exact wX12_nextWith_b30 X hG hnm hf 
  · have hf := if_f q hf
    refine p_aload_n X (dcg dc_X12_nextWith 7 rfl) rfl rfl ?_
    refine p_iload_n X (dcg dc_X12_nextWith 8 rfl) rfl rfl ?_
    refine p_if_lt (tgt := 22) X (dcg dc_X12_nextWith 9 rfl) (by decide) (fun q => ?_) (fun q => ?_)
    · have hf := if_t q hf
      refine p_iconst (v := 0) X (dcg dc_X12_nextWith 12 rfl) (by decide) ?_
      refine p_pick [0, 1, 2] ?_
      exact wX12_nextWith_b23 X hG hnm hf 
    · have hf := if_f q hf
      refine p_iconst (v := 1) X (dcg dc_X12_nextWith 10 rfl) (by decide) ?_
      refine p_goto (tgt := 23) X (dcg dc_X12_nextWith 11 rfl) (by decide) ?_
      refine p_pick [0, 1, 2] ?_
      exact wX12_nextWith_b23 X hG hnm hf 
theorem dc_X12_places : decs cX12_places [(0, .aload_n 0, 1), (1, .iconst 0, 1), (2, .putfield 1, 3), (5, .aload_n 0, 1), (6, .iload_n 1, 1), (7, .invokevirtual 240, 3), (10, .ifCond .eq 5, 3), (13, .iconst 0, 1), (14, .ireturn, 1), (15, .iconst 0, 1), (16, .istore_n 2, 1), (17, .iconst 0, 1), (18, .istore_n 3, 1), (19, .iload_n 3, 1), (20, .bipush 100, 2), (22, .if_icmp .ge 57, 3), (25, .iconst 0, 1), (26, .istore 4, 2), (28, .aload_n 0, 1), (29, .getfield 20, 3), (32, .iload_n 3, 1), (33, .baload, 1), (34, .ifCond .eq 39, 3), (37, .iload 4, 2), (39, .aload_n 0, 1), (40, .getfield 27, 3), (43, .iload_n 3, 1), (44, .iaload, 1), (45, .if_icmp .ge 28, 3), (48, .iload_n 2, 1), (49, .aload_n 0, 1), (50, .iload_n 3, 1), (51, .iload 4, 2), (53, .invokevirtual 186, 3), (56, .iload_n 1, 1), (57, .if_icmp .ne 7, 3), (60, .iconst 1, 1), (61, .goto 4, 3), (64, .iconst 0, 1), (65, .iadd, 1), (66, .istore_n 2, 1), (67, .iinc 4 1, 3), (70, .goto (-42), 3), (73, .iinc 3 1, 3), (76, .goto (-57), 3), (79, .iload_n 2, 1), (80, .ireturn, 1)] = true := by decide +kernel
noncomputable def fX12_places_b73 (v0 : Nat) (v1 : Int32) (v2 : Int32) (v3 : Int32) (h : PH) : Option ((Int32 × Int32) ⊕ (Int32 × PH)) :=
  some (.inl (v2, (v3 + 1)))
set_option maxRecDepth 100000 in
theorem mX12_places_b73 {v0 : Nat} {v1 : Int32} {v2 : Int32} {v3 : Int32} {h : PH} {x : ((Int32 × Int32) ⊕ (Int32 × PH))} (hf : fX12_places_b73 v0 v1 v2 v3 h = some x) : (∀ w9 : (Int32 × PH), x = .inr w9 → eqz h (hX w9.2) (hV w9.2)) := by
  unfold fX12_places_b73 at hf
  have hle := eqz_rf h
  have ee := Option.some.inj hf; subst ee
  exact (fun z e => nomatch e)
set_option maxRecDepth 100000 in
theorem wX12_places_b73 {E : PE} {p : Program} {l : Launch} {e : Env} {s : State} {m : MethodId} {args : Array Value} {below : List Frame} {meth : Method} {c : Code} (X : Cx E p l e (rmv 3 0 0) s m args below meth c RX12 cX12_places 5 (some .int)) (hG : Gs E l) (hnm : meth.name = yX12_places.name) {v0 : Nat} {v1 : Int32} {v2 : Int32} {v3 : Int32} {h : PH} {r : (Int32 × PH)} {x : ((Int32 × Int32) ⊕ (Int32 × PH))} (hf : fX12_places_b73 v0 v1 v2 v3 h = some x) (k0 : ∀ z : (Int32 × Int32), x = .inl z → PW E p l e (rmv 3 0 0) s m args below meth c 5 0 0 (MQ below (QG E (fun v u => v = some (.int r.1) ∧ u = r.2)) args s 0 0 (pA E)) h 19 [(0, some (.ref v0)), (1, some (.int v1)), (2, some (.int (z.1))), (3, some (.int (z.2)))] []) (kf : ∀ z : (Int32 × PH), x = .inr z → z = r) : PW E p l e (rmv 3 0 0) s m args below meth c 5 0 0 (MQ below (QG E (fun v u => v = some (.int r.1) ∧ u = r.2)) args s 0 0 (pA E)) h 73 [(0, some (.ref v0)), (1, some (.int v1)), (2, some (.int v2)), (3, some (.int v3))] [] := by
  unfold fX12_places_b73 at hf
  refine p_iinc (v := 1) X (dcg dc_X12_places 43 rfl) rfl (by decide) (by decide) rfl ?_
  refine p_goto (tgt := 19) X (dcg dc_X12_places 44 rfl) (by decide) ?_
  refine p_pick [0, 1, 2, 3] ?_
  exact k0 _ (Option.some.inj hf).symm
noncomputable def fX12_places_b65 (v0 : Nat) (v1 : Int32) (v3 : Int32) (v4 : Int32) (t0 : Int32) (t1 : Int32) (h : PH) : Option ((Int32 × Int32) ⊕ ((Int32 × Int32) ⊕ (Int32 × PH))) :=
  some (.inl ((t0 + t1), (v4 + 1)))
set_option maxRecDepth 100000 in
theorem mX12_places_b65 {v0 : Nat} {v1 : Int32} {v3 : Int32} {v4 : Int32} {t0 : Int32} {t1 : Int32} {h : PH} {x : ((Int32 × Int32) ⊕ ((Int32 × Int32) ⊕ (Int32 × PH)))} (hf : fX12_places_b65 v0 v1 v3 v4 t0 t1 h = some x) : (∀ w9 : (Int32 × PH), x = .inr (.inr w9) → eqz h (hX w9.2) (hV w9.2)) := by
  unfold fX12_places_b65 at hf
  have hle := eqz_rf h
  have ee := Option.some.inj hf; subst ee
  exact (fun z e => nomatch e)
set_option maxRecDepth 100000 in
theorem wX12_places_b65 {E : PE} {p : Program} {l : Launch} {e : Env} {s : State} {m : MethodId} {args : Array Value} {below : List Frame} {meth : Method} {c : Code} (X : Cx E p l e (rmv 3 0 0) s m args below meth c RX12 cX12_places 5 (some .int)) (hG : Gs E l) (hnm : meth.name = yX12_places.name) {v0 : Nat} {v1 : Int32} {v3 : Int32} {v4 : Int32} {t0 : Int32} {t1 : Int32} {h : PH} {r : (Int32 × PH)} {x : ((Int32 × Int32) ⊕ ((Int32 × Int32) ⊕ (Int32 × PH)))} (hf : fX12_places_b65 v0 v1 v3 v4 t0 t1 h = some x) (k0 : ∀ z : (Int32 × Int32), x = .inl z → PW E p l e (rmv 3 0 0) s m args below meth c 5 0 0 (MQ below (QG E (fun v u => v = some (.int r.1) ∧ u = r.2)) args s 0 0 (pA E)) h 28 [(0, some (.ref v0)), (1, some (.int v1)), (2, some (.int (z.1))), (3, some (.int v3)), (4, some (.int (z.2)))] []) (k1 : ∀ z : (Int32 × Int32), x = .inr (.inl z) → PW E p l e (rmv 3 0 0) s m args below meth c 5 0 0 (MQ below (QG E (fun v u => v = some (.int r.1) ∧ u = r.2)) args s 0 0 (pA E)) h 19 [(0, some (.ref v0)), (1, some (.int v1)), (2, some (.int (z.1))), (3, some (.int (z.2)))] []) (kf : ∀ z : (Int32 × PH), x = .inr (.inr z) → z = r) : PW E p l e (rmv 3 0 0) s m args below meth c 5 0 0 (MQ below (QG E (fun v u => v = some (.int r.1) ∧ u = r.2)) args s 0 0 (pA E)) h 65 [(0, some (.ref v0)), (1, some (.int v1)), (3, some (.int v3)), (4, some (.int v4))] [.int t1, .int t0] := by
  unfold fX12_places_b65 at hf
  refine p_iadd X (dcg dc_X12_places 39 rfl) ?_
  refine p_istore_n X (dcg dc_X12_places 40 rfl) rfl (by decide) rfl ?_
  refine p_iinc (v := 1) X (dcg dc_X12_places 41 rfl) rfl (by decide) (by decide) rfl ?_
  refine p_goto (tgt := 28) X (dcg dc_X12_places 42 rfl) (by decide) ?_
  refine p_pick [0, 1, 2, 3, 4] ?_
  exact k0 _ (Option.some.inj hf).symm
noncomputable def fX12_places_c28 (v0 : Nat) (v1 : Int32) (v2 : Int32) (v3 : Int32) (v4 : Int32) (h : PH) : Option ((Int32 × Int32) ⊕ ((Int32 × Int32) ⊕ (Int32 × PH))) :=
  gd (hK h v0 = 12) (gs (hR h 12 v0 4) (fun a7 =>
  gd (hK h a7 = 21 ∧ inb v3 (hN h a7)) (if ((hI h 21 a7 (Int32.toNatClampNeg v3)) = 0) then (mr (fX12_places_b73 v0 v1 v2 v3 h)) else
  gs (hR h 12 v0 6) (fun a13 =>
  gd (hK h a13 = 20 ∧ inb v3 (hN h a13)) (if ((hI h 20 a13 (Int32.toNatClampNeg v3)) ≤ v4) then (mr (fX12_places_b73 v0 v1 v2 v3 h)) else
  bd (fX12_wordIn v0 v3 v4 h) (fun z19 =>
  if (¬ z19 = v1) then (fX12_places_b65 v0 v1 v3 v4 v2 (0 : Int32) h) else
  fX12_places_b65 v0 v1 v3 v4 v2 (1 : Int32) h))))))
set_option maxRecDepth 100000 in
theorem mX12_places_c28 {v0 : Nat} {v1 : Int32} {v2 : Int32} {v3 : Int32} {v4 : Int32} {h : PH} {x : ((Int32 × Int32) ⊕ ((Int32 × Int32) ⊕ (Int32 × PH)))} (hf : fX12_places_c28 v0 v1 v2 v3 v4 h = some x) : (∀ w9 : (Int32 × PH), x = .inr (.inr w9) → eqz h (hX w9.2) (hV w9.2)) := by
  unfold fX12_places_c28 at hf
  have hle := eqz_rf h
  obtain ⟨hk6, hf⟩ := gd_some hf
  obtain ⟨a7, e8, hf⟩ := gs_some hf
  obtain ⟨⟨hk10, hb9⟩, hf⟩ := gd_some hf
  rcases ite_or hf with ⟨q, hf⟩ | ⟨q, hf⟩
  · have hf := if_t q hf
    obtain ⟨y11, hfm, rfl⟩ := mr_some hf; have hf := hfm; clear hfm
    obtain cf := mX12_places_b73 hf
    exact fun z e => eqz_rt (cf z (Sum.inr.inj (e))) hle
  · have hf := if_f q hf
    obtain ⟨a13, e14, hf⟩ := gs_some hf
    obtain ⟨⟨hk16, hb15⟩, hf⟩ := gd_some hf
    rcases ite_or hf with ⟨q, hf⟩ | ⟨q, hf⟩
    · have hf := if_t q hf
      obtain ⟨y17, hfm, rfl⟩ := mr_some hf; have hf := hfm; clear hfm
      obtain cf := mX12_places_b73 hf
      exact fun z e => eqz_rt (cf z (Sum.inr.inj (e))) hle
    · have hf := if_f q hf
      obtain ⟨z19, hz19, hf⟩ := bd_some hf
      rcases ite_or hf with ⟨q, hf⟩ | ⟨q, hf⟩
      · have hf := if_t q hf
        obtain cf := mX12_places_b65 hf
        exact fun z e => eqz_rt (cf z (e)) hle
      · have hf := if_f q hf
        obtain cf := mX12_places_b65 hf
        exact fun z e => eqz_rt (cf z (e)) hle
set_option maxRecDepth 100000 in
theorem wX12_places_c28 {E : PE} {p : Program} {l : Launch} {e : Env} {s : State} {m : MethodId} {args : Array Value} {below : List Frame} {meth : Method} {c : Code} (X : Cx E p l e (rmv 3 0 0) s m args below meth c RX12 cX12_places 5 (some .int)) (hG : Gs E l) (hnm : meth.name = yX12_places.name) {v0 : Nat} {v1 : Int32} {v2 : Int32} {v3 : Int32} {v4 : Int32} {h : PH} {r : (Int32 × PH)} {x : ((Int32 × Int32) ⊕ ((Int32 × Int32) ⊕ (Int32 × PH)))} (hf : fX12_places_c28 v0 v1 v2 v3 v4 h = some x) (k0 : ∀ z : (Int32 × Int32), x = .inl z → PW E p l e (rmv 3 0 0) s m args below meth c 5 0 0 (MQ below (QG E (fun v u => v = some (.int r.1) ∧ u = r.2)) args s 0 0 (pA E)) h 28 [(0, some (.ref v0)), (1, some (.int v1)), (2, some (.int (z.1))), (3, some (.int v3)), (4, some (.int (z.2)))] []) (k1 : ∀ z : (Int32 × Int32), x = .inr (.inl z) → PW E p l e (rmv 3 0 0) s m args below meth c 5 0 0 (MQ below (QG E (fun v u => v = some (.int r.1) ∧ u = r.2)) args s 0 0 (pA E)) h 19 [(0, some (.ref v0)), (1, some (.int v1)), (2, some (.int (z.1))), (3, some (.int (z.2)))] []) (kf : ∀ z : (Int32 × PH), x = .inr (.inr z) → z = r) : PW E p l e (rmv 3 0 0) s m args below meth c 5 0 0 (MQ below (QG E (fun v u => v = some (.int r.1) ∧ u = r.2)) args s 0 0 (pA E)) h 28 [(0, some (.ref v0)), (1, some (.int v1)), (2, some (.int v2)), (3, some (.int v3)), (4, some (.int v4))] [] := by
  unfold fX12_places_c28 at hf
  refine p_aload_n X (dcg dc_X12_places 18 rfl) rfl rfl ?_
  obtain ⟨hk6, hf⟩ := gd_some hf
  refine p_getR X fl_X12_20 rfl (by decide) (dcg dc_X12_places 19 rfl) hk6 ?_
  refine p_iload_n X (dcg dc_X12_places 20 rfl) rfl rfl ?_
  obtain ⟨a7, e8, hf⟩ := gs_some hf
  first | subst e8 | (try rw [e8])
  obtain ⟨⟨hk10, hb9⟩, hf⟩ := gd_some hf
  refine p_zald X (dcg dc_X12_places 21 rfl) hk10 (vp_of_inb hb9) ?_
  refine p_if_eq (tgt := 73) X (dcg dc_X12_places 22 rfl) (by decide) (fun q => ?_) (fun q => ?_)
  · have hf := if_t q hf
    obtain ⟨y11, hf, hy12⟩ := mr_some hf
    refine p_pick [0, 1, 2, 3] ?_
    exact wX12_places_b73 X hG hnm hf (fun z0 e0 => k1 z0 (hy12.trans (congrArg Sum.inr e0))) (fun z0 e0 => kf z0 (hy12.trans (congrArg Sum.inr e0)))
  · have hf := if_f q hf
    refine p_iload X (dcg dc_X12_places 23 rfl) rfl ?_
    refine p_aload_n X (dcg dc_X12_places 24 rfl) rfl rfl ?_
    refine p_getR X fl_X12_27 rfl (by decide) (dcg dc_X12_places 25 rfl) hk6 ?_
    refine p_iload_n X (dcg dc_X12_places 26 rfl) rfl rfl ?_
    obtain ⟨a13, e14, hf⟩ := gs_some hf
    first | subst e14 | (try rw [e14])
    obtain ⟨⟨hk16, hb15⟩, hf⟩ := gd_some hf
    refine p_iald X (dcg dc_X12_places 27 rfl) hk16 (vp_of_inb hb15) ?_
    refine p_icmp_ge (tgt := 73) X (dcg dc_X12_places 28 rfl) (by decide) (fun q => ?_) (fun q => ?_)
    · have hf := if_t q hf
      obtain ⟨y17, hf, hy18⟩ := mr_some hf
      refine p_pick [0, 1, 2, 3] ?_
      exact wX12_places_b73 X hG hnm hf (fun z0 e0 => k1 z0 (hy18.trans (congrArg Sum.inr e0))) (fun z0 e0 => kf z0 (hy18.trans (congrArg Sum.inr e0)))
    · have hf := if_f q hf
      refine p_iload_n X (dcg dc_X12_places 29 rfl) rfl rfl ?_
      refine p_aload_n X (dcg dc_X12_places 30 rfl) rfl rfl ?_
      refine p_iload_n X (dcg dc_X12_places 31 rfl) rfl rfl ?_
      refine p_iload X (dcg dc_X12_places 32 rfl) rfl ?_
      obtain ⟨z19, hz19, hf⟩ := bd_some hf
      refine p_callV (As := [_, _]) X ml_X12_186 (dcg dc_X12_places 33 rfl) rfl rfl hk6 (wX12_wordIn hG hz19) (by decide) (room4 (Nat.le_of_ble_eq_true rfl)) (Nat.le_refl _) (Nat.le_refl _) ?_
      rintro _ u9 ⟨rfl, e9⟩; have e9 := e9.symm; subst e9
      refine p_iload_n X (dcg dc_X12_places 34 rfl) rfl rfl ?_
      refine p_icmp_ne (tgt := 64) X (dcg dc_X12_places 35 rfl) (by decide) (fun q => ?_) (fun q => ?_)
      · have hf := if_t q hf
        refine p_iconst (v := 0) X (dcg dc_X12_places 38 rfl) (by decide) ?_
        refine p_pick [0, 1, 3, 4] ?_
        exact wX12_places_b65 X hG hnm hf k0 k1 kf
      · have hf := if_f q hf
        refine p_iconst (v := 1) X (dcg dc_X12_places 36 rfl) (by decide) ?_
        refine p_goto (tgt := 65) X (dcg dc_X12_places 37 rfl) (by decide) ?_
        refine p_pick [0, 1, 3, 4] ?_
        exact wX12_places_b65 X hG hnm hf k0 k1 kf
noncomputable def fX12_places_l28 (v0 : Nat) (v1 : Int32) (v2 : Int32) (v3 : Int32) (v4 : Int32) (h : PH) : Option ((Int32 × Int32) ⊕ (Int32 × PH)) := wh (fun z : (Int32 × Int32) => fX12_places_c28 v0 v1 (z.1) v3 (z.2) h) (v2, v4)
set_option maxRecDepth 100000 in
theorem mX12_places_l28 {v0 : Nat} {v1 : Int32} {v2 : Int32} {v3 : Int32} {v4 : Int32} {h : PH} {x : ((Int32 × Int32) ⊕ (Int32 × PH))} (hf : fX12_places_l28 v0 v1 v2 v3 v4 h = some x) : (∀ w9 : (Int32 × PH), x = .inr w9 → eqz h (hX w9.2) (hV w9.2)) := by
  unfold fX12_places_l28 at hf
  refine wh_ind (P := fun z => (∀ w9 : (Int32 × PH), x = .inr w9 → eqz h (hX w9.2) (hV w9.2))) (fun z x0 hs i1 i2 => ?_) _ hf
  obtain cf := mX12_places_c28 (v0 := v0) (v1 := v1) (v2 := z.1) (v3 := v3) (v4 := z.2) (h := h) hs
  rcases hxx : x0 with zz | (zz | zz)
  · obtain d0 := (i1 zz hxx)
    exact d0
  · have ee := i2 _ hxx; subst ee
    exact (fun z1 e1 => nomatch e1)
  · have ee := i2 _ hxx; subst ee
    exact (fun z1 e1 => by cases e1; exact cf zz hxx)
set_option maxRecDepth 100000 in
theorem wX12_places_l28 {E : PE} {p : Program} {l : Launch} {e : Env} {s : State} {m : MethodId} {args : Array Value} {below : List Frame} {meth : Method} {c : Code} (X : Cx E p l e (rmv 3 0 0) s m args below meth c RX12 cX12_places 5 (some .int)) (hG : Gs E l) (hnm : meth.name = yX12_places.name) {v0 : Nat} {v1 : Int32} {v2 : Int32} {v3 : Int32} {v4 : Int32} {h : PH} {r : (Int32 × PH)} {x : ((Int32 × Int32) ⊕ (Int32 × PH))} (hf : fX12_places_l28 v0 v1 v2 v3 v4 h = some x) (k0 : ∀ z : (Int32 × Int32), x = .inl z → PW E p l e (rmv 3 0 0) s m args below meth c 5 0 0 (MQ below (QG E (fun v u => v = some (.int r.1) ∧ u = r.2)) args s 0 0 (pA E)) h 19 [(0, some (.ref v0)), (1, some (.int v1)), (2, some (.int (z.1))), (3, some (.int (z.2)))] []) (kf : ∀ z : (Int32 × PH), x = .inr z → z = r) : PW E p l e (rmv 3 0 0) s m args below meth c 5 0 0 (MQ below (QG E (fun v u => v = some (.int r.1) ∧ u = r.2)) args s 0 0 (pA E)) h 28 [(0, some (.ref v0)), (1, some (.int v1)), (2, some (.int v2)), (3, some (.int v3)), (4, some (.int v4))] [] := by
  unfold fX12_places_l28 at hf
  refine wh_ind (P := fun z => PW E p l e (rmv 3 0 0) s m args below meth c 5 0 0 (MQ below (QG E (fun v u => v = some (.int r.1) ∧ u = r.2)) args s 0 0 (pA E)) h 28 [(0, some (.ref v0)), (1, some (.int v1)), (2, some (.int (z.1))), (3, some (.int v3)), (4, some (.int (z.2)))] []) (fun z x0 hs i1 i2 => ?_) _ hf
  exact wX12_places_c28 (r := r) (v0 := v0) (v1 := v1) (v2 := z.1) (v3 := v3) (v4 := z.2) (h := h) X hG hnm hs i1 (fun z1 e1 => k0 z1 (i2 _ e1).symm) (fun z1 e1 => kf z1 (i2 _ e1).symm)
noncomputable def fX12_places_c19 (v0 : Nat) (v1 : Int32) (v2 : Int32) (v3 : Int32) (h : PH) : Option ((Int32 × Int32) ⊕ (Int32 × PH)) :=
  if ((100 : Int32) ≤ v3) then (mr (some ((v2, h)))) else
  fX12_places_l28 v0 v1 v2 v3 (0 : Int32) h
set_option maxRecDepth 100000 in
theorem mX12_places_c19 {v0 : Nat} {v1 : Int32} {v2 : Int32} {v3 : Int32} {h : PH} {x : ((Int32 × Int32) ⊕ (Int32 × PH))} (hf : fX12_places_c19 v0 v1 v2 v3 h = some x) : (∀ w9 : (Int32 × PH), x = .inr w9 → eqz h (hX w9.2) (hV w9.2)) := by
  unfold fX12_places_c19 at hf
  have hle := eqz_rf h
  rcases ite_or hf with ⟨q, hf⟩ | ⟨q, hf⟩
  · have hf := if_t q hf
    obtain ⟨y4, hfm, rfl⟩ := mr_some hf; have hf := hfm; clear hfm
    have ee := Option.some.inj hf; subst ee
    exact (fun z e => by have ee := Sum.inr.inj (e); subst ee; exact hle)
  · have hf := if_f q hf
    obtain cf := mX12_places_l28 hf
    exact fun z e => eqz_rt (cf z (e)) hle
set_option maxRecDepth 100000 in
theorem wX12_places_c19 {E : PE} {p : Program} {l : Launch} {e : Env} {s : State} {m : MethodId} {args : Array Value} {below : List Frame} {meth : Method} {c : Code} (X : Cx E p l e (rmv 3 0 0) s m args below meth c RX12 cX12_places 5 (some .int)) (hG : Gs E l) (hnm : meth.name = yX12_places.name) {v0 : Nat} {v1 : Int32} {v2 : Int32} {v3 : Int32} {h : PH} {r : (Int32 × PH)} {x : ((Int32 × Int32) ⊕ (Int32 × PH))} (hf : fX12_places_c19 v0 v1 v2 v3 h = some x) (k0 : ∀ z : (Int32 × Int32), x = .inl z → PW E p l e (rmv 3 0 0) s m args below meth c 5 0 0 (MQ below (QG E (fun v u => v = some (.int r.1) ∧ u = r.2)) args s 0 0 (pA E)) h 19 [(0, some (.ref v0)), (1, some (.int v1)), (2, some (.int (z.1))), (3, some (.int (z.2)))] []) (kf : ∀ z : (Int32 × PH), x = .inr z → z = r) : PW E p l e (rmv 3 0 0) s m args below meth c 5 0 0 (MQ below (QG E (fun v u => v = some (.int r.1) ∧ u = r.2)) args s 0 0 (pA E)) h 19 [(0, some (.ref v0)), (1, some (.int v1)), (2, some (.int v2)), (3, some (.int v3))] [] := by
  unfold fX12_places_c19 at hf
  refine p_iload_n X (dcg dc_X12_places 13 rfl) rfl rfl ?_
  refine p_bipush (v := 100) X (dcg dc_X12_places 14 rfl) (by decide) ?_
  refine p_icmp_ge (tgt := 79) X (dcg dc_X12_places 15 rfl) (by decide) (fun q => ?_) (fun q => ?_)
  · have hf := if_t q hf
    obtain ⟨y4, hf, hy5⟩ := mr_some hf
    have hy5f := kf y4 hy5
    subst hy5f
    refine p_iload_n X (dcg dc_X12_places 45 rfl) rfl rfl ?_
    have er := Option.some.inj hf
    subst er
    exact p_iret X rfl (dcg dc_X12_places 46 rfl) ⟨rfl, rfl⟩ (Nat.le_refl _) (Nat.le_refl _)
  · have hf := if_f q hf
    refine p_iconst (v := 0) X (dcg dc_X12_places 16 rfl) (by decide) ?_
    refine p_istore X (dcg dc_X12_places 17 rfl) (by decide) rfl ?_
    refine p_pick [0, 1, 2, 3, 4] ?_
    exact wX12_places_l28 X hG hnm hf k0 kf
noncomputable def fX12_places_l19 (v0 : Nat) (v1 : Int32) (v2 : Int32) (v3 : Int32) (h : PH) : Option (Int32 × PH) := wh (fun z : (Int32 × Int32) => fX12_places_c19 v0 v1 (z.1) (z.2) h) (v2, v3)
set_option maxRecDepth 100000 in
theorem mX12_places_l19 {v0 : Nat} {v1 : Int32} {v2 : Int32} {v3 : Int32} {h : PH} {r : (Int32 × PH)} (hf : fX12_places_l19 v0 v1 v2 v3 h = some r) : eqz h (hX r.2) (hV r.2) := by
  unfold fX12_places_l19 at hf
  refine wh_ind (P := fun z => eqz h (hX r.2) (hV r.2)) (fun z x0 hs i1 i2 => ?_) _ hf
  obtain cf := mX12_places_c19 (v0 := v0) (v1 := v1) (v2 := z.1) (v3 := z.2) (h := h) hs
  rcases hxx : x0 with zz | zz
  · exact (i1 zz hxx)
  · have ee := i2 zz hxx; subst ee; exact cf zz hxx
set_option maxRecDepth 100000 in
theorem wX12_places_l19 {E : PE} {p : Program} {l : Launch} {e : Env} {s : State} {m : MethodId} {args : Array Value} {below : List Frame} {meth : Method} {c : Code} (X : Cx E p l e (rmv 3 0 0) s m args below meth c RX12 cX12_places 5 (some .int)) (hG : Gs E l) (hnm : meth.name = yX12_places.name) {v0 : Nat} {v1 : Int32} {v2 : Int32} {v3 : Int32} {h : PH} {r : (Int32 × PH)} (hf : fX12_places_l19 v0 v1 v2 v3 h = some r)  : PW E p l e (rmv 3 0 0) s m args below meth c 5 0 0 (MQ below (QG E (fun v u => v = some (.int r.1) ∧ u = r.2)) args s 0 0 (pA E)) h 19 [(0, some (.ref v0)), (1, some (.int v1)), (2, some (.int v2)), (3, some (.int v3))] [] := by
  unfold fX12_places_l19 at hf
  refine wh_ind (P := fun z => PW E p l e (rmv 3 0 0) s m args below meth c 5 0 0 (MQ below (QG E (fun v u => v = some (.int r.1) ∧ u = r.2)) args s 0 0 (pA E)) h 19 [(0, some (.ref v0)), (1, some (.int v1)), (2, some (.int (z.1))), (3, some (.int (z.2)))] []) (fun z x0 hs i1 i2 => ?_) _ hf
  exact wX12_places_c19 (r := r) (v0 := v0) (v1 := v1) (v2 := z.1) (v3 := z.2) (h := h) X hG hnm hs i1  i2
noncomputable def fX12_places (v0 : Nat) (v1 : Int32) (h : PH) : Option (Int32 × PH) :=
  gd (hK h v0 = 12) (lt (sI h 12 v0 0 (0 : Int32)) (fun h2 =>
  bd (fX12_noWord v0 v1 h2) (fun z3 =>
  if (z3.1 = 0) then (fX12_places_l19 v0 v1 (0 : Int32) (0 : Int32) z3.2) else
  some (((0 : Int32), z3.2)))))
set_option maxRecDepth 100000 in
theorem mX12_places {v0 : Nat} {v1 : Int32} {h : PH} {r : (Int32 × PH)} (hf : fX12_places v0 v1 h = some r) : eqz h (hX r.2) (hV r.2) := by
  unfold fX12_places at hf
  have hle := eqz_rf h
  obtain ⟨hk1, hf⟩ := gd_some hf
  obtain ⟨h2, rfl, hf⟩ := lt_some hf
  obtain ⟨z3, hz3, hf⟩ := bd_some hf
  have hle := eqz_rt (mX12_noWord hz3) hle
  rcases ite_or hf with ⟨q, hf⟩ | ⟨q, hf⟩
  · have hf := if_t q hf
    exact eqz_rt (mX12_places_l19 hf) hle
  · have hf := if_f q hf
    have ee := Option.some.inj hf; subst ee; exact hle
set_option maxRecDepth 100000 in
theorem wX12_places {E : PE} {l : Launch} (hG : Gs E l) {v0 : Nat} {v1 : Int32} {h : PH} {r : (Int32 × PH)} (hf : fX12_places v0 v1 h = some r) : Ct E l 3 0 0 yX12_places cX12_places 5 (some .int) [.ref v0, .int v1] h (fun v u => v = some (.int r.1) ∧ u = r.2) := by
  refine ct_of hG (by decide) (Nat.le_of_ble_eq_true rfl) ?_
  intro p e s m args below meth c X hnm
  show PW E p l e _ s m args below meth c _ 0 0 _ h 0 [(0, some (.ref v0)), (1, some (.int v1))] []
  unfold fX12_places at hf
  refine p_aload_n X (dcg dc_X12_places 0 rfl) rfl rfl ?_
  refine p_iconst (v := 0) X (dcg dc_X12_places 1 rfl) (by decide) ?_
  obtain ⟨hk1, hf⟩ := gd_some hf
  refine p_putI X fl_X12_1 rfl (by decide) (fun q hq => by cases hq; rfl) rfl rfl (dcg dc_X12_places 2 rfl) hk1 ?_
  obtain ⟨h2, rfl, hf⟩ := lt_some hf
  refine p_aload_n X (dcg dc_X12_places 3 rfl) rfl rfl ?_
  refine p_iload_n X (dcg dc_X12_places 4 rfl) rfl rfl ?_
  obtain ⟨z3, hz3, hf⟩ := bd_some hf
  refine p_callV (As := [_]) X ml_X12_240 (dcg dc_X12_places 5 rfl) rfl rfl hk1 (wX12_noWord hG hz3) (by decide) (room4 (Nat.le_of_ble_eq_true rfl)) (Nat.le_refl _) (Nat.le_refl _) ?_
  rintro _ u9 ⟨rfl, e9⟩; have e9 := e9.symm; subst e9
  refine p_if_eq (tgt := 15) X (dcg dc_X12_places 6 rfl) (by decide) (fun q => ?_) (fun q => ?_)
  · have hf := if_t q hf
    refine p_iconst (v := 0) X (dcg dc_X12_places 9 rfl) (by decide) ?_
    refine p_istore_n X (dcg dc_X12_places 10 rfl) rfl (by decide) rfl ?_
    refine p_iconst (v := 0) X (dcg dc_X12_places 11 rfl) (by decide) ?_
    refine p_istore_n X (dcg dc_X12_places 12 rfl) rfl (by decide) rfl ?_
    refine p_pick [0, 1, 2, 3] ?_
    exact wX12_places_l19 X hG hnm hf 
  · have hf := if_f q hf
    refine p_iconst (v := 0) X (dcg dc_X12_places 7 rfl) (by decide) ?_
    have er := Option.some.inj hf
    subst er
    exact p_iret X rfl (dcg dc_X12_places 8 rfl) ⟨rfl, rfl⟩ (Nat.le_refl _) (Nat.le_refl _)
theorem dc_X12_placeIn : decs cX12_placeIn [(0, .aload_n 0, 1), (1, .iconst 0, 1), (2, .putfield 1, 3), (5, .aload_n 0, 1), (6, .iload_n 1, 1), (7, .invokevirtual 240, 3), (10, .ifCond .ne 35, 3), (13, .aload_n 0, 1), (14, .iload_n 2, 1), (15, .iconst 0, 1), (16, .bipush 99, 2), (18, .invokestatic 148, 3), (21, .ifCond .eq 16, 3), (24, .aload_n 0, 1), (25, .getfield 20, 3), (28, .iload_n 2, 1), (29, .baload, 1), (30, .ifCond .eq 7, 3), (33, .iconst 1, 1), (34, .goto 4, 3), (37, .iconst 0, 1), (38, .iconst 2, 1), (39, .invokevirtual 156, 3), (42, .ifCond .eq 5, 3), (45, .iconst 0, 1), (46, .ireturn, 1), (47, .iload_n 3, 1), (48, .istore 4, 2), (50, .iconst 0, 1), (51, .istore 5, 2), (53, .iload 5, 2), (55, .aload_n 0, 1), (56, .getfield 27, 3), (59, .iload_n 2, 1), (60, .iaload, 1), (61, .if_icmp .ge 39, 3), (64, .iload 4, 2), (66, .ifCond .lt 34, 3), (69, .aload_n 0, 1), (70, .iload_n 2, 1), (71, .iload 5, 2), (73, .invokevirtual 186, 3), (76, .iload_n 1, 1), (77, .if_icmp .eq 6, 3), (80, .goto 14, 3), (83, .iload 4, 2), (85, .ifCond .ne 6, 3), (88, .iload 5, 2), (90, .ireturn, 1), (91, .iinc 4 (-1), 3), (94, .iinc 5 1, 3), (97, .goto (-44), 3), (100, .iconst (-1), 1), (101, .ireturn, 1)] = true := by decide +kernel
noncomputable def fX12_placeIn_b45  (h : PH) : Option (Int32 × PH) :=
  some (((0 : Int32), h))
set_option maxRecDepth 100000 in
theorem mX12_placeIn_b45  {h : PH} {r : (Int32 × PH)} (hf : fX12_placeIn_b45  h = some r) : eqz h (hX r.2) (hV r.2) := by
  unfold fX12_placeIn_b45 at hf
  have hle := eqz_rf h
  have ee := Option.some.inj hf; subst ee; exact hle
set_option maxRecDepth 100000 in
theorem wX12_placeIn_b45 {E : PE} {p : Program} {l : Launch} {e : Env} {s : State} {m : MethodId} {args : Array Value} {below : List Frame} {meth : Method} {c : Code} (X : Cx E p l e (rmv 3 0 0) s m args below meth c RX12 cX12_placeIn 6 (some .int)) (hG : Gs E l) (hnm : meth.name = yX12_placeIn.name)  {h : PH} {r : (Int32 × PH)} (hf : fX12_placeIn_b45  h = some r)  : PW E p l e (rmv 3 0 0) s m args below meth c 6 0 0 (MQ below (QG E (fun v u => v = some (.int r.1) ∧ u = r.2)) args s 0 0 (pA E)) h 45 [] [] := by
  unfold fX12_placeIn_b45 at hf
  refine p_iconst (v := 0) X (dcg dc_X12_placeIn 24 rfl) (by decide) ?_
  have er := Option.some.inj hf
  subst er
  exact p_iret X rfl (dcg dc_X12_placeIn 25 rfl) ⟨rfl, rfl⟩ (Nat.le_refl _) (Nat.le_refl _)
noncomputable def fX12_placeIn_b100  (h : PH) : Option (Int32 × PH) :=
  some (((-1 : Int32), h))
set_option maxRecDepth 100000 in
theorem mX12_placeIn_b100  {h : PH} {r : (Int32 × PH)} (hf : fX12_placeIn_b100  h = some r) : eqz h (hX r.2) (hV r.2) := by
  unfold fX12_placeIn_b100 at hf
  have hle := eqz_rf h
  have ee := Option.some.inj hf; subst ee; exact hle
set_option maxRecDepth 100000 in
theorem wX12_placeIn_b100 {E : PE} {p : Program} {l : Launch} {e : Env} {s : State} {m : MethodId} {args : Array Value} {below : List Frame} {meth : Method} {c : Code} (X : Cx E p l e (rmv 3 0 0) s m args below meth c RX12 cX12_placeIn 6 (some .int)) (hG : Gs E l) (hnm : meth.name = yX12_placeIn.name)  {h : PH} {r : (Int32 × PH)} (hf : fX12_placeIn_b100  h = some r)  : PW E p l e (rmv 3 0 0) s m args below meth c 6 0 0 (MQ below (QG E (fun v u => v = some (.int r.1) ∧ u = r.2)) args s 0 0 (pA E)) h 100 [] [] := by
  unfold fX12_placeIn_b100 at hf
  refine p_iconst (v := -1) X (dcg dc_X12_placeIn 52 rfl) (by decide) ?_
  have er := Option.some.inj hf
  subst er
  exact p_iret X rfl (dcg dc_X12_placeIn 53 rfl) ⟨rfl, rfl⟩ (Nat.le_refl _) (Nat.le_refl _)
noncomputable def fX12_placeIn_b94 (v0 : Nat) (v1 : Int32) (v2 : Int32) (v4 : Int32) (v5 : Int32) (h : PH) : Option ((Int32 × Int32) ⊕ (Int32 × PH)) :=
  some (.inl (v4, (v5 + 1)))
set_option maxRecDepth 100000 in
theorem mX12_placeIn_b94 {v0 : Nat} {v1 : Int32} {v2 : Int32} {v4 : Int32} {v5 : Int32} {h : PH} {x : ((Int32 × Int32) ⊕ (Int32 × PH))} (hf : fX12_placeIn_b94 v0 v1 v2 v4 v5 h = some x) : (∀ w9 : (Int32 × PH), x = .inr w9 → eqz h (hX w9.2) (hV w9.2)) := by
  unfold fX12_placeIn_b94 at hf
  have hle := eqz_rf h
  have ee := Option.some.inj hf; subst ee
  exact (fun z e => nomatch e)
set_option maxRecDepth 100000 in
theorem wX12_placeIn_b94 {E : PE} {p : Program} {l : Launch} {e : Env} {s : State} {m : MethodId} {args : Array Value} {below : List Frame} {meth : Method} {c : Code} (X : Cx E p l e (rmv 3 0 0) s m args below meth c RX12 cX12_placeIn 6 (some .int)) (hG : Gs E l) (hnm : meth.name = yX12_placeIn.name) {v0 : Nat} {v1 : Int32} {v2 : Int32} {v4 : Int32} {v5 : Int32} {h : PH} {r : (Int32 × PH)} {x : ((Int32 × Int32) ⊕ (Int32 × PH))} (hf : fX12_placeIn_b94 v0 v1 v2 v4 v5 h = some x) (k0 : ∀ z : (Int32 × Int32), x = .inl z → PW E p l e (rmv 3 0 0) s m args below meth c 6 0 0 (MQ below (QG E (fun v u => v = some (.int r.1) ∧ u = r.2)) args s 0 0 (pA E)) h 53 [(0, some (.ref v0)), (1, some (.int v1)), (2, some (.int v2)), (4, some (.int (z.1))), (5, some (.int (z.2)))] []) (kf : ∀ z : (Int32 × PH), x = .inr z → z = r) : PW E p l e (rmv 3 0 0) s m args below meth c 6 0 0 (MQ below (QG E (fun v u => v = some (.int r.1) ∧ u = r.2)) args s 0 0 (pA E)) h 94 [(0, some (.ref v0)), (1, some (.int v1)), (2, some (.int v2)), (4, some (.int v4)), (5, some (.int v5))] [] := by
  unfold fX12_placeIn_b94 at hf
  refine p_iinc (v := 1) X (dcg dc_X12_placeIn 50 rfl) rfl (by decide) (by decide) rfl ?_
  refine p_goto (tgt := 53) X (dcg dc_X12_placeIn 51 rfl) (by decide) ?_
  refine p_pick [0, 1, 2, 4, 5] ?_
  exact k0 _ (Option.some.inj hf).symm
noncomputable def fX12_placeIn_c53 (v0 : Nat) (v1 : Int32) (v2 : Int32) (v4 : Int32) (v5 : Int32) (h : PH) : Option ((Int32 × Int32) ⊕ (Int32 × PH)) :=
  gd (hK h v0 = 12) (gs (hR h 12 v0 6) (fun a10 =>
  gd (hK h a10 = 20 ∧ inb v2 (hN h a10)) (if ((hI h 20 a10 (Int32.toNatClampNeg v2)) ≤ v5) then (mr (fX12_placeIn_b100  h)) else
  if (v4 < 0) then (mr (fX12_placeIn_b100  h)) else
  bd (fX12_wordIn v0 v2 v5 h) (fun z18 =>
  if (z18 = v1) then (if (¬ v4 = 0) then (fX12_placeIn_b94 v0 v1 v2 (v4 + (-1)) v5 h) else
  mr (some ((v5, h)))) else
  fX12_placeIn_b94 v0 v1 v2 v4 v5 h))))
set_option maxRecDepth 100000 in
theorem mX12_placeIn_c53 {v0 : Nat} {v1 : Int32} {v2 : Int32} {v4 : Int32} {v5 : Int32} {h : PH} {x : ((Int32 × Int32) ⊕ (Int32 × PH))} (hf : fX12_placeIn_c53 v0 v1 v2 v4 v5 h = some x) : (∀ w9 : (Int32 × PH), x = .inr w9 → eqz h (hX w9.2) (hV w9.2)) := by
  unfold fX12_placeIn_c53 at hf
  have hle := eqz_rf h
  obtain ⟨hk9, hf⟩ := gd_some hf
  obtain ⟨a10, e11, hf⟩ := gs_some hf
  obtain ⟨⟨hk13, hb12⟩, hf⟩ := gd_some hf
  rcases ite_or hf with ⟨q, hf⟩ | ⟨q, hf⟩
  · have hf := if_t q hf
    obtain ⟨y14, hfm, rfl⟩ := mr_some hf; have hf := hfm; clear hfm
    have cf := mX12_placeIn_b100 hf
    exact (fun z e => by cases e <;> exact eqz_rt cf hle)
  · have hf := if_f q hf
    rcases ite_or hf with ⟨q, hf⟩ | ⟨q, hf⟩
    · have hf := if_t q hf
      obtain ⟨y16, hfm, rfl⟩ := mr_some hf; have hf := hfm; clear hfm
      have cf := mX12_placeIn_b100 hf
      exact (fun z e => by cases e <;> exact eqz_rt cf hle)
    · have hf := if_f q hf
      obtain ⟨z18, hz18, hf⟩ := bd_some hf
      rcases ite_or hf with ⟨q, hf⟩ | ⟨q, hf⟩
      · have hf := if_t q hf
        rcases ite_or hf with ⟨q, hf⟩ | ⟨q, hf⟩
        · have hf := if_t q hf
          obtain cf := mX12_placeIn_b94 hf
          exact fun z e => eqz_rt (cf z (e)) hle
        · have hf := if_f q hf
          obtain ⟨y19, hfm, rfl⟩ := mr_some hf; have hf := hfm; clear hfm
          have ee := Option.some.inj hf; subst ee
          exact (fun z e => by have ee := Sum.inr.inj (e); subst ee; exact hle)
      · have hf := if_f q hf
        obtain cf := mX12_placeIn_b94 hf
        exact fun z e => eqz_rt (cf z (e)) hle
set_option maxRecDepth 100000 in
theorem wX12_placeIn_c53 {E : PE} {p : Program} {l : Launch} {e : Env} {s : State} {m : MethodId} {args : Array Value} {below : List Frame} {meth : Method} {c : Code} (X : Cx E p l e (rmv 3 0 0) s m args below meth c RX12 cX12_placeIn 6 (some .int)) (hG : Gs E l) (hnm : meth.name = yX12_placeIn.name) {v0 : Nat} {v1 : Int32} {v2 : Int32} {v4 : Int32} {v5 : Int32} {h : PH} {r : (Int32 × PH)} {x : ((Int32 × Int32) ⊕ (Int32 × PH))} (hf : fX12_placeIn_c53 v0 v1 v2 v4 v5 h = some x) (k0 : ∀ z : (Int32 × Int32), x = .inl z → PW E p l e (rmv 3 0 0) s m args below meth c 6 0 0 (MQ below (QG E (fun v u => v = some (.int r.1) ∧ u = r.2)) args s 0 0 (pA E)) h 53 [(0, some (.ref v0)), (1, some (.int v1)), (2, some (.int v2)), (4, some (.int (z.1))), (5, some (.int (z.2)))] []) (kf : ∀ z : (Int32 × PH), x = .inr z → z = r) : PW E p l e (rmv 3 0 0) s m args below meth c 6 0 0 (MQ below (QG E (fun v u => v = some (.int r.1) ∧ u = r.2)) args s 0 0 (pA E)) h 53 [(0, some (.ref v0)), (1, some (.int v1)), (2, some (.int v2)), (4, some (.int v4)), (5, some (.int v5))] [] := by
  unfold fX12_placeIn_c53 at hf
  refine p_iload X (dcg dc_X12_placeIn 30 rfl) rfl ?_
  refine p_aload_n X (dcg dc_X12_placeIn 31 rfl) rfl rfl ?_
  obtain ⟨hk9, hf⟩ := gd_some hf
  refine p_getR X fl_X12_27 rfl (by decide) (dcg dc_X12_placeIn 32 rfl) hk9 ?_
  refine p_iload_n X (dcg dc_X12_placeIn 33 rfl) rfl rfl ?_
  obtain ⟨a10, e11, hf⟩ := gs_some hf
  first | subst e11 | (try rw [e11])
  obtain ⟨⟨hk13, hb12⟩, hf⟩ := gd_some hf
  refine p_iald X (dcg dc_X12_placeIn 34 rfl) hk13 (vp_of_inb hb12) ?_
  refine p_icmp_ge (tgt := 100) X (dcg dc_X12_placeIn 35 rfl) (by decide) (fun q => ?_) (fun q => ?_)
  · have hf := if_t q hf
    obtain ⟨y14, hf, hy15⟩ := mr_some hf
    have hy15f := kf y14 hy15
    subst hy15f
    refine p_pick [] ?_
    exact wX12_placeIn_b100 X hG hnm hf 
  · have hf := if_f q hf
    refine p_iload X (dcg dc_X12_placeIn 36 rfl) rfl ?_
    refine p_if_lt (tgt := 100) X (dcg dc_X12_placeIn 37 rfl) (by decide) (fun q => ?_) (fun q => ?_)
    · have hf := if_t q hf
      obtain ⟨y16, hf, hy17⟩ := mr_some hf
      have hy17f := kf y16 hy17
      subst hy17f
      refine p_pick [] ?_
      exact wX12_placeIn_b100 X hG hnm hf 
    · have hf := if_f q hf
      refine p_aload_n X (dcg dc_X12_placeIn 38 rfl) rfl rfl ?_
      refine p_iload_n X (dcg dc_X12_placeIn 39 rfl) rfl rfl ?_
      refine p_iload X (dcg dc_X12_placeIn 40 rfl) rfl ?_
      obtain ⟨z18, hz18, hf⟩ := bd_some hf
      refine p_callV (As := [_, _]) X ml_X12_186 (dcg dc_X12_placeIn 41 rfl) rfl rfl hk9 (wX12_wordIn hG hz18) (by decide) (room4 (Nat.le_of_ble_eq_true rfl)) (Nat.le_refl _) (Nat.le_refl _) ?_
      rintro _ u9 ⟨rfl, e9⟩; have e9 := e9.symm; subst e9
      refine p_iload_n X (dcg dc_X12_placeIn 42 rfl) rfl rfl ?_
      refine p_icmp_eq (tgt := 83) X (dcg dc_X12_placeIn 43 rfl) (by decide) (fun q => ?_) (fun q => ?_)
      · have hf := if_t q hf
        refine p_iload X (dcg dc_X12_placeIn 45 rfl) rfl ?_
        refine p_if_ne (tgt := 91) X (dcg dc_X12_placeIn 46 rfl) (by decide) (fun q => ?_) (fun q => ?_)
        · have hf := if_t q hf
          refine p_iinc (v := -1) X (dcg dc_X12_placeIn 49 rfl) rfl (by decide) (by decide) rfl ?_
          refine p_pick [0, 1, 2, 4, 5] ?_
          exact wX12_placeIn_b94 X hG hnm hf k0 kf
        · have hf := if_f q hf
          obtain ⟨y19, hf, hy20⟩ := mr_some hf
          have hy20f := kf y19 hy20
          subst hy20f
          refine p_iload X (dcg dc_X12_placeIn 47 rfl) rfl ?_
          have er := Option.some.inj hf
          subst er
          exact p_iret X rfl (dcg dc_X12_placeIn 48 rfl) ⟨rfl, rfl⟩ (Nat.le_refl _) (Nat.le_refl _)
      · have hf := if_f q hf
        refine p_goto (tgt := 94) X (dcg dc_X12_placeIn 44 rfl) (by decide) ?_
        refine p_pick [0, 1, 2, 4, 5] ?_
        exact wX12_placeIn_b94 X hG hnm hf k0 kf
noncomputable def fX12_placeIn_l53 (v0 : Nat) (v1 : Int32) (v2 : Int32) (v4 : Int32) (v5 : Int32) (h : PH) : Option (Int32 × PH) := wh (fun z : (Int32 × Int32) => fX12_placeIn_c53 v0 v1 v2 (z.1) (z.2) h) (v4, v5)
set_option maxRecDepth 100000 in
theorem mX12_placeIn_l53 {v0 : Nat} {v1 : Int32} {v2 : Int32} {v4 : Int32} {v5 : Int32} {h : PH} {r : (Int32 × PH)} (hf : fX12_placeIn_l53 v0 v1 v2 v4 v5 h = some r) : eqz h (hX r.2) (hV r.2) := by
  unfold fX12_placeIn_l53 at hf
  refine wh_ind (P := fun z => eqz h (hX r.2) (hV r.2)) (fun z x0 hs i1 i2 => ?_) _ hf
  obtain cf := mX12_placeIn_c53 (v0 := v0) (v1 := v1) (v2 := v2) (v4 := z.1) (v5 := z.2) (h := h) hs
  rcases hxx : x0 with zz | zz
  · exact (i1 zz hxx)
  · have ee := i2 zz hxx; subst ee; exact cf zz hxx
set_option maxRecDepth 100000 in
theorem wX12_placeIn_l53 {E : PE} {p : Program} {l : Launch} {e : Env} {s : State} {m : MethodId} {args : Array Value} {below : List Frame} {meth : Method} {c : Code} (X : Cx E p l e (rmv 3 0 0) s m args below meth c RX12 cX12_placeIn 6 (some .int)) (hG : Gs E l) (hnm : meth.name = yX12_placeIn.name) {v0 : Nat} {v1 : Int32} {v2 : Int32} {v4 : Int32} {v5 : Int32} {h : PH} {r : (Int32 × PH)} (hf : fX12_placeIn_l53 v0 v1 v2 v4 v5 h = some r)  : PW E p l e (rmv 3 0 0) s m args below meth c 6 0 0 (MQ below (QG E (fun v u => v = some (.int r.1) ∧ u = r.2)) args s 0 0 (pA E)) h 53 [(0, some (.ref v0)), (1, some (.int v1)), (2, some (.int v2)), (4, some (.int v4)), (5, some (.int v5))] [] := by
  unfold fX12_placeIn_l53 at hf
  refine wh_ind (P := fun z => PW E p l e (rmv 3 0 0) s m args below meth c 6 0 0 (MQ below (QG E (fun v u => v = some (.int r.1) ∧ u = r.2)) args s 0 0 (pA E)) h 53 [(0, some (.ref v0)), (1, some (.int v1)), (2, some (.int v2)), (4, some (.int (z.1))), (5, some (.int (z.2)))] []) (fun z x0 hs i1 i2 => ?_) _ hf
  exact wX12_placeIn_c53 (r := r) (v0 := v0) (v1 := v1) (v2 := v2) (v4 := z.1) (v5 := z.2) (h := h) X hG hnm hs i1  i2
noncomputable def fX12_placeIn_b38 (v0 : Nat) (v1 : Int32) (v2 : Int32) (v3 : Int32) (t0 : Option Nat) (t1 : Int32) (h : PH) : Option (Int32 × PH) :=
  gs t0 (fun a5 =>
  gd (hK h a5 = 12) (bd (fX12_fails a5 t1 (2 : Int32) h) (fun z8 =>
  if (z8.1 = 0) then (fX12_placeIn_l53 v0 v1 v2 v3 (0 : Int32) z8.2) else
  fX12_placeIn_b45  z8.2)))
set_option maxRecDepth 100000 in
theorem mX12_placeIn_b38 {v0 : Nat} {v1 : Int32} {v2 : Int32} {v3 : Int32} {t0 : Option Nat} {t1 : Int32} {h : PH} {r : (Int32 × PH)} (hf : fX12_placeIn_b38 v0 v1 v2 v3 t0 t1 h = some r) : eqz h (hX r.2) (hV r.2) := by
  unfold fX12_placeIn_b38 at hf
  have hle := eqz_rf h
  obtain ⟨a5, e6, hf⟩ := gs_some hf
  obtain ⟨hk7, hf⟩ := gd_some hf
  obtain ⟨z8, hz8, hf⟩ := bd_some hf
  have hle := eqz_rt (mX12_fails hz8) hle
  rcases ite_or hf with ⟨q, hf⟩ | ⟨q, hf⟩
  · have hf := if_t q hf
    exact eqz_rt (mX12_placeIn_l53 hf) hle
  · have hf := if_f q hf
    exact eqz_rt (mX12_placeIn_b45 hf) hle
set_option maxRecDepth 100000 in
theorem wX12_placeIn_b38 {E : PE} {p : Program} {l : Launch} {e : Env} {s : State} {m : MethodId} {args : Array Value} {below : List Frame} {meth : Method} {c : Code} (X : Cx E p l e (rmv 3 0 0) s m args below meth c RX12 cX12_placeIn 6 (some .int)) (hG : Gs E l) (hnm : meth.name = yX12_placeIn.name) {v0 : Nat} {v1 : Int32} {v2 : Int32} {v3 : Int32} {t0 : Option Nat} {t1 : Int32} {h : PH} {r : (Int32 × PH)} (hf : fX12_placeIn_b38 v0 v1 v2 v3 t0 t1 h = some r)  : PW E p l e (rmv 3 0 0) s m args below meth c 6 0 0 (MQ below (QG E (fun v u => v = some (.int r.1) ∧ u = r.2)) args s 0 0 (pA E)) h 38 [(0, some (.ref v0)), (1, some (.int v1)), (2, some (.int v2)), (3, some (.int v3))] [.int t1, va_rf t0] := by
  unfold fX12_placeIn_b38 at hf
  refine p_iconst (v := 2) X (dcg dc_X12_placeIn 21 rfl) (by decide) ?_
  obtain ⟨a5, e6, hf⟩ := gs_some hf
  first | subst e6 | (try rw [e6])
  obtain ⟨hk7, hf⟩ := gd_some hf
  obtain ⟨z8, hz8, hf⟩ := bd_some hf
  refine p_callV (As := [_, _]) X ml_X12_156 (dcg dc_X12_placeIn 22 rfl) rfl rfl hk7 (wX12_fails hG hz8) (by decide) (room4 (Nat.le_of_ble_eq_true rfl)) (Nat.le_refl _) (Nat.le_refl _) ?_
  rintro _ u9 ⟨rfl, e9⟩; have e9 := e9.symm; subst e9
  refine p_if_eq (tgt := 47) X (dcg dc_X12_placeIn 23 rfl) (by decide) (fun q => ?_) (fun q => ?_)
  · have hf := if_t q hf
    refine p_iload_n X (dcg dc_X12_placeIn 26 rfl) rfl rfl ?_
    refine p_istore X (dcg dc_X12_placeIn 27 rfl) (by decide) rfl ?_
    refine p_iconst (v := 0) X (dcg dc_X12_placeIn 28 rfl) (by decide) ?_
    refine p_istore X (dcg dc_X12_placeIn 29 rfl) (by decide) rfl ?_
    refine p_pick [0, 1, 2, 4, 5] ?_
    exact wX12_placeIn_l53 X hG hnm hf 
  · have hf := if_f q hf
    refine p_pick [] ?_
    exact wX12_placeIn_b45 X hG hnm hf 
noncomputable def fX12_placeIn_b37 (v0 : Nat) (v1 : Int32) (v2 : Int32) (v3 : Int32) (t0 : Option Nat) (h : PH) : Option (Int32 × PH) :=
  fX12_placeIn_b38 v0 v1 v2 v3 t0 (0 : Int32) h
set_option maxRecDepth 100000 in
theorem mX12_placeIn_b37 {v0 : Nat} {v1 : Int32} {v2 : Int32} {v3 : Int32} {t0 : Option Nat} {h : PH} {r : (Int32 × PH)} (hf : fX12_placeIn_b37 v0 v1 v2 v3 t0 h = some r) : eqz h (hX r.2) (hV r.2) := by
  unfold fX12_placeIn_b37 at hf
  have hle := eqz_rf h
  exact eqz_rt (mX12_placeIn_b38 hf) hle
set_option maxRecDepth 100000 in
theorem wX12_placeIn_b37 {E : PE} {p : Program} {l : Launch} {e : Env} {s : State} {m : MethodId} {args : Array Value} {below : List Frame} {meth : Method} {c : Code} (X : Cx E p l e (rmv 3 0 0) s m args below meth c RX12 cX12_placeIn 6 (some .int)) (hG : Gs E l) (hnm : meth.name = yX12_placeIn.name) {v0 : Nat} {v1 : Int32} {v2 : Int32} {v3 : Int32} {t0 : Option Nat} {h : PH} {r : (Int32 × PH)} (hf : fX12_placeIn_b37 v0 v1 v2 v3 t0 h = some r)  : PW E p l e (rmv 3 0 0) s m args below meth c 6 0 0 (MQ below (QG E (fun v u => v = some (.int r.1) ∧ u = r.2)) args s 0 0 (pA E)) h 37 [(0, some (.ref v0)), (1, some (.int v1)), (2, some (.int v2)), (3, some (.int v3))] [va_rf t0] := by
  unfold fX12_placeIn_b37 at hf
  refine p_iconst (v := 0) X (dcg dc_X12_placeIn 20 rfl) (by decide) ?_
  refine p_pick [0, 1, 2, 3] ?_
  exact wX12_placeIn_b38 X hG hnm hf 
noncomputable def fX12_placeIn (v0 : Nat) (v1 : Int32) (v2 : Int32) (v3 : Int32) (h : PH) : Option (Int32 × PH) :=
  gd (hK h v0 = 12) (lt (sI h 12 v0 0 (0 : Int32)) (fun h2 =>
  bd (fX12_noWord v0 v1 h2) (fun z3 =>
  if (¬ z3.1 = 0) then (fX12_placeIn_b45  z3.2) else
  bd (fX12_in v2 (0 : Int32) (99 : Int32)) (fun z4 =>
  if (z4 = 0) then (fX12_placeIn_b37 v0 v1 v2 v3 (some v0) z3.2) else
  gd (hK z3.2 v0 = 12) (gs (hR z3.2 12 v0 4) (fun a22 =>
  gd (hK z3.2 a22 = 21 ∧ inb v2 (hN z3.2 a22)) (if ((hI z3.2 21 a22 (Int32.toNatClampNeg v2)) = 0) then (fX12_placeIn_b37 v0 v1 v2 v3 (some v0) z3.2) else
  fX12_placeIn_b38 v0 v1 v2 v3 (some v0) (1 : Int32) z3.2)))))))
set_option maxRecDepth 100000 in
theorem mX12_placeIn {v0 : Nat} {v1 : Int32} {v2 : Int32} {v3 : Int32} {h : PH} {r : (Int32 × PH)} (hf : fX12_placeIn v0 v1 v2 v3 h = some r) : eqz h (hX r.2) (hV r.2) := by
  unfold fX12_placeIn at hf
  have hle := eqz_rf h
  obtain ⟨hk1, hf⟩ := gd_some hf
  obtain ⟨h2, rfl, hf⟩ := lt_some hf
  obtain ⟨z3, hz3, hf⟩ := bd_some hf
  have hle := eqz_rt (mX12_noWord hz3) hle
  rcases ite_or hf with ⟨q, hf⟩ | ⟨q, hf⟩
  · have hf := if_t q hf
    exact eqz_rt (mX12_placeIn_b45 hf) hle
  · have hf := if_f q hf
    obtain ⟨z4, hz4, hf⟩ := bd_some hf
    rcases ite_or hf with ⟨q, hf⟩ | ⟨q, hf⟩
    · have hf := if_t q hf
      exact eqz_rt (mX12_placeIn_b37 hf) hle
    · have hf := if_f q hf
      obtain ⟨hk21, hf⟩ := gd_some hf
      obtain ⟨a22, e23, hf⟩ := gs_some hf
      obtain ⟨⟨hk25, hb24⟩, hf⟩ := gd_some hf
      rcases ite_or hf with ⟨q, hf⟩ | ⟨q, hf⟩
      · have hf := if_t q hf
        exact eqz_rt (mX12_placeIn_b37 hf) hle
      · have hf := if_f q hf
        exact eqz_rt (mX12_placeIn_b38 hf) hle
set_option maxRecDepth 100000 in
theorem wX12_placeIn {E : PE} {l : Launch} (hG : Gs E l) {v0 : Nat} {v1 : Int32} {v2 : Int32} {v3 : Int32} {h : PH} {r : (Int32 × PH)} (hf : fX12_placeIn v0 v1 v2 v3 h = some r) : Ct E l 3 0 0 yX12_placeIn cX12_placeIn 6 (some .int) [.ref v0, .int v1, .int v2, .int v3] h (fun v u => v = some (.int r.1) ∧ u = r.2) := by
  refine ct_of hG (by decide) (Nat.le_of_ble_eq_true rfl) ?_
  intro p e s m args below meth c X hnm
  show PW E p l e _ s m args below meth c _ 0 0 _ h 0 [(0, some (.ref v0)), (1, some (.int v1)), (2, some (.int v2)), (3, some (.int v3))] []
  unfold fX12_placeIn at hf
  refine p_aload_n X (dcg dc_X12_placeIn 0 rfl) rfl rfl ?_
  refine p_iconst (v := 0) X (dcg dc_X12_placeIn 1 rfl) (by decide) ?_
  obtain ⟨hk1, hf⟩ := gd_some hf
  refine p_putI X fl_X12_1 rfl (by decide) (fun q hq => by cases hq; rfl) rfl rfl (dcg dc_X12_placeIn 2 rfl) hk1 ?_
  obtain ⟨h2, rfl, hf⟩ := lt_some hf
  refine p_aload_n X (dcg dc_X12_placeIn 3 rfl) rfl rfl ?_
  refine p_iload_n X (dcg dc_X12_placeIn 4 rfl) rfl rfl ?_
  obtain ⟨z3, hz3, hf⟩ := bd_some hf
  refine p_callV (As := [_]) X ml_X12_240 (dcg dc_X12_placeIn 5 rfl) rfl rfl hk1 (wX12_noWord hG hz3) (by decide) (room4 (Nat.le_of_ble_eq_true rfl)) (Nat.le_refl _) (Nat.le_refl _) ?_
  rintro _ u9 ⟨rfl, e9⟩; have e9 := e9.symm; subst e9
  refine p_if_ne (tgt := 45) X (dcg dc_X12_placeIn 6 rfl) (by decide) (fun q => ?_) (fun q => ?_)
  · have hf := if_t q hf
    refine p_pick [] ?_
    exact wX12_placeIn_b45 X hG hnm hf 
  · have hf := if_f q hf
    refine p_aload_n X (dcg dc_X12_placeIn 7 rfl) rfl rfl ?_
    refine p_iload_n X (dcg dc_X12_placeIn 8 rfl) rfl rfl ?_
    refine p_iconst (v := 0) X (dcg dc_X12_placeIn 9 rfl) (by decide) ?_
    refine p_bipush (v := 99) X (dcg dc_X12_placeIn 10 rfl) (by decide) ?_
    obtain ⟨z4, hz4, hf⟩ := bd_some hf
    refine p_callS (As := [_, _, _]) X ml_X12_148 (dcg dc_X12_placeIn 11 rfl) rfl rfl  (wX12_in hG hz4) (by decide) (room4 (Nat.le_of_ble_eq_true rfl)) (Nat.le_refl _) (Nat.le_refl _) ?_
    rintro _ u9 ⟨rfl, e9⟩; have e9 := e9.symm; subst e9
    refine p_if_eq (tgt := 37) X (dcg dc_X12_placeIn 12 rfl) (by decide) (fun q => ?_) (fun q => ?_)
    · have hf := if_t q hf
      refine p_pick [0, 1, 2, 3] ?_
      exact wX12_placeIn_b37 X hG hnm hf 
    · have hf := if_f q hf
      refine p_aload_n X (dcg dc_X12_placeIn 13 rfl) rfl rfl ?_
      obtain ⟨hk21, hf⟩ := gd_some hf
      refine p_getR X fl_X12_20 rfl (by decide) (dcg dc_X12_placeIn 14 rfl) hk21 ?_
      refine p_iload_n X (dcg dc_X12_placeIn 15 rfl) rfl rfl ?_
      obtain ⟨a22, e23, hf⟩ := gs_some hf
      first | subst e23 | (try rw [e23])
      obtain ⟨⟨hk25, hb24⟩, hf⟩ := gd_some hf
      refine p_zald X (dcg dc_X12_placeIn 16 rfl) hk25 (vp_of_inb hb24) ?_
      refine p_if_eq (tgt := 37) X (dcg dc_X12_placeIn 17 rfl) (by decide) (fun q => ?_) (fun q => ?_)
      · have hf := if_t q hf
        refine p_pick [0, 1, 2, 3] ?_
        exact wX12_placeIn_b37 X hG hnm hf 
      · have hf := if_f q hf
        refine p_iconst (v := 1) X (dcg dc_X12_placeIn 18 rfl) (by decide) ?_
        refine p_goto (tgt := 38) X (dcg dc_X12_placeIn 19 rfl) (by decide) ?_
        refine p_pick [0, 1, 2, 3] ?_
        exact wX12_placeIn_b38 X hG hnm hf 
theorem dc_X12_frequent : decs cX12_frequent [(0, .aload_n 0, 1), (1, .iconst 0, 1), (2, .putfield 1, 3), (5, .aload_n 0, 1), (6, .invokevirtual 237, 3), (9, .aload_n 0, 1), (10, .iload_n 1, 1), (11, .iconst 0, 1), (12, .aload_n 0, 1), (13, .getfield 225, 3), (16, .iconst 1, 1), (17, .isub, 1), (18, .invokestatic 148, 3), (21, .iconst 1, 1), (22, .invokevirtual 156, 3), (25, .ifCond .eq 5, 3), (28, .iconst 0, 1), (29, .ireturn, 1), (30, .iload_n 1, 1), (31, .istore_n 2, 1), (32, .bipush 100, 2), (34, .istore_n 3, 1), (35, .iload_n 3, 1), (36, .ifCond .le 60, 3), (39, .iconst 0, 1), (40, .istore 4, 2), (42, .iload 4, 2), (44, .aload_n 0, 1), (45, .getfield 225, 3), (48, .if_icmp .ge 42, 3), (51, .aload_n 0, 1), (52, .aload_n 0, 1), (53, .getfield 57, 3), (56, .iload 4, 2), (58, .iaload, 1), (59, .invokevirtual 246, 3), (62, .iload_n 3, 1), (63, .if_icmp .eq 6, 3), (66, .goto 18, 3), (69, .iload_n 2, 1), (70, .ifCond .ne 11, 3), (73, .aload_n 0, 1), (74, .getfield 57, 3), (77, .iload 4, 2), (79, .iaload, 1), (80, .ireturn, 1), (81, .iinc 2 (-1), 3), (84, .iinc 4 1, 3), (87, .goto (-45), 3), (90, .iinc 3 (-1), 3), (93, .goto (-58), 3), (96, .iconst (-1), 1), (97, .ireturn, 1)] = true := by decide +kernel
noncomputable def fX12_frequent_b84 (v0 : Nat) (v2 : Int32) (v3 : Int32) (v4 : Int32) (h : PH) : Option ((Int32 × Int32) ⊕ ((Int32 × Int32) ⊕ (Int32 × PH))) :=
  some (.inl (v2, (v4 + 1)))
set_option maxRecDepth 100000 in
theorem mX12_frequent_b84 {v0 : Nat} {v2 : Int32} {v3 : Int32} {v4 : Int32} {h : PH} {x : ((Int32 × Int32) ⊕ ((Int32 × Int32) ⊕ (Int32 × PH)))} (hf : fX12_frequent_b84 v0 v2 v3 v4 h = some x) : (∀ w9 : (Int32 × PH), x = .inr (.inr w9) → eqz h (hX w9.2) (hV w9.2)) := by
  unfold fX12_frequent_b84 at hf
  have hle := eqz_rf h
  have ee := Option.some.inj hf; subst ee
  exact (fun z e => nomatch e)
set_option maxRecDepth 100000 in
theorem wX12_frequent_b84 {E : PE} {p : Program} {l : Launch} {e : Env} {s : State} {m : MethodId} {args : Array Value} {below : List Frame} {meth : Method} {c : Code} (X : Cx E p l e (rmv 5 0 0) s m args below meth c RX12 cX12_frequent 5 (some .int)) (hG : Gs E l) (hnm : meth.name = yX12_frequent.name) {v0 : Nat} {v2 : Int32} {v3 : Int32} {v4 : Int32} {h : PH} {r : (Int32 × PH)} {x : ((Int32 × Int32) ⊕ ((Int32 × Int32) ⊕ (Int32 × PH)))} (hf : fX12_frequent_b84 v0 v2 v3 v4 h = some x) (k0 : ∀ z : (Int32 × Int32), x = .inl z → PW E p l e (rmv 5 0 0) s m args below meth c 5 0 0 (MQ below (QG E (fun v u => v = some (.int r.1) ∧ u = r.2)) args s 0 0 (pA E)) h 42 [(0, some (.ref v0)), (2, some (.int (z.1))), (3, some (.int v3)), (4, some (.int (z.2)))] []) (k1 : ∀ z : (Int32 × Int32), x = .inr (.inl z) → PW E p l e (rmv 5 0 0) s m args below meth c 5 0 0 (MQ below (QG E (fun v u => v = some (.int r.1) ∧ u = r.2)) args s 0 0 (pA E)) h 35 [(0, some (.ref v0)), (2, some (.int (z.1))), (3, some (.int (z.2)))] []) (kf : ∀ z : (Int32 × PH), x = .inr (.inr z) → z = r) : PW E p l e (rmv 5 0 0) s m args below meth c 5 0 0 (MQ below (QG E (fun v u => v = some (.int r.1) ∧ u = r.2)) args s 0 0 (pA E)) h 84 [(0, some (.ref v0)), (2, some (.int v2)), (3, some (.int v3)), (4, some (.int v4))] [] := by
  unfold fX12_frequent_b84 at hf
  refine p_iinc (v := 1) X (dcg dc_X12_frequent 47 rfl) rfl (by decide) (by decide) rfl ?_
  refine p_goto (tgt := 42) X (dcg dc_X12_frequent 48 rfl) (by decide) ?_
  refine p_pick [0, 2, 3, 4] ?_
  exact k0 _ (Option.some.inj hf).symm
noncomputable def fX12_frequent_c42 (v0 : Nat) (v2 : Int32) (v3 : Int32) (v4 : Int32) (h : PH) : Option ((Int32 × Int32) ⊕ ((Int32 × Int32) ⊕ (Int32 × PH))) :=
  gd (hK h v0 = 12) (if ((hI h 12 v0 20) ≤ v4) then (mr (some (.inl (v2, (v3 + (-1)))))) else
  gs (hR h 12 v0 19) (fun a12 =>
  gd (hK h a12 = 20 ∧ inb v4 (hN h a12)) (bd (fX12_manyWith v0 (hI h 20 a12 (Int32.toNatClampNeg v4)) h) (fun z16 =>
  if (z16 = v3) then (if (¬ v2 = 0) then (fX12_frequent_b84 v0 (v2 + (-1)) v3 v4 h) else
  mr (mr (gs (hR h 12 v0 19) (fun a21 =>
  gd (hK h a21 = 20 ∧ inb v4 (hN h a21)) (some (((hI h 20 a21 (Int32.toNatClampNeg v4)), h))))))) else
  fX12_frequent_b84 v0 v2 v3 v4 h))))
set_option maxRecDepth 100000 in
theorem mX12_frequent_c42 {v0 : Nat} {v2 : Int32} {v3 : Int32} {v4 : Int32} {h : PH} {x : ((Int32 × Int32) ⊕ ((Int32 × Int32) ⊕ (Int32 × PH)))} (hf : fX12_frequent_c42 v0 v2 v3 v4 h = some x) : (∀ w9 : (Int32 × PH), x = .inr (.inr w9) → eqz h (hX w9.2) (hV w9.2)) := by
  unfold fX12_frequent_c42 at hf
  have hle := eqz_rf h
  obtain ⟨hk9, hf⟩ := gd_some hf
  rcases ite_or hf with ⟨q, hf⟩ | ⟨q, hf⟩
  · have hf := if_t q hf
    obtain ⟨y10, hfm, rfl⟩ := mr_some hf; have hf := hfm; clear hfm
    have ee := Option.some.inj hf; subst ee
    exact (fun z e => nomatch e)
  · have hf := if_f q hf
    obtain ⟨a12, e13, hf⟩ := gs_some hf
    obtain ⟨⟨hk15, hb14⟩, hf⟩ := gd_some hf
    obtain ⟨z16, hz16, hf⟩ := bd_some hf
    rcases ite_or hf with ⟨q, hf⟩ | ⟨q, hf⟩
    · have hf := if_t q hf
      rcases ite_or hf with ⟨q, hf⟩ | ⟨q, hf⟩
      · have hf := if_t q hf
        obtain cf := mX12_frequent_b84 hf
        exact fun z e => eqz_rt (cf z (e)) hle
      · have hf := if_f q hf
        obtain ⟨y17, hfm, rfl⟩ := mr_some hf; have hf := hfm; clear hfm
        obtain ⟨y19, hfm, rfl⟩ := mr_some hf; have hf := hfm; clear hfm
        obtain ⟨a21, e22, hf⟩ := gs_some hf
        obtain ⟨⟨hk24, hb23⟩, hf⟩ := gd_some hf
        have ee := Option.some.inj hf; subst ee
        exact (fun z e => by have ee := Sum.inr.inj (Sum.inr.inj (e)); subst ee; exact hle)
    · have hf := if_f q hf
      obtain cf := mX12_frequent_b84 hf
      exact fun z e => eqz_rt (cf z (e)) hle
set_option maxRecDepth 100000 in
theorem wX12_frequent_c42 {E : PE} {p : Program} {l : Launch} {e : Env} {s : State} {m : MethodId} {args : Array Value} {below : List Frame} {meth : Method} {c : Code} (X : Cx E p l e (rmv 5 0 0) s m args below meth c RX12 cX12_frequent 5 (some .int)) (hG : Gs E l) (hnm : meth.name = yX12_frequent.name) {v0 : Nat} {v2 : Int32} {v3 : Int32} {v4 : Int32} {h : PH} {r : (Int32 × PH)} {x : ((Int32 × Int32) ⊕ ((Int32 × Int32) ⊕ (Int32 × PH)))} (hf : fX12_frequent_c42 v0 v2 v3 v4 h = some x) (k0 : ∀ z : (Int32 × Int32), x = .inl z → PW E p l e (rmv 5 0 0) s m args below meth c 5 0 0 (MQ below (QG E (fun v u => v = some (.int r.1) ∧ u = r.2)) args s 0 0 (pA E)) h 42 [(0, some (.ref v0)), (2, some (.int (z.1))), (3, some (.int v3)), (4, some (.int (z.2)))] []) (k1 : ∀ z : (Int32 × Int32), x = .inr (.inl z) → PW E p l e (rmv 5 0 0) s m args below meth c 5 0 0 (MQ below (QG E (fun v u => v = some (.int r.1) ∧ u = r.2)) args s 0 0 (pA E)) h 35 [(0, some (.ref v0)), (2, some (.int (z.1))), (3, some (.int (z.2)))] []) (kf : ∀ z : (Int32 × PH), x = .inr (.inr z) → z = r) : PW E p l e (rmv 5 0 0) s m args below meth c 5 0 0 (MQ below (QG E (fun v u => v = some (.int r.1) ∧ u = r.2)) args s 0 0 (pA E)) h 42 [(0, some (.ref v0)), (2, some (.int v2)), (3, some (.int v3)), (4, some (.int v4))] [] := by
  unfold fX12_frequent_c42 at hf
  refine p_iload X (dcg dc_X12_frequent 26 rfl) rfl ?_
  refine p_aload_n X (dcg dc_X12_frequent 27 rfl) rfl rfl ?_
  obtain ⟨hk9, hf⟩ := gd_some hf
  refine p_getI X fl_X12_225 rfl (by decide) (dcg dc_X12_frequent 28 rfl) hk9 ?_
  refine p_icmp_ge (tgt := 90) X (dcg dc_X12_frequent 29 rfl) (by decide) (fun q => ?_) (fun q => ?_)
  · have hf := if_t q hf
    obtain ⟨y10, hf, hy11⟩ := mr_some hf
    refine p_iinc (v := -1) X (dcg dc_X12_frequent 49 rfl) rfl (by decide) (by decide) rfl ?_
    refine p_goto (tgt := 35) X (dcg dc_X12_frequent 50 rfl) (by decide) ?_
    refine p_pick [0, 2, 3] ?_
    exact (fun z0 e0 => k1 z0 (hy11.trans (congrArg Sum.inr e0))) _ (Option.some.inj hf).symm
  · have hf := if_f q hf
    refine p_aload_n X (dcg dc_X12_frequent 30 rfl) rfl rfl ?_
    refine p_aload_n X (dcg dc_X12_frequent 31 rfl) rfl rfl ?_
    refine p_getR X fl_X12_57 rfl (by decide) (dcg dc_X12_frequent 32 rfl) hk9 ?_
    refine p_iload X (dcg dc_X12_frequent 33 rfl) rfl ?_
    obtain ⟨a12, e13, hf⟩ := gs_some hf
    first | subst e13 | (try rw [e13])
    obtain ⟨⟨hk15, hb14⟩, hf⟩ := gd_some hf
    refine p_iald X (dcg dc_X12_frequent 34 rfl) hk15 (vp_of_inb hb14) ?_
    obtain ⟨z16, hz16, hf⟩ := bd_some hf
    refine p_callV (As := [_]) X ml_X12_246 (dcg dc_X12_frequent 35 rfl) rfl rfl hk9 (wX12_manyWith hG hz16) (by decide) (room4 (Nat.le_of_ble_eq_true rfl)) (Nat.le_refl _) (Nat.le_refl _) ?_
    rintro _ u9 ⟨rfl, e9⟩; have e9 := e9.symm; subst e9
    refine p_iload_n X (dcg dc_X12_frequent 36 rfl) rfl rfl ?_
    refine p_icmp_eq (tgt := 69) X (dcg dc_X12_frequent 37 rfl) (by decide) (fun q => ?_) (fun q => ?_)
    · have hf := if_t q hf
      refine p_iload_n X (dcg dc_X12_frequent 39 rfl) rfl rfl ?_
      refine p_if_ne (tgt := 81) X (dcg dc_X12_frequent 40 rfl) (by decide) (fun q => ?_) (fun q => ?_)
      · have hf := if_t q hf
        refine p_iinc (v := -1) X (dcg dc_X12_frequent 46 rfl) rfl (by decide) (by decide) rfl ?_
        refine p_pick [0, 2, 3, 4] ?_
        exact wX12_frequent_b84 X hG hnm hf k0 k1 kf
      · have hf := if_f q hf
        obtain ⟨y17, hf, hy18⟩ := mr_some hf
        obtain ⟨y19, hf, hy20⟩ := mr_some hf
        have hy20f := (fun z0 e0 => kf z0 (hy18.trans (congrArg Sum.inr e0))) y19 hy20
        subst hy20f
        refine p_aload_n X (dcg dc_X12_frequent 41 rfl) rfl rfl ?_
        refine p_getR X fl_X12_57 rfl (by decide) (dcg dc_X12_frequent 42 rfl) hk9 ?_
        refine p_iload X (dcg dc_X12_frequent 43 rfl) rfl ?_
        obtain ⟨a21, e22, hf⟩ := gs_some hf
        first | subst e22 | (try rw [e22])
        obtain ⟨⟨hk24, hb23⟩, hf⟩ := gd_some hf
        refine p_iald X (dcg dc_X12_frequent 44 rfl) hk24 (vp_of_inb hb23) ?_
        have er := Option.some.inj hf
        subst er
        exact p_iret X rfl (dcg dc_X12_frequent 45 rfl) ⟨rfl, rfl⟩ (Nat.le_refl _) (Nat.le_refl _)
    · have hf := if_f q hf
      refine p_goto (tgt := 84) X (dcg dc_X12_frequent 38 rfl) (by decide) ?_
      refine p_pick [0, 2, 3, 4] ?_
      exact wX12_frequent_b84 X hG hnm hf k0 k1 kf
noncomputable def fX12_frequent_l42 (v0 : Nat) (v2 : Int32) (v3 : Int32) (v4 : Int32) (h : PH) : Option ((Int32 × Int32) ⊕ (Int32 × PH)) := wh (fun z : (Int32 × Int32) => fX12_frequent_c42 v0 (z.1) v3 (z.2) h) (v2, v4)
set_option maxRecDepth 100000 in
theorem mX12_frequent_l42 {v0 : Nat} {v2 : Int32} {v3 : Int32} {v4 : Int32} {h : PH} {x : ((Int32 × Int32) ⊕ (Int32 × PH))} (hf : fX12_frequent_l42 v0 v2 v3 v4 h = some x) : (∀ w9 : (Int32 × PH), x = .inr w9 → eqz h (hX w9.2) (hV w9.2)) := by
  unfold fX12_frequent_l42 at hf
  refine wh_ind (P := fun z => (∀ w9 : (Int32 × PH), x = .inr w9 → eqz h (hX w9.2) (hV w9.2))) (fun z x0 hs i1 i2 => ?_) _ hf
  obtain cf := mX12_frequent_c42 (v0 := v0) (v2 := z.1) (v3 := v3) (v4 := z.2) (h := h) hs
  rcases hxx : x0 with zz | (zz | zz)
  · obtain d0 := (i1 zz hxx)
    exact d0
  · have ee := i2 _ hxx; subst ee
    exact (fun z1 e1 => nomatch e1)
  · have ee := i2 _ hxx; subst ee
    exact (fun z1 e1 => by cases e1; exact cf zz hxx)
set_option maxRecDepth 100000 in
theorem wX12_frequent_l42 {E : PE} {p : Program} {l : Launch} {e : Env} {s : State} {m : MethodId} {args : Array Value} {below : List Frame} {meth : Method} {c : Code} (X : Cx E p l e (rmv 5 0 0) s m args below meth c RX12 cX12_frequent 5 (some .int)) (hG : Gs E l) (hnm : meth.name = yX12_frequent.name) {v0 : Nat} {v2 : Int32} {v3 : Int32} {v4 : Int32} {h : PH} {r : (Int32 × PH)} {x : ((Int32 × Int32) ⊕ (Int32 × PH))} (hf : fX12_frequent_l42 v0 v2 v3 v4 h = some x) (k0 : ∀ z : (Int32 × Int32), x = .inl z → PW E p l e (rmv 5 0 0) s m args below meth c 5 0 0 (MQ below (QG E (fun v u => v = some (.int r.1) ∧ u = r.2)) args s 0 0 (pA E)) h 35 [(0, some (.ref v0)), (2, some (.int (z.1))), (3, some (.int (z.2)))] []) (kf : ∀ z : (Int32 × PH), x = .inr z → z = r) : PW E p l e (rmv 5 0 0) s m args below meth c 5 0 0 (MQ below (QG E (fun v u => v = some (.int r.1) ∧ u = r.2)) args s 0 0 (pA E)) h 42 [(0, some (.ref v0)), (2, some (.int v2)), (3, some (.int v3)), (4, some (.int v4))] [] := by
  unfold fX12_frequent_l42 at hf
  refine wh_ind (P := fun z => PW E p l e (rmv 5 0 0) s m args below meth c 5 0 0 (MQ below (QG E (fun v u => v = some (.int r.1) ∧ u = r.2)) args s 0 0 (pA E)) h 42 [(0, some (.ref v0)), (2, some (.int (z.1))), (3, some (.int v3)), (4, some (.int (z.2)))] []) (fun z x0 hs i1 i2 => ?_) _ hf
  exact wX12_frequent_c42 (r := r) (v0 := v0) (v2 := z.1) (v3 := v3) (v4 := z.2) (h := h) X hG hnm hs i1 (fun z1 e1 => k0 z1 (i2 _ e1).symm) (fun z1 e1 => kf z1 (i2 _ e1).symm)
noncomputable def fX12_frequent_c35 (v0 : Nat) (v2 : Int32) (v3 : Int32) (h : PH) : Option ((Int32 × Int32) ⊕ (Int32 × PH)) :=
  if (v3 ≤ 0) then (mr (some (((-1 : Int32), h)))) else
  fX12_frequent_l42 v0 v2 v3 (0 : Int32) h
set_option maxRecDepth 100000 in
theorem mX12_frequent_c35 {v0 : Nat} {v2 : Int32} {v3 : Int32} {h : PH} {x : ((Int32 × Int32) ⊕ (Int32 × PH))} (hf : fX12_frequent_c35 v0 v2 v3 h = some x) : (∀ w9 : (Int32 × PH), x = .inr w9 → eqz h (hX w9.2) (hV w9.2)) := by
  unfold fX12_frequent_c35 at hf
  have hle := eqz_rf h
  rcases ite_or hf with ⟨q, hf⟩ | ⟨q, hf⟩
  · have hf := if_t q hf
    obtain ⟨y7, hfm, rfl⟩ := mr_some hf; have hf := hfm; clear hfm
    have ee := Option.some.inj hf; subst ee
    exact (fun z e => by have ee := Sum.inr.inj (e); subst ee; exact hle)
  · have hf := if_f q hf
    obtain cf := mX12_frequent_l42 hf
    exact fun z e => eqz_rt (cf z (e)) hle
set_option maxRecDepth 100000 in
theorem wX12_frequent_c35 {E : PE} {p : Program} {l : Launch} {e : Env} {s : State} {m : MethodId} {args : Array Value} {below : List Frame} {meth : Method} {c : Code} (X : Cx E p l e (rmv 5 0 0) s m args below meth c RX12 cX12_frequent 5 (some .int)) (hG : Gs E l) (hnm : meth.name = yX12_frequent.name) {v0 : Nat} {v2 : Int32} {v3 : Int32} {h : PH} {r : (Int32 × PH)} {x : ((Int32 × Int32) ⊕ (Int32 × PH))} (hf : fX12_frequent_c35 v0 v2 v3 h = some x) (k0 : ∀ z : (Int32 × Int32), x = .inl z → PW E p l e (rmv 5 0 0) s m args below meth c 5 0 0 (MQ below (QG E (fun v u => v = some (.int r.1) ∧ u = r.2)) args s 0 0 (pA E)) h 35 [(0, some (.ref v0)), (2, some (.int (z.1))), (3, some (.int (z.2)))] []) (kf : ∀ z : (Int32 × PH), x = .inr z → z = r) : PW E p l e (rmv 5 0 0) s m args below meth c 5 0 0 (MQ below (QG E (fun v u => v = some (.int r.1) ∧ u = r.2)) args s 0 0 (pA E)) h 35 [(0, some (.ref v0)), (2, some (.int v2)), (3, some (.int v3))] [] := by
  unfold fX12_frequent_c35 at hf
  refine p_iload_n X (dcg dc_X12_frequent 22 rfl) rfl rfl ?_
  refine p_if_le (tgt := 96) X (dcg dc_X12_frequent 23 rfl) (by decide) (fun q => ?_) (fun q => ?_)
  · have hf := if_t q hf
    obtain ⟨y7, hf, hy8⟩ := mr_some hf
    have hy8f := kf y7 hy8
    subst hy8f
    refine p_iconst (v := -1) X (dcg dc_X12_frequent 51 rfl) (by decide) ?_
    have er := Option.some.inj hf
    subst er
    exact p_iret X rfl (dcg dc_X12_frequent 52 rfl) ⟨rfl, rfl⟩ (Nat.le_refl _) (Nat.le_refl _)
  · have hf := if_f q hf
    refine p_iconst (v := 0) X (dcg dc_X12_frequent 24 rfl) (by decide) ?_
    refine p_istore X (dcg dc_X12_frequent 25 rfl) (by decide) rfl ?_
    refine p_pick [0, 2, 3, 4] ?_
    exact wX12_frequent_l42 X hG hnm hf k0 kf
noncomputable def fX12_frequent_l35 (v0 : Nat) (v2 : Int32) (v3 : Int32) (h : PH) : Option (Int32 × PH) := wh (fun z : (Int32 × Int32) => fX12_frequent_c35 v0 (z.1) (z.2) h) (v2, v3)
set_option maxRecDepth 100000 in
theorem mX12_frequent_l35 {v0 : Nat} {v2 : Int32} {v3 : Int32} {h : PH} {r : (Int32 × PH)} (hf : fX12_frequent_l35 v0 v2 v3 h = some r) : eqz h (hX r.2) (hV r.2) := by
  unfold fX12_frequent_l35 at hf
  refine wh_ind (P := fun z => eqz h (hX r.2) (hV r.2)) (fun z x0 hs i1 i2 => ?_) _ hf
  obtain cf := mX12_frequent_c35 (v0 := v0) (v2 := z.1) (v3 := z.2) (h := h) hs
  rcases hxx : x0 with zz | zz
  · exact (i1 zz hxx)
  · have ee := i2 zz hxx; subst ee; exact cf zz hxx
set_option maxRecDepth 100000 in
theorem wX12_frequent_l35 {E : PE} {p : Program} {l : Launch} {e : Env} {s : State} {m : MethodId} {args : Array Value} {below : List Frame} {meth : Method} {c : Code} (X : Cx E p l e (rmv 5 0 0) s m args below meth c RX12 cX12_frequent 5 (some .int)) (hG : Gs E l) (hnm : meth.name = yX12_frequent.name) {v0 : Nat} {v2 : Int32} {v3 : Int32} {h : PH} {r : (Int32 × PH)} (hf : fX12_frequent_l35 v0 v2 v3 h = some r)  : PW E p l e (rmv 5 0 0) s m args below meth c 5 0 0 (MQ below (QG E (fun v u => v = some (.int r.1) ∧ u = r.2)) args s 0 0 (pA E)) h 35 [(0, some (.ref v0)), (2, some (.int v2)), (3, some (.int v3))] [] := by
  unfold fX12_frequent_l35 at hf
  refine wh_ind (P := fun z => PW E p l e (rmv 5 0 0) s m args below meth c 5 0 0 (MQ below (QG E (fun v u => v = some (.int r.1) ∧ u = r.2)) args s 0 0 (pA E)) h 35 [(0, some (.ref v0)), (2, some (.int (z.1))), (3, some (.int (z.2)))] []) (fun z x0 hs i1 i2 => ?_) _ hf
  exact wX12_frequent_c35 (r := r) (v0 := v0) (v2 := z.1) (v3 := z.2) (h := h) X hG hnm hs i1  i2
noncomputable def fX12_frequent (v0 : Nat) (v1 : Int32) (h : PH) : Option (Int32 × PH) :=
  gd (hK h v0 = 12) (lt (sI h 12 v0 0 (0 : Int32)) (fun h2 =>
  bd (fX12_finds v0 h2) (fun z3 =>
  gd (hK z3 v0 = 12) (bd (fX12_in v1 (0 : Int32) ((hI z3 12 v0 20) - (1 : Int32))) (fun z5 =>
  bd (fX12_fails v0 z5 (1 : Int32) z3) (fun z6 =>
  if (z6.1 = 0) then (fX12_frequent_l35 v0 v1 (100 : Int32) z6.2) else
  some (((0 : Int32), z6.2))))))))
set_option maxRecDepth 100000 in
theorem mX12_frequent {v0 : Nat} {v1 : Int32} {h : PH} {r : (Int32 × PH)} (hf : fX12_frequent v0 v1 h = some r) : eqz h (hX r.2) (hV r.2) := by
  unfold fX12_frequent at hf
  have hle := eqz_rf h
  obtain ⟨hk1, hf⟩ := gd_some hf
  obtain ⟨h2, rfl, hf⟩ := lt_some hf
  obtain ⟨z3, hz3, hf⟩ := bd_some hf
  have hle := eqz_rt (mX12_finds hz3) hle
  obtain ⟨hk4, hf⟩ := gd_some hf
  obtain ⟨z5, hz5, hf⟩ := bd_some hf
  obtain ⟨z6, hz6, hf⟩ := bd_some hf
  have hle := eqz_rt (mX12_fails hz6) hle
  rcases ite_or hf with ⟨q, hf⟩ | ⟨q, hf⟩
  · have hf := if_t q hf
    exact eqz_rt (mX12_frequent_l35 hf) hle
  · have hf := if_f q hf
    have ee := Option.some.inj hf; subst ee; exact hle
set_option maxRecDepth 100000 in
theorem wX12_frequent {E : PE} {l : Launch} (hG : Gs E l) {v0 : Nat} {v1 : Int32} {h : PH} {r : (Int32 × PH)} (hf : fX12_frequent v0 v1 h = some r) : Ct E l 5 0 0 yX12_frequent cX12_frequent 5 (some .int) [.ref v0, .int v1] h (fun v u => v = some (.int r.1) ∧ u = r.2) := by
  refine ct_of hG (by decide) (Nat.le_of_ble_eq_true rfl) ?_
  intro p e s m args below meth c X hnm
  show PW E p l e _ s m args below meth c _ 0 0 _ h 0 [(0, some (.ref v0)), (1, some (.int v1))] []
  unfold fX12_frequent at hf
  refine p_aload_n X (dcg dc_X12_frequent 0 rfl) rfl rfl ?_
  refine p_iconst (v := 0) X (dcg dc_X12_frequent 1 rfl) (by decide) ?_
  obtain ⟨hk1, hf⟩ := gd_some hf
  refine p_putI X fl_X12_1 rfl (by decide) (fun q hq => by cases hq; rfl) rfl rfl (dcg dc_X12_frequent 2 rfl) hk1 ?_
  obtain ⟨h2, rfl, hf⟩ := lt_some hf
  refine p_aload_n X (dcg dc_X12_frequent 3 rfl) rfl rfl ?_
  obtain ⟨z3, hz3, hf⟩ := bd_some hf
  refine p_callV (As := []) X ml_X12_237 (dcg dc_X12_frequent 4 rfl) rfl rfl hk1 (wX12_finds hG hz3) (by decide) (room4 (Nat.le_of_ble_eq_true rfl)) (Nat.le_refl _) (Nat.le_refl _) ?_
  rintro _ u9 ⟨rfl, e9⟩; have e9 := e9.symm; subst e9
  refine p_aload_n X (dcg dc_X12_frequent 5 rfl) rfl rfl ?_
  refine p_iload_n X (dcg dc_X12_frequent 6 rfl) rfl rfl ?_
  refine p_iconst (v := 0) X (dcg dc_X12_frequent 7 rfl) (by decide) ?_
  refine p_aload_n X (dcg dc_X12_frequent 8 rfl) rfl rfl ?_
  obtain ⟨hk4, hf⟩ := gd_some hf
  refine p_getI X fl_X12_225 rfl (by decide) (dcg dc_X12_frequent 9 rfl) hk4 ?_
  refine p_iconst (v := 1) X (dcg dc_X12_frequent 10 rfl) (by decide) ?_
  refine p_isub X (dcg dc_X12_frequent 11 rfl) ?_
  obtain ⟨z5, hz5, hf⟩ := bd_some hf
  refine p_callS (As := [_, _, _]) X ml_X12_148 (dcg dc_X12_frequent 12 rfl) rfl rfl  (wX12_in hG hz5) (by decide) (room4 (Nat.le_of_ble_eq_true rfl)) (Nat.le_refl _) (Nat.le_refl _) ?_
  rintro _ u9 ⟨rfl, e9⟩; have e9 := e9.symm; subst e9
  refine p_iconst (v := 1) X (dcg dc_X12_frequent 13 rfl) (by decide) ?_
  obtain ⟨z6, hz6, hf⟩ := bd_some hf
  refine p_callV (As := [_, _]) X ml_X12_156 (dcg dc_X12_frequent 14 rfl) rfl rfl hk4 (wX12_fails hG hz6) (by decide) (room4 (Nat.le_of_ble_eq_true rfl)) (Nat.le_refl _) (Nat.le_refl _) ?_
  rintro _ u9 ⟨rfl, e9⟩; have e9 := e9.symm; subst e9
  refine p_if_eq (tgt := 30) X (dcg dc_X12_frequent 15 rfl) (by decide) (fun q => ?_) (fun q => ?_)
  · have hf := if_t q hf
    refine p_iload_n X (dcg dc_X12_frequent 18 rfl) rfl rfl ?_
    refine p_istore_n X (dcg dc_X12_frequent 19 rfl) rfl (by decide) rfl ?_
    refine p_bipush (v := 100) X (dcg dc_X12_frequent 20 rfl) (by decide) ?_
    refine p_istore_n X (dcg dc_X12_frequent 21 rfl) rfl (by decide) rfl ?_
    refine p_pick [0, 2, 3] ?_
    exact wX12_frequent_l35 X hG hnm hf 
  · have hf := if_f q hf
    refine p_iconst (v := 0) X (dcg dc_X12_frequent 16 rfl) (by decide) ?_
    have er := Option.some.inj hf
    subst er
    exact p_iret X rfl (dcg dc_X12_frequent 17 rfl) ⟨rfl, rfl⟩ (Nat.le_refl _) (Nat.le_refl _)
