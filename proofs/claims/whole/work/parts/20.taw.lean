/-! test (by program: wip/whole/gen2.py) -/
theorem dc_X12_letters : decs cX12_letters [(0, .iconst 0, 1), (1, .istore_n 1, 1), (2, .iload_n 0, 1), (3, .istore_n 2, 1), (4, .iload_n 2, 1), (5, .ifCond .le 14, 3), (8, .iinc 1 1, 3), (11, .iload_n 2, 1), (12, .bipush 27, 2), (14, .idiv, 1), (15, .istore_n 2, 1), (16, .goto (-12), 3), (19, .iload_n 1, 1), (20, .ireturn, 1)] = true := by decide +kernel
noncomputable def fX12_letters_c4 (v1 : Int32) (v2 : Int32) : Option ((Int32 × Int32) ⊕ Int32) :=
  if (v2 ≤ 0) then (mr (some (v1))) else
  some (.inl ((v1 + 1), (v2 / (27 : Int32))))
set_option maxRecDepth 100000 in
theorem wX12_letters_c4 {E : PE} {p : Program} {l : Launch} {e : Env} {s : State} {m : MethodId} {args : Array Value} {below : List Frame} {meth : Method} {c : Code} (X : Cx E p l e (rmv 0 0 0) s m args below meth c RX12 cX12_letters 3 (some .int)) (hG : Gs E l) (hnm : meth.name = yX12_letters.name) {v1 : Int32} {v2 : Int32} {h : PH} {r : Int32} {x : ((Int32 × Int32) ⊕ Int32)} (hf : fX12_letters_c4 v1 v2 = some x) (k0 : ∀ z : (Int32 × Int32), x = .inl z → PW E p l e (rmv 0 0 0) s m args below meth c 3 0 0 (MQ below (QG E (fun v u => v = some (.int r) ∧ u = h)) args s 0 0 (pA E)) h 4 [(1, some (.int (z.1))), (2, some (.int (z.2)))] []) (kf : ∀ z : Int32, x = .inr z → z = r) : PW E p l e (rmv 0 0 0) s m args below meth c 3 0 0 (MQ below (QG E (fun v u => v = some (.int r) ∧ u = h)) args s 0 0 (pA E)) h 4 [(1, some (.int v1)), (2, some (.int v2))] [] := by
  unfold fX12_letters_c4 at hf
  refine p_iload_n X (dcg dc_X12_letters 4 rfl) rfl rfl ?_
  refine p_if_le (tgt := 19) X (dcg dc_X12_letters 5 rfl) (by decide) (fun q => ?_) (fun q => ?_)
  · have hf := if_t q hf
    obtain ⟨y1, hf, hy2⟩ := mr_some hf
    have hy2f := kf y1 hy2
    subst hy2f
    refine p_iload_n X (dcg dc_X12_letters 12 rfl) rfl rfl ?_
    have er := Option.some.inj hf
    subst er
    exact p_iret X rfl (dcg dc_X12_letters 13 rfl) ⟨rfl, rfl⟩ (Nat.le_refl _) (Nat.le_refl _)
  · have hf := if_f q hf
    refine p_iinc (v := 1) X (dcg dc_X12_letters 6 rfl) rfl (by decide) (by decide) rfl ?_
    refine p_iload_n X (dcg dc_X12_letters 7 rfl) rfl rfl ?_
    refine p_bipush (v := 27) X (dcg dc_X12_letters 8 rfl) (by decide) ?_
    refine p_idiv X (dcg dc_X12_letters 9 rfl) (by decide) ?_
    refine p_istore_n X (dcg dc_X12_letters 10 rfl) rfl (by decide) rfl ?_
    refine p_goto (tgt := 4) X (dcg dc_X12_letters 11 rfl) (by decide) ?_
    refine p_pick [1, 2] ?_
    exact k0 _ (Option.some.inj hf).symm
noncomputable def fX12_letters_l4 (v1 : Int32) (v2 : Int32) : Option Int32 := wh (fun z : (Int32 × Int32) => fX12_letters_c4 (z.1) (z.2)) (v1, v2)
set_option maxRecDepth 100000 in
theorem wX12_letters_l4 {E : PE} {p : Program} {l : Launch} {e : Env} {s : State} {m : MethodId} {args : Array Value} {below : List Frame} {meth : Method} {c : Code} (X : Cx E p l e (rmv 0 0 0) s m args below meth c RX12 cX12_letters 3 (some .int)) (hG : Gs E l) (hnm : meth.name = yX12_letters.name) {v1 : Int32} {v2 : Int32} {h : PH} {r : Int32} (hf : fX12_letters_l4 v1 v2 = some r)  : PW E p l e (rmv 0 0 0) s m args below meth c 3 0 0 (MQ below (QG E (fun v u => v = some (.int r) ∧ u = h)) args s 0 0 (pA E)) h 4 [(1, some (.int v1)), (2, some (.int v2))] [] := by
  unfold fX12_letters_l4 at hf
  refine wh_ind (P := fun z => PW E p l e (rmv 0 0 0) s m args below meth c 3 0 0 (MQ below (QG E (fun v u => v = some (.int r) ∧ u = h)) args s 0 0 (pA E)) h 4 [(1, some (.int (z.1))), (2, some (.int (z.2)))] []) (fun z x0 hs i1 i2 => ?_) _ hf
  exact wX12_letters_c4 (r := r) (v1 := z.1) (v2 := z.2) (h := h) X hG hnm hs i1  i2
noncomputable def fX12_letters (v0 : Int32) : Option Int32 :=
  fX12_letters_l4 (0 : Int32) v0
set_option maxRecDepth 100000 in
theorem wX12_letters {E : PE} {l : Launch} (hG : Gs E l) {v0 : Int32} {h : PH} {r : Int32} (hf : fX12_letters v0 = some r) : Ct E l 0 0 0 yX12_letters cX12_letters 3 (some .int) [.int v0] h (fun v u => v = some (.int r) ∧ u = h) := by
  refine ct_of hG (by decide) (Nat.le_of_ble_eq_true rfl) ?_
  intro p e s m args below meth c X hnm
  show PW E p l e _ s m args below meth c _ 0 0 _ h 0 [(0, some (.int v0))] []
  unfold fX12_letters at hf
  refine p_iconst (v := 0) X (dcg dc_X12_letters 0 rfl) (by decide) ?_
  refine p_istore_n X (dcg dc_X12_letters 1 rfl) rfl (by decide) rfl ?_
  refine p_iload_n X (dcg dc_X12_letters 2 rfl) rfl rfl ?_
  refine p_istore_n X (dcg dc_X12_letters 3 rfl) rfl (by decide) rfl ?_
  refine p_pick [1, 2] ?_
  exact wX12_letters_l4 X hG hnm hf 
theorem dc_X12_in : decs cX12_in [(0, .iload_n 0, 1), (1, .iload_n 1, 1), (2, .if_icmp .lt 12, 3), (5, .iload_n 0, 1), (6, .iload_n 2, 1), (7, .if_icmp .gt 7, 3), (10, .iconst 1, 1), (11, .goto 4, 3), (14, .iconst 0, 1), (15, .ireturn, 1)] = true := by decide +kernel
noncomputable def fX12_in_b15 (t0 : Int32) : Option Int32 :=
  gd (t0 &&& 1 = t0) (some (t0))
set_option maxRecDepth 100000 in
theorem wX12_in_b15 {E : PE} {p : Program} {l : Launch} {e : Env} {s : State} {m : MethodId} {args : Array Value} {below : List Frame} {meth : Method} {c : Code} (X : Cx E p l e (rmv 0 0 0) s m args below meth c RX12 cX12_in 3 (some .boolean)) (hG : Gs E l) (hnm : meth.name = yX12_in.name) {t0 : Int32} {h : PH} {r : Int32} (hf : fX12_in_b15 t0 = some r)  : PW E p l e (rmv 0 0 0) s m args below meth c 3 0 0 (MQ below (QG E (fun v u => v = some (.int r) ∧ u = h)) args s 0 0 (pA E)) h 15 [] [.int t0] := by
  unfold fX12_in_b15 at hf
  obtain ⟨hg1, hf⟩ := gd_some hf
  have er := Option.some.inj hf
  subst er
  exact p_zret X rfl (congrArg Value.int hg1) (dcg dc_X12_in 9 rfl) ⟨rfl, rfl⟩ (Nat.le_refl _) (Nat.le_refl _)
noncomputable def fX12_in_b14  : Option Int32 :=
  fX12_in_b15 (0 : Int32)
set_option maxRecDepth 100000 in
theorem wX12_in_b14 {E : PE} {p : Program} {l : Launch} {e : Env} {s : State} {m : MethodId} {args : Array Value} {below : List Frame} {meth : Method} {c : Code} (X : Cx E p l e (rmv 0 0 0) s m args below meth c RX12 cX12_in 3 (some .boolean)) (hG : Gs E l) (hnm : meth.name = yX12_in.name)  {h : PH} {r : Int32} (hf : fX12_in_b14  = some r)  : PW E p l e (rmv 0 0 0) s m args below meth c 3 0 0 (MQ below (QG E (fun v u => v = some (.int r) ∧ u = h)) args s 0 0 (pA E)) h 14 [] [] := by
  unfold fX12_in_b14 at hf
  refine p_iconst (v := 0) X (dcg dc_X12_in 8 rfl) (by decide) ?_
  refine p_pick [] ?_
  exact wX12_in_b15 X hG hnm hf 
noncomputable def fX12_in (v0 : Int32) (v1 : Int32) (v2 : Int32) : Option Int32 :=
  if (v0 < v1) then (fX12_in_b14 ) else
  if (v2 < v0) then (fX12_in_b14 ) else
  fX12_in_b15 (1 : Int32)
set_option maxRecDepth 100000 in
theorem wX12_in {E : PE} {l : Launch} (hG : Gs E l) {v0 : Int32} {v1 : Int32} {v2 : Int32} {h : PH} {r : Int32} (hf : fX12_in v0 v1 v2 = some r) : Ct E l 0 0 0 yX12_in cX12_in 3 (some .boolean) [.int v0, .int v1, .int v2] h (fun v u => v = some (.int r) ∧ u = h) := by
  refine ct_of hG (by decide) (Nat.le_of_ble_eq_true rfl) ?_
  intro p e s m args below meth c X hnm
  show PW E p l e _ s m args below meth c _ 0 0 _ h 0 [(0, some (.int v0)), (1, some (.int v1)), (2, some (.int v2))] []
  unfold fX12_in at hf
  refine p_iload_n X (dcg dc_X12_in 0 rfl) rfl rfl ?_
  refine p_iload_n X (dcg dc_X12_in 1 rfl) rfl rfl ?_
  refine p_icmp_lt (tgt := 14) X (dcg dc_X12_in 2 rfl) (by decide) (fun q => ?_) (fun q => ?_)
  · have hf := if_t q hf
    refine p_pick [] ?_
    exact wX12_in_b14 X hG hnm hf 
  · have hf := if_f q hf
    refine p_iload_n X (dcg dc_X12_in 3 rfl) rfl rfl ?_
    refine p_iload_n X (dcg dc_X12_in 4 rfl) rfl rfl ?_
    refine p_icmp_gt (tgt := 14) X (dcg dc_X12_in 5 rfl) (by decide) (fun q => ?_) (fun q => ?_)
    · have hf := if_t q hf
      refine p_pick [] ?_
      exact wX12_in_b14 X hG hnm hf 
    · have hf := if_f q hf
      refine p_iconst (v := 1) X (dcg dc_X12_in 6 rfl) (by decide) ?_
      refine p_goto (tgt := 15) X (dcg dc_X12_in 7 rfl) (by decide) ?_
      refine p_pick [] ?_
      exact wX12_in_b15 X hG hnm hf 
theorem dc_X12_isWord : decs cX12_isWord [(0, .iload_n 0, 1), (1, .istore_n 1, 1), (2, .iload_n 1, 1), (3, .ifCond .le 20, 3), (6, .iload_n 1, 1), (7, .bipush 27, 2), (9, .irem, 1), (10, .ifCond .ne 5, 3), (13, .iconst 0, 1), (14, .ireturn, 1), (15, .iload_n 1, 1), (16, .bipush 27, 2), (18, .idiv, 1), (19, .istore_n 1, 1), (20, .goto (-18), 3), (23, .iload_n 0, 1), (24, .invokestatic 144, 3), (27, .iconst 1, 1), (28, .bipush 6, 2), (30, .invokestatic 148, 3), (33, .ireturn, 1)] = true := by decide +kernel
noncomputable def fX12_isWord_c2 (v0 : Int32) (v1 : Int32) : Option ((Int32) ⊕ Int32) :=
  if (v1 ≤ 0) then (mr (bd (fX12_letters v0) (fun z3 =>
  bd (fX12_in z3 (1 : Int32) (6 : Int32)) (fun z4 =>
  gd (z4 &&& 1 = z4) (some (z4)))))) else
  if (¬ (v1 - v1 / (27 : Int32) * (27 : Int32)) = 0) then (some (.inl ((v1 / (27 : Int32))))) else
  mr (some ((0 : Int32)))
set_option maxRecDepth 100000 in
theorem wX12_isWord_c2 {E : PE} {p : Program} {l : Launch} {e : Env} {s : State} {m : MethodId} {args : Array Value} {below : List Frame} {meth : Method} {c : Code} (X : Cx E p l e (rmv 1 0 0) s m args below meth c RX12 cX12_isWord 2 (some .boolean)) (hG : Gs E l) (hnm : meth.name = yX12_isWord.name) {v0 : Int32} {v1 : Int32} {h : PH} {r : Int32} {x : ((Int32) ⊕ Int32)} (hf : fX12_isWord_c2 v0 v1 = some x) (k0 : ∀ z : (Int32), x = .inl z → PW E p l e (rmv 1 0 0) s m args below meth c 2 0 0 (MQ below (QG E (fun v u => v = some (.int r) ∧ u = h)) args s 0 0 (pA E)) h 2 [(0, some (.int v0)), (1, some (.int (z)))] []) (kf : ∀ z : Int32, x = .inr z → z = r) : PW E p l e (rmv 1 0 0) s m args below meth c 2 0 0 (MQ below (QG E (fun v u => v = some (.int r) ∧ u = h)) args s 0 0 (pA E)) h 2 [(0, some (.int v0)), (1, some (.int v1))] [] := by
  unfold fX12_isWord_c2 at hf
  refine p_iload_n X (dcg dc_X12_isWord 2 rfl) rfl rfl ?_
  refine p_if_le (tgt := 23) X (dcg dc_X12_isWord 3 rfl) (by decide) (fun q => ?_) (fun q => ?_)
  · have hf := if_t q hf
    obtain ⟨y1, hf, hy2⟩ := mr_some hf
    have hy2f := kf y1 hy2
    subst hy2f
    refine p_iload_n X (dcg dc_X12_isWord 15 rfl) rfl rfl ?_
    obtain ⟨z3, hz3, hf⟩ := bd_some hf
    refine p_callS (As := [_]) X ml_X12_144 (dcg dc_X12_isWord 16 rfl) rfl rfl  (wX12_letters hG hz3) (by decide) (room4 (Nat.le_of_ble_eq_true rfl)) (Nat.le_refl _) (Nat.le_refl _) ?_
    rintro _ u9 ⟨rfl, e9⟩; have e9 := e9.symm; subst e9
    refine p_iconst (v := 1) X (dcg dc_X12_isWord 17 rfl) (by decide) ?_
    refine p_bipush (v := 6) X (dcg dc_X12_isWord 18 rfl) (by decide) ?_
    obtain ⟨z4, hz4, hf⟩ := bd_some hf
    refine p_callS (As := [_, _, _]) X ml_X12_148 (dcg dc_X12_isWord 19 rfl) rfl rfl  (wX12_in hG hz4) (by decide) (room4 (Nat.le_of_ble_eq_true rfl)) (Nat.le_refl _) (Nat.le_refl _) ?_
    rintro _ u9 ⟨rfl, e9⟩; have e9 := e9.symm; subst e9
    obtain ⟨hg5, hf⟩ := gd_some hf
    have er := Option.some.inj hf
    subst er
    exact p_zret X rfl (congrArg Value.int hg5) (dcg dc_X12_isWord 20 rfl) ⟨rfl, rfl⟩ (Nat.le_refl _) (Nat.le_refl _)
  · have hf := if_f q hf
    refine p_iload_n X (dcg dc_X12_isWord 4 rfl) rfl rfl ?_
    refine p_bipush (v := 27) X (dcg dc_X12_isWord 5 rfl) (by decide) ?_
    refine p_irem X (dcg dc_X12_isWord 6 rfl) (by decide) ?_
    refine p_if_ne (tgt := 15) X (dcg dc_X12_isWord 7 rfl) (by decide) (fun q => ?_) (fun q => ?_)
    · have hf := if_t q hf
      refine p_iload_n X (dcg dc_X12_isWord 10 rfl) rfl rfl ?_
      refine p_bipush (v := 27) X (dcg dc_X12_isWord 11 rfl) (by decide) ?_
      refine p_idiv X (dcg dc_X12_isWord 12 rfl) (by decide) ?_
      refine p_istore_n X (dcg dc_X12_isWord 13 rfl) rfl (by decide) rfl ?_
      refine p_goto (tgt := 2) X (dcg dc_X12_isWord 14 rfl) (by decide) ?_
      refine p_pick [0, 1] ?_
      exact k0 _ (Option.some.inj hf).symm
    · have hf := if_f q hf
      obtain ⟨y6, hf, hy7⟩ := mr_some hf
      have hy7f := kf y6 hy7
      subst hy7f
      refine p_iconst (v := 0) X (dcg dc_X12_isWord 8 rfl) (by decide) ?_
      have er := Option.some.inj hf
      subst er
      exact p_zret X rfl rfl (dcg dc_X12_isWord 9 rfl) ⟨rfl, rfl⟩ (Nat.le_refl _) (Nat.le_refl _)
noncomputable def fX12_isWord_l2 (v0 : Int32) (v1 : Int32) : Option Int32 := wh (fun z : (Int32) => fX12_isWord_c2 v0 (z)) (v1)
set_option maxRecDepth 100000 in
theorem wX12_isWord_l2 {E : PE} {p : Program} {l : Launch} {e : Env} {s : State} {m : MethodId} {args : Array Value} {below : List Frame} {meth : Method} {c : Code} (X : Cx E p l e (rmv 1 0 0) s m args below meth c RX12 cX12_isWord 2 (some .boolean)) (hG : Gs E l) (hnm : meth.name = yX12_isWord.name) {v0 : Int32} {v1 : Int32} {h : PH} {r : Int32} (hf : fX12_isWord_l2 v0 v1 = some r)  : PW E p l e (rmv 1 0 0) s m args below meth c 2 0 0 (MQ below (QG E (fun v u => v = some (.int r) ∧ u = h)) args s 0 0 (pA E)) h 2 [(0, some (.int v0)), (1, some (.int v1))] [] := by
  unfold fX12_isWord_l2 at hf
  refine wh_ind (P := fun z => PW E p l e (rmv 1 0 0) s m args below meth c 2 0 0 (MQ below (QG E (fun v u => v = some (.int r) ∧ u = h)) args s 0 0 (pA E)) h 2 [(0, some (.int v0)), (1, some (.int (z)))] []) (fun z x0 hs i1 i2 => ?_) _ hf
  exact wX12_isWord_c2 (r := r) (v0 := v0) (v1 := z) (h := h) X hG hnm hs i1  i2
noncomputable def fX12_isWord (v0 : Int32) : Option Int32 :=
  fX12_isWord_l2 v0 v0
set_option maxRecDepth 100000 in
theorem wX12_isWord {E : PE} {l : Launch} (hG : Gs E l) {v0 : Int32} {h : PH} {r : Int32} (hf : fX12_isWord v0 = some r) : Ct E l 1 0 0 yX12_isWord cX12_isWord 2 (some .boolean) [.int v0] h (fun v u => v = some (.int r) ∧ u = h) := by
  refine ct_of hG (by decide) (Nat.le_of_ble_eq_true rfl) ?_
  intro p e s m args below meth c X hnm
  show PW E p l e _ s m args below meth c _ 0 0 _ h 0 [(0, some (.int v0))] []
  unfold fX12_isWord at hf
  refine p_iload_n X (dcg dc_X12_isWord 0 rfl) rfl rfl ?_
  refine p_istore_n X (dcg dc_X12_isWord 1 rfl) rfl (by decide) rfl ?_
  refine p_pick [0, 1] ?_
  exact wX12_isWord_l2 X hG hnm hf 
theorem dc_X10_lettersOf : decs cX10_lettersOf [(0, .iconst 0, 1), (1, .istore_n 1, 1), (2, .iload_n 1, 1), (3, .bipush 6, 2), (5, .if_icmp .ge 18, 3), (8, .iload_n 0, 1), (9, .getstatic 23, 3), (12, .iload_n 1, 1), (13, .iaload, 1), (14, .if_icmp .lt 9, 3), (17, .iinc 1 1, 3), (20, .goto (-18), 3), (23, .iload_n 1, 1), (24, .ireturn, 1)] = true := by decide +kernel
noncomputable def fX10_lettersOf_b23 (v1 : Int32) : Option Int32 :=
  some (v1)
set_option maxRecDepth 100000 in
theorem wX10_lettersOf_b23 {E : PE} {p : Program} {l : Launch} {e : Env} {s : State} {m : MethodId} {args : Array Value} {below : List Frame} {meth : Method} {c : Code} (X : Cx E p l e (rmv 0 0 0) s m args below meth c RX10 cX10_lettersOf 2 (some .int)) (hG : Gs E l) (hnm : meth.name = yX10_lettersOf.name) {v1 : Int32} {h : PH} {r : Int32} (hf : fX10_lettersOf_b23 v1 = some r)  : PW E p l e (rmv 0 0 0) s m args below meth c 2 0 0 (MQ below (QG E (fun v u => v = some (.int r) ∧ u = h)) args s 0 0 (pA E)) h 23 [(1, some (.int v1))] [] := by
  unfold fX10_lettersOf_b23 at hf
  refine p_iload_n X (dcg dc_X10_lettersOf 12 rfl) rfl rfl ?_
  have er := Option.some.inj hf
  subst er
  exact p_iret X rfl (dcg dc_X10_lettersOf 13 rfl) ⟨rfl, rfl⟩ (Nat.le_refl _) (Nat.le_refl _)
noncomputable def fX10_lettersOf_c2 (v0 : Int32) (v1 : Int32) : Option ((Int32) ⊕ Int32) :=
  if ((6 : Int32) ≤ v1) then (mr (fX10_lettersOf_b23 v1)) else
  gd (inb v1 7) (if (v0 < (pwv (Int32.toNatClampNeg v1))) then (mr (fX10_lettersOf_b23 v1)) else
  some (.inl ((v1 + 1))))
set_option maxRecDepth 100000 in
theorem wX10_lettersOf_c2 {E : PE} {p : Program} {l : Launch} {e : Env} {s : State} {m : MethodId} {args : Array Value} {below : List Frame} {meth : Method} {c : Code} (X : Cx E p l e (rmv 0 0 0) s m args below meth c RX10 cX10_lettersOf 2 (some .int)) (hG : Gs E l) (hnm : meth.name = yX10_lettersOf.name) {v0 : Int32} {v1 : Int32} {h : PH} {r : Int32} {x : ((Int32) ⊕ Int32)} (hf : fX10_lettersOf_c2 v0 v1 = some x) (k0 : ∀ z : (Int32), x = .inl z → PW E p l e (rmv 0 0 0) s m args below meth c 2 0 0 (MQ below (QG E (fun v u => v = some (.int r) ∧ u = h)) args s 0 0 (pA E)) h 2 [(0, some (.int v0)), (1, some (.int (z)))] []) (kf : ∀ z : Int32, x = .inr z → z = r) : PW E p l e (rmv 0 0 0) s m args below meth c 2 0 0 (MQ below (QG E (fun v u => v = some (.int r) ∧ u = h)) args s 0 0 (pA E)) h 2 [(0, some (.int v0)), (1, some (.int v1))] [] := by
  unfold fX10_lettersOf_c2 at hf
  refine p_iload_n X (dcg dc_X10_lettersOf 2 rfl) rfl rfl ?_
  refine p_bipush (v := 6) X (dcg dc_X10_lettersOf 3 rfl) (by decide) ?_
  refine p_icmp_ge (tgt := 23) X (dcg dc_X10_lettersOf 4 rfl) (by decide) (fun q => ?_) (fun q => ?_)
  · have hf := if_t q hf
    obtain ⟨y1, hf, hy2⟩ := mr_some hf
    have hy2f := kf y1 hy2
    subst hy2f
    refine p_pick [1] ?_
    exact wX10_lettersOf_b23 X hG hnm hf 
  · have hf := if_f q hf
    refine p_iload_n X (dcg dc_X10_lettersOf 5 rfl) rfl rfl ?_
    refine p_gets (v := .ref 1) X (gz_pow hG) tw_478 (dcg dc_X10_lettersOf 6 rfl) ?_
    refine p_iload_n X (dcg dc_X10_lettersOf 7 rfl) rfl rfl ?_
    obtain ⟨hg3, hf⟩ := gd_some hf
    refine p_powers X (dcg dc_X10_lettersOf 8 rfl) (vp_of_inb hg3) ?_
    refine p_icmp_lt (tgt := 23) X (dcg dc_X10_lettersOf 9 rfl) (by decide) (fun q => ?_) (fun q => ?_)
    · have hf := if_t q hf
      obtain ⟨y4, hf, hy5⟩ := mr_some hf
      have hy5f := kf y4 hy5
      subst hy5f
      refine p_pick [1] ?_
      exact wX10_lettersOf_b23 X hG hnm hf 
    · have hf := if_f q hf
      refine p_iinc (v := 1) X (dcg dc_X10_lettersOf 10 rfl) rfl (by decide) (by decide) rfl ?_
      refine p_goto (tgt := 2) X (dcg dc_X10_lettersOf 11 rfl) (by decide) ?_
      refine p_pick [0, 1] ?_
      exact k0 _ (Option.some.inj hf).symm
noncomputable def fX10_lettersOf_l2 (v0 : Int32) (v1 : Int32) : Option Int32 := wh (fun z : (Int32) => fX10_lettersOf_c2 v0 (z)) (v1)
set_option maxRecDepth 100000 in
theorem wX10_lettersOf_l2 {E : PE} {p : Program} {l : Launch} {e : Env} {s : State} {m : MethodId} {args : Array Value} {below : List Frame} {meth : Method} {c : Code} (X : Cx E p l e (rmv 0 0 0) s m args below meth c RX10 cX10_lettersOf 2 (some .int)) (hG : Gs E l) (hnm : meth.name = yX10_lettersOf.name) {v0 : Int32} {v1 : Int32} {h : PH} {r : Int32} (hf : fX10_lettersOf_l2 v0 v1 = some r)  : PW E p l e (rmv 0 0 0) s m args below meth c 2 0 0 (MQ below (QG E (fun v u => v = some (.int r) ∧ u = h)) args s 0 0 (pA E)) h 2 [(0, some (.int v0)), (1, some (.int v1))] [] := by
  unfold fX10_lettersOf_l2 at hf
  refine wh_ind (P := fun z => PW E p l e (rmv 0 0 0) s m args below meth c 2 0 0 (MQ below (QG E (fun v u => v = some (.int r) ∧ u = h)) args s 0 0 (pA E)) h 2 [(0, some (.int v0)), (1, some (.int (z)))] []) (fun z x0 hs i1 i2 => ?_) _ hf
  exact wX10_lettersOf_c2 (r := r) (v0 := v0) (v1 := z) (h := h) X hG hnm hs i1  i2
noncomputable def fX10_lettersOf (v0 : Int32) : Option Int32 :=
  fX10_lettersOf_l2 v0 (0 : Int32)
set_option maxRecDepth 100000 in
theorem wX10_lettersOf {E : PE} {l : Launch} (hG : Gs E l) {v0 : Int32} {h : PH} {r : Int32} (hf : fX10_lettersOf v0 = some r) : Ct E l 0 0 0 yX10_lettersOf cX10_lettersOf 2 (some .int) [.int v0] h (fun v u => v = some (.int r) ∧ u = h) := by
  refine ct_of hG (by decide) (Nat.le_of_ble_eq_true rfl) ?_
  intro p e s m args below meth c X hnm
  show PW E p l e _ s m args below meth c _ 0 0 _ h 0 [(0, some (.int v0))] []
  unfold fX10_lettersOf at hf
  refine p_iconst (v := 0) X (dcg dc_X10_lettersOf 0 rfl) (by decide) ?_
  refine p_istore_n X (dcg dc_X10_lettersOf 1 rfl) rfl (by decide) rfl ?_
  refine p_pick [0, 1] ?_
  exact wX10_lettersOf_l2 X hG hnm hf 
theorem dc_X10_orderOf : decs cX10_orderOf [(0, .iload_n 0, 1), (1, .getstatic 23, 3), (4, .bipush 6, 2), (6, .iload_n 0, 1), (7, .invokestatic 27, 3), (10, .isub, 1), (11, .iaload, 1), (12, .imul, 1), (13, .ireturn, 1)] = true := by decide +kernel
noncomputable def fX10_orderOf (v0 : Int32) : Option Int32 :=
  bd (fX10_lettersOf v0) (fun z1 =>
  gd (inb ((6 : Int32) - z1) 7) (some ((v0 * (pwv (Int32.toNatClampNeg ((6 : Int32) - z1)))))))
set_option maxRecDepth 100000 in
theorem wX10_orderOf {E : PE} {l : Launch} (hG : Gs E l) {v0 : Int32} {h : PH} {r : Int32} (hf : fX10_orderOf v0 = some r) : Ct E l 1 0 0 yX10_orderOf cX10_orderOf 1 (some .int) [.int v0] h (fun v u => v = some (.int r) ∧ u = h) := by
  refine ct_of hG (by decide) (Nat.le_of_ble_eq_true rfl) ?_
  intro p e s m args below meth c X hnm
  show PW E p l e _ s m args below meth c _ 0 0 _ h 0 [(0, some (.int v0))] []
  unfold fX10_orderOf at hf
  refine p_iload_n X (dcg dc_X10_orderOf 0 rfl) rfl rfl ?_
  refine p_gets (v := .ref 1) X (gz_pow hG) tw_478 (dcg dc_X10_orderOf 1 rfl) ?_
  refine p_bipush (v := 6) X (dcg dc_X10_orderOf 2 rfl) (by decide) ?_
  refine p_iload_n X (dcg dc_X10_orderOf 3 rfl) rfl rfl ?_
  obtain ⟨z1, hz1, hf⟩ := bd_some hf
  refine p_callS (As := [_]) X ml_X10_27 (dcg dc_X10_orderOf 4 rfl) rfl rfl  (wX10_lettersOf hG hz1) (by decide) (room4 (Nat.le_of_ble_eq_true rfl)) (Nat.le_refl _) (Nat.le_refl _) ?_
  rintro _ u9 ⟨rfl, e9⟩; have e9 := e9.symm; subst e9
  refine p_isub X (dcg dc_X10_orderOf 5 rfl) ?_
  obtain ⟨hg2, hf⟩ := gd_some hf
  refine p_powers X (dcg dc_X10_orderOf 6 rfl) (vp_of_inb hg2) ?_
  refine p_imul X (dcg dc_X10_orderOf 7 rfl) ?_
  have er := Option.some.inj hf
  subst er
  exact p_iret X rfl (dcg dc_X10_orderOf 8 rfl) ⟨rfl, rfl⟩ (Nat.le_refl _) (Nat.le_refl _)
theorem dc_X9_has : decs cX9_has [(0, .iload_n 1, 1), (1, .ifCond .lt 9, 3), (4, .iload_n 1, 1), (5, .bipush 100, 2), (7, .if_icmp .lt 5, 3), (10, .iconst 0, 1), (11, .ireturn, 1), (12, .iload_n 1, 1), (13, .bipush 64, 2), (15, .if_icmp .ge 10, 3), (18, .aload_n 0, 1), (19, .getfield 11, 3), (22, .goto 7, 3), (25, .aload_n 0, 1), (26, .getfield 15, 3), (29, .lstore_n 2, 1), (30, .lload_n 2, 1), (31, .iload_n 1, 1), (32, .bipush 64, 2), (34, .irem, 1), (35, .lushr, 1), (36, .lconst 1, 1), (37, .land, 1), (38, .lconst 0, 1), (39, .lcmp, 1), (40, .ifCond .eq 7, 3), (43, .iconst 1, 1), (44, .goto 4, 3), (47, .iconst 0, 1), (48, .ireturn, 1)] = true := by decide +kernel
noncomputable def fX9_has_b10  (h : PH) : Option Int32 :=
  some ((0 : Int32))
set_option maxRecDepth 100000 in
theorem wX9_has_b10 {E : PE} {p : Program} {l : Launch} {e : Env} {s : State} {m : MethodId} {args : Array Value} {below : List Frame} {meth : Method} {c : Code} (X : Cx E p l e (rmv 0 0 0) s m args below meth c RX9 cX9_has 4 (some .boolean)) (hG : Gs E l) (hnm : meth.name = yX9_has.name)  {h : PH} {r : Int32} (hf : fX9_has_b10  h = some r)  : PW E p l e (rmv 0 0 0) s m args below meth c 4 0 0 (MQ below (QG E (fun v u => v = some (.int r) ∧ u = h)) args s 0 0 (pA E)) h 10 [] [] := by
  unfold fX9_has_b10 at hf
  refine p_iconst (v := 0) X (dcg dc_X9_has 5 rfl) (by decide) ?_
  have er := Option.some.inj hf
  subst er
  exact p_zret X rfl rfl (dcg dc_X9_has 6 rfl) ⟨rfl, rfl⟩ (Nat.le_refl _) (Nat.le_refl _)
noncomputable def fX9_has_b48 (t0 : Int32) (h : PH) : Option Int32 :=
  gd (t0 &&& 1 = t0) (some (t0))
set_option maxRecDepth 100000 in
theorem wX9_has_b48 {E : PE} {p : Program} {l : Launch} {e : Env} {s : State} {m : MethodId} {args : Array Value} {below : List Frame} {meth : Method} {c : Code} (X : Cx E p l e (rmv 0 0 0) s m args below meth c RX9 cX9_has 4 (some .boolean)) (hG : Gs E l) (hnm : meth.name = yX9_has.name) {t0 : Int32} {h : PH} {r : Int32} (hf : fX9_has_b48 t0 h = some r)  : PW E p l e (rmv 0 0 0) s m args below meth c 4 0 0 (MQ below (QG E (fun v u => v = some (.int r) ∧ u = h)) args s 0 0 (pA E)) h 48 [] [.int t0] := by
  unfold fX9_has_b48 at hf
  obtain ⟨hg2, hf⟩ := gd_some hf
  have er := Option.some.inj hf
  subst er
  exact p_zret X rfl (congrArg Value.int hg2) (dcg dc_X9_has 29 rfl) ⟨rfl, rfl⟩ (Nat.le_refl _) (Nat.le_refl _)
noncomputable def fX9_has_b29 (v1 : Int32) (t0 : Int64) (h : PH) : Option Int32 :=
  if ((lg_cmp ((Int64.toUInt64 t0 >>> ((Int32.toInt64 (v1 - v1 / (64 : Int32) * (64 : Int32))).toUInt64 &&& Int64.toUInt64 63)).toInt64 &&& (1 : Int64)) (0 : Int64)) = 0) then (fX9_has_b48 (0 : Int32) h) else
  fX9_has_b48 (1 : Int32) h
set_option maxRecDepth 100000 in
theorem wX9_has_b29 {E : PE} {p : Program} {l : Launch} {e : Env} {s : State} {m : MethodId} {args : Array Value} {below : List Frame} {meth : Method} {c : Code} (X : Cx E p l e (rmv 0 0 0) s m args below meth c RX9 cX9_has 4 (some .boolean)) (hG : Gs E l) (hnm : meth.name = yX9_has.name) {v1 : Int32} {t0 : Int64} {h : PH} {r : Int32} (hf : fX9_has_b29 v1 t0 h = some r)  : PW E p l e (rmv 0 0 0) s m args below meth c 4 0 0 (MQ below (QG E (fun v u => v = some (.int r) ∧ u = h)) args s 0 0 (pA E)) h 29 [(1, some (.int v1))] [.long t0] := by
  unfold fX9_has_b29 at hf
  refine p_lstore_n X (dcg dc_X9_has 15 rfl) rfl (by decide) rfl ?_
  refine p_lload_n X (dcg dc_X9_has 16 rfl) rfl rfl ?_
  refine p_iload_n X (dcg dc_X9_has 17 rfl) rfl rfl ?_
  refine p_bipush (v := 64) X (dcg dc_X9_has 18 rfl) (by decide) ?_
  refine p_irem X (dcg dc_X9_has 19 rfl) (by decide) ?_
  refine p_lushr X (dcg dc_X9_has 20 rfl) ?_
  refine p_lconst (v := 1) X (dcg dc_X9_has 21 rfl) (by decide) ?_
  refine p_land X (dcg dc_X9_has 22 rfl) ?_
  refine p_lconst (v := 0) X (dcg dc_X9_has 23 rfl) (by decide) ?_
  refine p_lcmp X (dcg dc_X9_has 24 rfl) ?_
  refine p_if_eq (tgt := 47) X (dcg dc_X9_has 25 rfl) (by decide) (fun q => ?_) (fun q => ?_)
  · have hf := if_t q hf
    refine p_iconst (v := 0) X (dcg dc_X9_has 28 rfl) (by decide) ?_
    refine p_pick [] ?_
    exact wX9_has_b48 X hG hnm hf 
  · have hf := if_f q hf
    refine p_iconst (v := 1) X (dcg dc_X9_has 26 rfl) (by decide) ?_
    refine p_goto (tgt := 48) X (dcg dc_X9_has 27 rfl) (by decide) ?_
    refine p_pick [] ?_
    exact wX9_has_b48 X hG hnm hf 
noncomputable def fX9_has (v0 : Nat) (v1 : Int32) (h : PH) : Option Int32 :=
  if (v1 < 0) then (fX9_has_b10  h) else
  if (v1 < (100 : Int32)) then (if ((64 : Int32) ≤ v1) then (gd (hK h v0 = 9) (fX9_has_b29 v1 (hL h 9 v0 1) h)) else
  gd (hK h v0 = 9) (fX9_has_b29 v1 (hL h 9 v0 0) h)) else
  fX9_has_b10  h
set_option maxRecDepth 100000 in
theorem wX9_has {E : PE} {l : Launch} (hG : Gs E l) {v0 : Nat} {v1 : Int32} {h : PH} {r : Int32} (hf : fX9_has v0 v1 h = some r) : Ct E l 0 0 0 yX9_has cX9_has 4 (some .boolean) [.ref v0, .int v1] h (fun v u => v = some (.int r) ∧ u = h) := by
  refine ct_of hG (by decide) (Nat.le_of_ble_eq_true rfl) ?_
  intro p e s m args below meth c X hnm
  show PW E p l e _ s m args below meth c _ 0 0 _ h 0 [(0, some (.ref v0)), (1, some (.int v1))] []
  unfold fX9_has at hf
  refine p_iload_n X (dcg dc_X9_has 0 rfl) rfl rfl ?_
  refine p_if_lt (tgt := 10) X (dcg dc_X9_has 1 rfl) (by decide) (fun q => ?_) (fun q => ?_)
  · have hf := if_t q hf
    refine p_pick [] ?_
    exact wX9_has_b10 X hG hnm hf 
  · have hf := if_f q hf
    refine p_iload_n X (dcg dc_X9_has 2 rfl) rfl rfl ?_
    refine p_bipush (v := 100) X (dcg dc_X9_has 3 rfl) (by decide) ?_
    refine p_icmp_lt (tgt := 12) X (dcg dc_X9_has 4 rfl) (by decide) (fun q => ?_) (fun q => ?_)
    · have hf := if_t q hf
      refine p_iload_n X (dcg dc_X9_has 7 rfl) rfl rfl ?_
      refine p_bipush (v := 64) X (dcg dc_X9_has 8 rfl) (by decide) ?_
      refine p_icmp_ge (tgt := 25) X (dcg dc_X9_has 9 rfl) (by decide) (fun q => ?_) (fun q => ?_)
      · have hf := if_t q hf
        refine p_aload_n X (dcg dc_X9_has 13 rfl) rfl rfl ?_
        obtain ⟨hk1, hf⟩ := gd_some hf
        refine p_getL X fl_X9_15 rfl (by decide) (dcg dc_X9_has 14 rfl) hk1 ?_
        refine p_pick [1] ?_
        exact wX9_has_b29 X hG hnm hf 
      · have hf := if_f q hf
        refine p_aload_n X (dcg dc_X9_has 10 rfl) rfl rfl ?_
        obtain ⟨hk3, hf⟩ := gd_some hf
        refine p_getL X fl_X9_11 rfl (by decide) (dcg dc_X9_has 11 rfl) hk3 ?_
        refine p_goto (tgt := 29) X (dcg dc_X9_has 12 rfl) (by decide) ?_
        refine p_pick [1] ?_
        exact wX9_has_b29 X hG hnm hf 
    · have hf := if_f q hf
      refine p_pick [] ?_
      exact wX9_has_b10 X hG hnm hf 
theorem dc_X9_put : decs cX9_put [(0, .iload_n 1, 1), (1, .bipush 64, 2), (3, .if_icmp .ge 18, 3), (6, .aload_n 0, 1), (7, .dup, 1), (8, .getfield 11, 3), (11, .lconst 1, 1), (12, .iload_n 1, 1), (13, .lshl, 1), (14, .lor, 1), (15, .putfield 11, 3), (18, .goto 18, 3), (21, .aload_n 0, 1), (22, .dup, 1), (23, .getfield 15, 3), (26, .lconst 1, 1), (27, .iload_n 1, 1), (28, .bipush 64, 2), (30, .isub, 1), (31, .lshl, 1), (32, .lor, 1), (33, .putfield 15, 3), (36, .return_, 1)] = true := by decide +kernel
noncomputable def fX9_put_b36  (h : PH) : Option PH :=
  some (h)
set_option maxRecDepth 100000 in
theorem mX9_put_b36  {h : PH} {r : PH} (hf : fX9_put_b36  h = some r) : eqz h (hX r) (hV r) := by
  unfold fX9_put_b36 at hf
  have hle := eqz_rf h
  have ee := Option.some.inj hf; subst ee; exact hle
set_option maxRecDepth 100000 in
theorem wX9_put_b36 {E : PE} {p : Program} {l : Launch} {e : Env} {s : State} {m : MethodId} {args : Array Value} {below : List Frame} {meth : Method} {c : Code} (X : Cx E p l e (rmv 0 0 0) s m args below meth c RX9 cX9_put 2 (none)) (hG : Gs E l) (hnm : meth.name = yX9_put.name)  {h : PH} {r : PH} (hf : fX9_put_b36  h = some r)  : PW E p l e (rmv 0 0 0) s m args below meth c 2 0 0 (MQ below (QG E (fun v u => v = none ∧ u = r)) args s 0 0 (pA E)) h 36 [] [] := by
  unfold fX9_put_b36 at hf
  have er := Option.some.inj hf
  subst er
  exact p_vret X rfl (dcg dc_X9_put 22 rfl) ⟨rfl, rfl⟩ (Nat.le_refl _) (Nat.le_refl _)
noncomputable def fX9_put (v0 : Nat) (v1 : Int32) (h : PH) : Option PH :=
  if ((64 : Int32) ≤ v1) then (gd (hK h v0 = 9) (lt (sL h 9 v0 1 ((hL h 9 v0 1) ||| ((1 : Int64) <<< (Int32.toInt64 (v1 - (64 : Int32)) &&& 63)))) (fun h2 =>
  fX9_put_b36  h2))) else
  gd (hK h v0 = 9) (lt (sL h 9 v0 0 ((hL h 9 v0 0) ||| ((1 : Int64) <<< (Int32.toInt64 v1 &&& 63)))) (fun h4 =>
  fX9_put_b36  h4))
set_option maxRecDepth 100000 in
theorem mX9_put {v0 : Nat} {v1 : Int32} {h : PH} {r : PH} (hf : fX9_put v0 v1 h = some r) : eqz h (hX r) (hV r) := by
  unfold fX9_put at hf
  have hle := eqz_rf h
  rcases ite_or hf with ⟨q, hf⟩ | ⟨q, hf⟩
  · have hf := if_t q hf
    obtain ⟨hk1, hf⟩ := gd_some hf
    obtain ⟨h2, rfl, hf⟩ := lt_some hf
    exact eqz_rt (mX9_put_b36 hf) hle
  · have hf := if_f q hf
    obtain ⟨hk3, hf⟩ := gd_some hf
    obtain ⟨h4, rfl, hf⟩ := lt_some hf
    exact eqz_rt (mX9_put_b36 hf) hle
set_option maxRecDepth 100000 in
theorem wX9_put {E : PE} {l : Launch} (hG : Gs E l) {v0 : Nat} {v1 : Int32} {h : PH} {r : PH} (hf : fX9_put v0 v1 h = some r) : Ct E l 0 0 0 yX9_put cX9_put 2 (none) [.ref v0, .int v1] h (fun v u => v = none ∧ u = r) := by
  refine ct_of hG (by decide) (Nat.le_of_ble_eq_true rfl) ?_
  intro p e s m args below meth c X hnm
  show PW E p l e _ s m args below meth c _ 0 0 _ h 0 [(0, some (.ref v0)), (1, some (.int v1))] []
  unfold fX9_put at hf
  refine p_iload_n X (dcg dc_X9_put 0 rfl) rfl rfl ?_
  refine p_bipush (v := 64) X (dcg dc_X9_put 1 rfl) (by decide) ?_
  refine p_icmp_ge (tgt := 21) X (dcg dc_X9_put 2 rfl) (by decide) (fun q => ?_) (fun q => ?_)
  · have hf := if_t q hf
    refine p_aload_n X (dcg dc_X9_put 12 rfl) rfl rfl ?_
    refine p_dup X (dcg dc_X9_put 13 rfl) rfl ?_
    obtain ⟨hk1, hf⟩ := gd_some hf
    refine p_getL X fl_X9_15 rfl (by decide) (dcg dc_X9_put 14 rfl) hk1 ?_
    refine p_lconst (v := 1) X (dcg dc_X9_put 15 rfl) (by decide) ?_
    refine p_iload_n X (dcg dc_X9_put 16 rfl) rfl rfl ?_
    refine p_bipush (v := 64) X (dcg dc_X9_put 17 rfl) (by decide) ?_
    refine p_isub X (dcg dc_X9_put 18 rfl) ?_
    refine p_lshl X (dcg dc_X9_put 19 rfl) ?_
    refine p_lor X (dcg dc_X9_put 20 rfl) ?_
    refine p_putL X fl_X9_15 rfl (by decide) (fun q hq => by cases hq; rfl) rfl rfl (dcg dc_X9_put 21 rfl) hk1 ?_
    obtain ⟨h2, rfl, hf⟩ := lt_some hf
    refine p_pick [] ?_
    exact wX9_put_b36 X hG hnm hf 
  · have hf := if_f q hf
    refine p_aload_n X (dcg dc_X9_put 3 rfl) rfl rfl ?_
    refine p_dup X (dcg dc_X9_put 4 rfl) rfl ?_
    obtain ⟨hk3, hf⟩ := gd_some hf
    refine p_getL X fl_X9_11 rfl (by decide) (dcg dc_X9_put 5 rfl) hk3 ?_
    refine p_lconst (v := 1) X (dcg dc_X9_put 6 rfl) (by decide) ?_
    refine p_iload_n X (dcg dc_X9_put 7 rfl) rfl rfl ?_
    refine p_lshl X (dcg dc_X9_put 8 rfl) ?_
    refine p_lor X (dcg dc_X9_put 9 rfl) ?_
    refine p_putL X fl_X9_11 rfl (by decide) (fun q hq => by cases hq; rfl) rfl rfl (dcg dc_X9_put 10 rfl) hk3 ?_
    obtain ⟨h4, rfl, hf⟩ := lt_some hf
    refine p_goto (tgt := 36) X (dcg dc_X9_put 11 rfl) (by decide) ?_
    refine p_pick [] ?_
    exact wX9_put_b36 X hG hnm hf 
