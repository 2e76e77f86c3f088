/-! methods of the program (by program: wip/whole/gen2.py) -/
theorem dc_X4_isMet : decs cX4_isMet [(0, .iload_n 2, 1), (1, .bipush 40, 2), (3, .if_icmp .le 5, 3), (6, .iconst 0, 1), (7, .ireturn, 1), (8, .aload_n 0, 1), (9, .invokevirtual 63, 3), (12, .ifCond .eq 17, 3), (15, .aload_n 0, 1), (16, .aload_n 1, 1), (17, .invokevirtual 67, 3), (20, .ifCond .le 7, 3), (23, .iconst 1, 1), (24, .goto 4, 3), (27, .iconst 0, 1), (28, .ireturn, 1), (29, .iconst 0, 1), (30, .istore_n 3, 1), (31, .iload_n 3, 1), (32, .aload_n 0, 1), (33, .getfield 25, 3), (36, .invokevirtual 71, 3), (39, .if_icmp .ge 73, 3), (42, .aload_n 0, 1), (43, .getfield 25, 3), (46, .iload_n 3, 1), (47, .invokevirtual 75, 3), (50, .checkcast 10, 3), (53, .aload_n 1, 1), (54, .iload_n 2, 1), (55, .iconst 1, 1), (56, .iadd, 1), (57, .invokestatic 79, 3), (60, .istore 4, 2), (62, .aload_n 0, 1), (63, .getfield 9, 3), (66, .bipush 6, 2), (68, .if_icmp .ne 10, 3), (71, .iload 4, 2), (73, .ifCond .eq 5, 3), (76, .iconst 1, 1), (77, .ireturn, 1), (78, .aload_n 0, 1), (79, .getfield 9, 3), (82, .iconst 5, 1), (83, .if_icmp .ne 8, 3), (86, .iload 4, 2), (88, .ifCond .eq 16, 3), (91, .aload_n 0, 1), (92, .getfield 9, 3), (95, .iconst 4, 1), (96, .if_icmp .ne 10, 3), (99, .iload 4, 2), (101, .ifCond .eq 5, 3), (104, .iconst 0, 1), (105, .ireturn, 1), (106, .iinc 3 1, 3), (109, .goto (-78), 3), (112, .aload_n 0, 1), (113, .getfield 9, 3), (116, .bipush 6, 2), (118, .if_icmp .eq 7, 3), (121, .iconst 1, 1), (122, .goto 4, 3), (125, .iconst 0, 1), (126, .ireturn, 1)] = true := by decide +kernel
noncomputable def fX4_isMet_R_b126 (rc0 : (Option Nat → Option Nat → Int32 → PH → Option Int32)) (t0 : Int32) (h : PH) : Option Int32 :=
  gd (t0 &&& 1 = t0) (some (t0))
set_option maxRecDepth 100000 in
theorem wX4_isMet_R_b126 {E : PE} {p : Program} {l : Launch} {e : Env} {s : State} {m : MethodId} {args : Array Value} {below : List Frame} {meth : Method} {c : Code} {nn : Nat} (X : Cx E p l e (rmv (3 + nn + 1) 0 0) s m args below meth c RX4 cX4_isMet 5 (some .boolean)) (hG : Gs E l) (hnm : meth.name = yX4_isMet.name) {rc0 : (Option Nat → Option Nat → Int32 → PH → Option Int32)} (hw0 : ∀ {a0 : Option Nat} {a1 : Option Nat} {a2 : Int32} {h : PH} {r : Int32}, rc0 a0 a1 a2 h = some r → Ct E l (3 + nn) 0 0 yX4_isMet cX4_isMet 5 (some .boolean) [va_rf a0, va_rf a1, .int a2] h (fun v u => v = some (.int r) ∧ u = h)) {t0 : Int32} {h : PH} {r : Int32} (hf : fX4_isMet_R_b126 rc0 t0 h = some r)  : PW E p l e (rmv (3 + nn + 1) 0 0) s m args below meth c 5 0 0 (MQ below (QG E (fun v u => v = some (.int r) ∧ u = h)) args s 0 0 (pA E)) h 126 [] [.int t0] := by
  unfold fX4_isMet_R_b126 at hf
  obtain ⟨hg14, hf⟩ := gd_some hf
  have er := Option.some.inj hf
  subst er
  exact p_zret X rfl (congrArg Value.int hg14) (dcg dc_X4_isMet 65 rfl) ⟨rfl, rfl⟩ (Nat.le_refl _) (Nat.le_refl _)
noncomputable def fX4_isMet_R_b106 (rc0 : (Option Nat → Option Nat → Int32 → PH → Option Int32)) (v0 : Option Nat) (v1 : Option Nat) (v2 : Int32) (v3 : Int32) (h : PH) : Option ((Int32) ⊕ Int32) :=
  some (.inl ((v3 + 1)))
set_option maxRecDepth 100000 in
theorem wX4_isMet_R_b106 {E : PE} {p : Program} {l : Launch} {e : Env} {s : State} {m : MethodId} {args : Array Value} {below : List Frame} {meth : Method} {c : Code} {nn : Nat} (X : Cx E p l e (rmv (3 + nn + 1) 0 0) s m args below meth c RX4 cX4_isMet 5 (some .boolean)) (hG : Gs E l) (hnm : meth.name = yX4_isMet.name) {rc0 : (Option Nat → Option Nat → Int32 → PH → Option Int32)} (hw0 : ∀ {a0 : Option Nat} {a1 : Option Nat} {a2 : Int32} {h : PH} {r : Int32}, rc0 a0 a1 a2 h = some r → Ct E l (3 + nn) 0 0 yX4_isMet cX4_isMet 5 (some .boolean) [va_rf a0, va_rf a1, .int a2] h (fun v u => v = some (.int r) ∧ u = h)) {v0 : Option Nat} {v1 : Option Nat} {v2 : Int32} {v3 : Int32} {h : PH} {r : Int32} {x : ((Int32) ⊕ Int32)} (hf : fX4_isMet_R_b106 rc0 v0 v1 v2 v3 h = some x) (k0 : ∀ z : (Int32), x = .inl z → PW E p l e (rmv (3 + nn + 1) 0 0) s m args below meth c 5 0 0 (MQ below (QG E (fun v u => v = some (.int r) ∧ u = h)) args s 0 0 (pA E)) h 31 [(0, some (va_rf v0)), (1, some (va_rf v1)), (2, some (.int v2)), (3, some (.int (z)))] []) (kf : ∀ z : Int32, x = .inr z → z = r) : PW E p l e (rmv (3 + nn + 1) 0 0) s m args below meth c 5 0 0 (MQ below (QG E (fun v u => v = some (.int r) ∧ u = h)) args s 0 0 (pA E)) h 106 [(0, some (va_rf v0)), (1, some (va_rf v1)), (2, some (.int v2)), (3, some (.int v3))] [] := by
  unfold fX4_isMet_R_b106 at hf
  refine p_iinc (v := 1) X (dcg dc_X4_isMet 56 rfl) rfl (by decide) (by decide) rfl ?_
  refine p_goto (tgt := 31) X (dcg dc_X4_isMet 57 rfl) (by decide) ?_
  refine p_pick [0, 1, 2, 3] ?_
  exact k0 _ (Option.some.inj hf).symm
noncomputable def fX4_isMet_R_b104 (rc0 : (Option Nat → Option Nat → Int32 → PH → Option Int32))  (h : PH) : Option Int32 :=
  some ((0 : Int32))
set_option maxRecDepth 100000 in
theorem wX4_isMet_R_b104 {E : PE} {p : Program} {l : Launch} {e : Env} {s : State} {m : MethodId} {args : Array Value} {below : List Frame} {meth : Method} {c : Code} {nn : Nat} (X : Cx E p l e (rmv (3 + nn + 1) 0 0) s m args below meth c RX4 cX4_isMet 5 (some .boolean)) (hG : Gs E l) (hnm : meth.name = yX4_isMet.name) {rc0 : (Option Nat → Option Nat → Int32 → PH → Option Int32)} (hw0 : ∀ {a0 : Option Nat} {a1 : Option Nat} {a2 : Int32} {h : PH} {r : Int32}, rc0 a0 a1 a2 h = some r → Ct E l (3 + nn) 0 0 yX4_isMet cX4_isMet 5 (some .boolean) [va_rf a0, va_rf a1, .int a2] h (fun v u => v = some (.int r) ∧ u = h))  {h : PH} {r : Int32} (hf : fX4_isMet_R_b104 rc0  h = some r)  : PW E p l e (rmv (3 + nn + 1) 0 0) s m args below meth c 5 0 0 (MQ below (QG E (fun v u => v = some (.int r) ∧ u = h)) args s 0 0 (pA E)) h 104 [] [] := by
  unfold fX4_isMet_R_b104 at hf
  refine p_iconst (v := 0) X (dcg dc_X4_isMet 54 rfl) (by decide) ?_
  have er := Option.some.inj hf
  subst er
  exact p_zret X rfl rfl (dcg dc_X4_isMet 55 rfl) ⟨rfl, rfl⟩ (Nat.le_refl _) (Nat.le_refl _)
noncomputable def fX4_isMet_R_b91 (rc0 : (Option Nat → Option Nat → Int32 → PH → Option Int32)) (v0 : Option Nat) (v1 : Option Nat) (v2 : Int32) (v3 : Int32) (v4 : Int32) (h : PH) : Option ((Int32) ⊕ Int32) :=
  gs v0 (fun a26 =>
  gd (hK h a26 = 4) (if (¬ (hI h 4 a26 0) = (4 : Int32)) then (fX4_isMet_R_b106 rc0 (some a26) v1 v2 v3 h) else
  if (v4 = 0) then (fX4_isMet_R_b106 rc0 (some a26) v1 v2 v3 h) else
  mr (fX4_isMet_R_b104 rc0  h)))
set_option maxRecDepth 100000 in
theorem wX4_isMet_R_b91 {E : PE} {p : Program} {l : Launch} {e : Env} {s : State} {m : MethodId} {args : Array Value} {below : List Frame} {meth : Method} {c : Code} {nn : Nat} (X : Cx E p l e (rmv (3 + nn + 1) 0 0) s m args below meth c RX4 cX4_isMet 5 (some .boolean)) (hG : Gs E l) (hnm : meth.name = yX4_isMet.name) {rc0 : (Option Nat → Option Nat → Int32 → PH → Option Int32)} (hw0 : ∀ {a0 : Option Nat} {a1 : Option Nat} {a2 : Int32} {h : PH} {r : Int32}, rc0 a0 a1 a2 h = some r → Ct E l (3 + nn) 0 0 yX4_isMet cX4_isMet 5 (some .boolean) [va_rf a0, va_rf a1, .int a2] h (fun v u => v = some (.int r) ∧ u = h)) {v0 : Option Nat} {v1 : Option Nat} {v2 : Int32} {v3 : Int32} {v4 : Int32} {h : PH} {r : Int32} {x : ((Int32) ⊕ Int32)} (hf : fX4_isMet_R_b91 rc0 v0 v1 v2 v3 v4 h = some x) (k0 : ∀ z : (Int32), x = .inl z → PW E p l e (rmv (3 + nn + 1) 0 0) s m args below meth c 5 0 0 (MQ below (QG E (fun v u => v = some (.int r) ∧ u = h)) args s 0 0 (pA E)) h 31 [(0, some (va_rf v0)), (1, some (va_rf v1)), (2, some (.int v2)), (3, some (.int (z)))] []) (kf : ∀ z : Int32, x = .inr z → z = r) : PW E p l e (rmv (3 + nn + 1) 0 0) s m args below meth c 5 0 0 (MQ below (QG E (fun v u => v = some (.int r) ∧ u = h)) args s 0 0 (pA E)) h 91 [(0, some (va_rf v0)), (1, some (va_rf v1)), (2, some (.int v2)), (3, some (.int v3)), (4, some (.int v4))] [] := by
  unfold fX4_isMet_R_b91 at hf
  refine p_aloadq_n X (dcg dc_X4_isMet 48 rfl) rfl rfl ?_
  obtain ⟨a26, e27, hf⟩ := gs_some hf
  first | subst e27 | (try rw [e27])
  obtain ⟨hk28, hf⟩ := gd_some hf
  refine p_getI X fl_X4_9 rfl (by decide) (dcg dc_X4_isMet 49 rfl) hk28 ?_
  refine p_iconst (v := 4) X (dcg dc_X4_isMet 50 rfl) (by decide) ?_
  refine p_icmp_ne (tgt := 106) X (dcg dc_X4_isMet 51 rfl) (by decide) (fun q => ?_) (fun q => ?_)
  · have hf := if_t q hf
    refine p_pick [0, 1, 2, 3] ?_
    exact wX4_isMet_R_b106 X hG hnm hw0 hf k0 kf
  · have hf := if_f q hf
    refine p_iload X (dcg dc_X4_isMet 52 rfl) rfl ?_
    refine p_if_eq (tgt := 106) X (dcg dc_X4_isMet 53 rfl) (by decide) (fun q => ?_) (fun q => ?_)
    · have hf := if_t q hf
      refine p_pick [0, 1, 2, 3] ?_
      exact wX4_isMet_R_b106 X hG hnm hw0 hf k0 kf
    · have hf := if_f q hf
      obtain ⟨y29, hf, hy30⟩ := mr_some hf
      have hy30f := kf y29 hy30
      subst hy30f
      refine p_pick [] ?_
      exact wX4_isMet_R_b104 X hG hnm hw0 hf 
noncomputable def fX4_isMet_R_b78 (rc0 : (Option Nat → Option Nat → Int32 → PH → Option Int32)) (v0 : Option Nat) (v1 : Option Nat) (v2 : Int32) (v3 : Int32) (v4 : Int32) (h : PH) : Option ((Int32) ⊕ Int32) :=
  gs v0 (fun a23 =>
  gd (hK h a23 = 4) (if (¬ (hI h 4 a23 0) = (5 : Int32)) then (fX4_isMet_R_b91 rc0 (some a23) v1 v2 v3 v4 h) else
  if (v4 = 0) then (mr (fX4_isMet_R_b104 rc0  h)) else
  fX4_isMet_R_b91 rc0 (some a23) v1 v2 v3 v4 h))
set_option maxRecDepth 100000 in
theorem wX4_isMet_R_b78 {E : PE} {p : Program} {l : Launch} {e : Env} {s : State} {m : MethodId} {args : Array Value} {below : List Frame} {meth : Method} {c : Code} {nn : Nat} (X : Cx E p l e (rmv (3 + nn + 1) 0 0) s m args below meth c RX4 cX4_isMet 5 (some .boolean)) (hG : Gs E l) (hnm : meth.name = yX4_isMet.name) {rc0 : (Option Nat → Option Nat → Int32 → PH → Option Int32)} (hw0 : ∀ {a0 : Option Nat} {a1 : Option Nat} {a2 : Int32} {h : PH} {r : Int32}, rc0 a0 a1 a2 h = some r → Ct E l (3 + nn) 0 0 yX4_isMet cX4_isMet 5 (some .boolean) [va_rf a0, va_rf a1, .int a2] h (fun v u => v = some (.int r) ∧ u = h)) {v0 : Option Nat} {v1 : Option Nat} {v2 : Int32} {v3 : Int32} {v4 : Int32} {h : PH} {r : Int32} {x : ((Int32) ⊕ Int32)} (hf : fX4_isMet_R_b78 rc0 v0 v1 v2 v3 v4 h = some x) (k0 : ∀ z : (Int32), x = .inl z → PW E p l e (rmv (3 + nn + 1) 0 0) s m args below meth c 5 0 0 (MQ below (QG E (fun v u => v = some (.int r) ∧ u = h)) args s 0 0 (pA E)) h 31 [(0, some (va_rf v0)), (1, some (va_rf v1)), (2, some (.int v2)), (3, some (.int (z)))] []) (kf : ∀ z : Int32, x = .inr z → z = r) : PW E p l e (rmv (3 + nn + 1) 0 0) s m args below meth c 5 0 0 (MQ below (QG E (fun v u => v = some (.int r) ∧ u = h)) args s 0 0 (pA E)) h 78 [(0, some (va_rf v0)), (1, some (va_rf v1)), (2, some (.int v2)), (3, some (.int v3)), (4, some (.int v4))] [] := by
  unfold fX4_isMet_R_b78 at hf
  refine p_aloadq_n X (dcg dc_X4_isMet 42 rfl) rfl rfl ?_
  obtain ⟨a23, e24, hf⟩ := gs_some hf
  first | subst e24 | (try rw [e24])
  obtain ⟨hk25, hf⟩ := gd_some hf
  refine p_getI X fl_X4_9 rfl (by decide) (dcg dc_X4_isMet 43 rfl) hk25 ?_
  refine p_iconst (v := 5) X (dcg dc_X4_isMet 44 rfl) (by decide) ?_
  refine p_icmp_ne (tgt := 91) X (dcg dc_X4_isMet 45 rfl) (by decide) (fun q => ?_) (fun q => ?_)
  · have hf := if_t q hf
    refine p_pick [0, 1, 2, 3, 4] ?_
    exact wX4_isMet_R_b91 X hG hnm hw0 hf k0 kf
  · have hf := if_f q hf
    refine p_iload X (dcg dc_X4_isMet 46 rfl) rfl ?_
    refine p_if_eq (tgt := 104) X (dcg dc_X4_isMet 47 rfl) (by decide) (fun q => ?_) (fun q => ?_)
    · have hf := if_t q hf
      obtain ⟨y31, hf, hy32⟩ := mr_some hf
      have hy32f := kf y31 hy32
      subst hy32f
      refine p_pick [] ?_
      exact wX4_isMet_R_b104 X hG hnm hw0 hf 
    · have hf := if_f q hf
      refine p_pick [0, 1, 2, 3, 4] ?_
      exact wX4_isMet_R_b91 X hG hnm hw0 hf k0 kf
noncomputable def fX4_isMet_R_c31 (rc0 : (Option Nat → Option Nat → Int32 → PH → Option Int32)) (v0 : Option Nat) (v1 : Option Nat) (v2 : Int32) (v3 : Int32) (h : PH) : Option ((Int32) ⊕ Int32) :=
  gs v0 (fun a5 =>
  gd (hK h a5 = 4) (gs (hR h 4 a5 3) (fun a8 =>
  gd (hK h a8 = 14) (bd (fJx4a65c_size_8abf5 a8 h) (fun z11 =>
  if (z11 ≤ v3) then (mr (if ((hI h 4 a5 0) = (6 : Int32)) then (fX4_isMet_R_b126 rc0 (0 : Int32) h) else
  fX4_isMet_R_b126 rc0 (1 : Int32) h)) else
  gs (hR h 4 a5 3) (fun a15 =>
  gd (hK h a15 = 14) (bd (fJx4a65c_get_915e3 a15 v3 h) (fun z18 =>
  gs z18 (fun a19 =>
  gd (hK h a19 = 4) (bd (rc0 (some a19) v1 (v2 + (1 : Int32)) h) (fun z22 =>
  if (¬ (hI h 4 a5 0) = (6 : Int32)) then (fX4_isMet_R_b78 rc0 (some a5) v1 v2 v3 z22 h) else
  if (z22 = 0) then (fX4_isMet_R_b78 rc0 (some a5) v1 v2 v3 z22 h) else
  mr (some ((1 : Int32))))))))))))))
set_option maxRecDepth 100000 in
theorem wX4_isMet_R_c31 {E : PE} {p : Program} {l : Launch} {e : Env} {s : State} {m : MethodId} {args : Array Value} {below : List Frame} {meth : Method} {c : Code} {nn : Nat} (X : Cx E p l e (rmv (3 + nn + 1) 0 0) s m args below meth c RX4 cX4_isMet 5 (some .boolean)) (hG : Gs E l) (hnm : meth.name = yX4_isMet.name) {rc0 : (Option Nat → Option Nat → Int32 → PH → Option Int32)} (hw0 : ∀ {a0 : Option Nat} {a1 : Option Nat} {a2 : Int32} {h : PH} {r : Int32}, rc0 a0 a1 a2 h = some r → Ct E l (3 + nn) 0 0 yX4_isMet cX4_isMet 5 (some .boolean) [va_rf a0, va_rf a1, .int a2] h (fun v u => v = some (.int r) ∧ u = h)) {v0 : Option Nat} {v1 : Option Nat} {v2 : Int32} {v3 : Int32} {h : PH} {r : Int32} {x : ((Int32) ⊕ Int32)} (hf : fX4_isMet_R_c31 rc0 v0 v1 v2 v3 h = some x) (k0 : ∀ z : (Int32), x = .inl z → PW E p l e (rmv (3 + nn + 1) 0 0) s m args below meth c 5 0 0 (MQ below (QG E (fun v u => v = some (.int r) ∧ u = h)) args s 0 0 (pA E)) h 31 [(0, some (va_rf v0)), (1, some (va_rf v1)), (2, some (.int v2)), (3, some (.int (z)))] []) (kf : ∀ z : Int32, x = .inr z → z = r) : PW E p l e (rmv (3 + nn + 1) 0 0) s m args below meth c 5 0 0 (MQ below (QG E (fun v u => v = some (.int r) ∧ u = h)) args s 0 0 (pA E)) h 31 [(0, some (va_rf v0)), (1, some (va_rf v1)), (2, some (.int v2)), (3, some (.int v3))] [] := by
  unfold fX4_isMet_R_c31 at hf
  refine p_iload_n X (dcg dc_X4_isMet 18 rfl) rfl rfl ?_
  refine p_aloadq_n X (dcg dc_X4_isMet 19 rfl) rfl rfl ?_
  obtain ⟨a5, e6, hf⟩ := gs_some hf
  first | subst e6 | (try rw [e6])
  obtain ⟨hk7, hf⟩ := gd_some hf
  refine p_getR X fl_X4_25 rfl (by decide) (dcg dc_X4_isMet 20 rfl) hk7 ?_
  obtain ⟨a8, e9, hf⟩ := gs_some hf
  first | subst e9 | (try rw [e9])
  obtain ⟨hk10, hf⟩ := gd_some hf
  obtain ⟨z11, hz11, hf⟩ := bd_some hf
  refine p_callV (As := []) X ml_X4_71 (dcg dc_X4_isMet 21 rfl) rfl rfl hk10 (wJx4a65c_size_8abf5 hG hz11) (by omega) (room4 (Nat.le_of_ble_eq_true rfl)) (Nat.le_refl _) (Nat.le_refl _) ?_
  rintro _ u9 ⟨rfl, e9⟩; have e9 := e9.symm; subst e9
  refine p_icmp_ge (tgt := 112) X (dcg dc_X4_isMet 22 rfl) (by decide) (fun q => ?_) (fun q => ?_)
  · have hf := if_t q hf
    obtain ⟨y12, hf, hy13⟩ := mr_some hf
    have hy13f := kf y12 hy13
    subst hy13f
    refine p_aload_n X (dcg dc_X4_isMet 58 rfl) rfl rfl ?_
    refine p_getI X fl_X4_9 rfl (by decide) (dcg dc_X4_isMet 59 rfl) hk7 ?_
    refine p_bipush (v := 6) X (dcg dc_X4_isMet 60 rfl) (by decide) ?_
    refine p_icmp_eq (tgt := 125) X (dcg dc_X4_isMet 61 rfl) (by decide) (fun q => ?_) (fun q => ?_)
    · have hf := if_t q hf
      refine p_iconst (v := 0) X (dcg dc_X4_isMet 64 rfl) (by decide) ?_
      refine p_pick [] ?_
      exact wX4_isMet_R_b126 X hG hnm hw0 hf 
    · have hf := if_f q hf
      refine p_iconst (v := 1) X (dcg dc_X4_isMet 62 rfl) (by decide) ?_
      refine p_goto (tgt := 126) X (dcg dc_X4_isMet 63 rfl) (by decide) ?_
      refine p_pick [] ?_
      exact wX4_isMet_R_b126 X hG hnm hw0 hf 
  · have hf := if_f q hf
    refine p_aload_n X (dcg dc_X4_isMet 23 rfl) rfl rfl ?_
    refine p_getR X fl_X4_25 rfl (by decide) (dcg dc_X4_isMet 24 rfl) hk7 ?_
    refine p_iload_n X (dcg dc_X4_isMet 25 rfl) rfl rfl ?_
    obtain ⟨a15, e16, hf⟩ := gs_some hf
    first | subst e16 | (try rw [e16])
    obtain ⟨hk17, hf⟩ := gd_some hf
    obtain ⟨z18, hz18, hf⟩ := bd_some hf
    refine p_callV (As := [_]) X ml_X4_75 (dcg dc_X4_isMet 26 rfl) rfl rfl hk17 (wJx4a65c_get_915e3 hG hz18) (by omega) (room4 (Nat.le_of_ble_eq_true rfl)) (Nat.le_refl _) (Nat.le_refl _) ?_
    rintro _ u9 ⟨rfl, e9⟩; have e9 := e9.symm; subst e9
    obtain ⟨a19, e20, hf⟩ := gs_some hf
    first | subst e20 | (try rw [e20])
    obtain ⟨hk21, hf⟩ := gd_some hf
    refine p_cast (q := (RX4, TX4, 4)) X rfl tw_971 (dcg dc_X4_isMet 27 rfl) hk21 ?_
    refine p_aloadq_n X (dcg dc_X4_isMet 28 rfl) rfl rfl ?_
    refine p_iload_n X (dcg dc_X4_isMet 29 rfl) rfl rfl ?_
    refine p_iconst (v := 1) X (dcg dc_X4_isMet 30 rfl) (by decide) ?_
    refine p_iadd X (dcg dc_X4_isMet 31 rfl) ?_
    obtain ⟨z22, hz22, hf⟩ := bd_some hf
    refine p_callS (As := [va_rf (some _), va_rf _, _]) X ml_X4_79 (dcg dc_X4_isMet 32 rfl) rfl rfl  (hw0 hz22) (by omega) (room4 (Nat.le_of_ble_eq_true rfl)) (Nat.le_refl _) (Nat.le_refl _) ?_
    rintro _ u9 ⟨rfl, e9⟩; have e9 := e9.symm; subst e9
    refine p_istore X (dcg dc_X4_isMet 33 rfl) (by decide) rfl ?_
    refine p_aload_n X (dcg dc_X4_isMet 34 rfl) rfl rfl ?_
    refine p_getI X fl_X4_9 rfl (by decide) (dcg dc_X4_isMet 35 rfl) hk7 ?_
    refine p_bipush (v := 6) X (dcg dc_X4_isMet 36 rfl) (by decide) ?_
    refine p_icmp_ne (tgt := 78) X (dcg dc_X4_isMet 37 rfl) (by decide) (fun q => ?_) (fun q => ?_)
    · have hf := if_t q hf
      refine p_pick [0, 1, 2, 3, 4] ?_
      exact wX4_isMet_R_b78 X hG hnm hw0 hf k0 kf
    · have hf := if_f q hf
      refine p_iload X (dcg dc_X4_isMet 38 rfl) rfl ?_
      refine p_if_eq (tgt := 78) X (dcg dc_X4_isMet 39 rfl) (by decide) (fun q => ?_) (fun q => ?_)
      · have hf := if_t q hf
        refine p_pick [0, 1, 2, 3, 4] ?_
        exact wX4_isMet_R_b78 X hG hnm hw0 hf k0 kf
      · have hf := if_f q hf
        obtain ⟨y33, hf, hy34⟩ := mr_some hf
        have hy34f := kf y33 hy34
        subst hy34f
        refine p_iconst (v := 1) X (dcg dc_X4_isMet 40 rfl) (by decide) ?_
        have er := Option.some.inj hf
        subst er
        exact p_zret X rfl rfl (dcg dc_X4_isMet 41 rfl) ⟨rfl, rfl⟩ (Nat.le_refl _) (Nat.le_refl _)
noncomputable def fX4_isMet_R_l31 (rc0 : (Option Nat → Option Nat → Int32 → PH → Option Int32)) (v0 : Option Nat) (v1 : Option Nat) (v2 : Int32) (v3 : Int32) (h : PH) : Option Int32 := wh (fun z : (Int32) => fX4_isMet_R_c31 rc0 v0 v1 v2 (z) h) (v3)
set_option maxRecDepth 100000 in
theorem wX4_isMet_R_l31 {E : PE} {p : Program} {l : Launch} {e : Env} {s : State} {m : MethodId} {args : Array Value} {below : List Frame} {meth : Method} {c : Code} {nn : Nat} (X : Cx E p l e (rmv (3 + nn + 1) 0 0) s m args below meth c RX4 cX4_isMet 5 (some .boolean)) (hG : Gs E l) (hnm : meth.name = yX4_isMet.name) {rc0 : (Option Nat → Option Nat → Int32 → PH → Option Int32)} (hw0 : ∀ {a0 : Option Nat} {a1 : Option Nat} {a2 : Int32} {h : PH} {r : Int32}, rc0 a0 a1 a2 h = some r → Ct E l (3 + nn) 0 0 yX4_isMet cX4_isMet 5 (some .boolean) [va_rf a0, va_rf a1, .int a2] h (fun v u => v = some (.int r) ∧ u = h)) {v0 : Option Nat} {v1 : Option Nat} {v2 : Int32} {v3 : Int32} {h : PH} {r : Int32} (hf : fX4_isMet_R_l31 rc0 v0 v1 v2 v3 h = some r)  : PW E p l e (rmv (3 + nn + 1) 0 0) s m args below meth c 5 0 0 (MQ below (QG E (fun v u => v = some (.int r) ∧ u = h)) args s 0 0 (pA E)) h 31 [(0, some (va_rf v0)), (1, some (va_rf v1)), (2, some (.int v2)), (3, some (.int v3))] [] := by
  unfold fX4_isMet_R_l31 at hf
  refine wh_ind (P := fun z => PW E p l e (rmv (3 + nn + 1) 0 0) s m args below meth c 5 0 0 (MQ below (QG E (fun v u => v = some (.int r) ∧ u = h)) args s 0 0 (pA E)) h 31 [(0, some (va_rf v0)), (1, some (va_rf v1)), (2, some (.int v2)), (3, some (.int (z)))] []) (fun z x0 hs i1 i2 => ?_) _ hf
  exact wX4_isMet_R_c31 (r := r) (v0 := v0) (v1 := v1) (v2 := v2) (v3 := z) (h := h) X hG hnm hw0 hs i1  i2
noncomputable def fX4_isMet_R_b28 (rc0 : (Option Nat → Option Nat → Int32 → PH → Option Int32)) (t0 : Int32) (h : PH) : Option Int32 :=
  gd (t0 &&& 1 = t0) (some (t0))
set_option maxRecDepth 100000 in
theorem wX4_isMet_R_b28 {E : PE} {p : Program} {l : Launch} {e : Env} {s : State} {m : MethodId} {args : Array Value} {below : List Frame} {meth : Method} {c : Code} {nn : Nat} (X : Cx E p l e (rmv (3 + nn + 1) 0 0) s m args below meth c RX4 cX4_isMet 5 (some .boolean)) (hG : Gs E l) (hnm : meth.name = yX4_isMet.name) {rc0 : (Option Nat → Option Nat → Int32 → PH → Option Int32)} (hw0 : ∀ {a0 : Option Nat} {a1 : Option Nat} {a2 : Int32} {h : PH} {r : Int32}, rc0 a0 a1 a2 h = some r → Ct E l (3 + nn) 0 0 yX4_isMet cX4_isMet 5 (some .boolean) [va_rf a0, va_rf a1, .int a2] h (fun v u => v = some (.int r) ∧ u = h)) {t0 : Int32} {h : PH} {r : Int32} (hf : fX4_isMet_R_b28 rc0 t0 h = some r)  : PW E p l e (rmv (3 + nn + 1) 0 0) s m args below meth c 5 0 0 (MQ below (QG E (fun v u => v = some (.int r) ∧ u = h)) args s 0 0 (pA E)) h 28 [] [.int t0] := by
  unfold fX4_isMet_R_b28 at hf
  obtain ⟨hg36, hf⟩ := gd_some hf
  have er := Option.some.inj hf
  subst er
  exact p_zret X rfl (congrArg Value.int hg36) (dcg dc_X4_isMet 15 rfl) ⟨rfl, rfl⟩ (Nat.le_refl _) (Nat.le_refl _)
noncomputable def fX4_isMet_R (rc0 : (Option Nat → Option Nat → Int32 → PH → Option Int32)) (v0 : Option Nat) (v1 : Option Nat) (v2 : Int32) (h : PH) : Option Int32 :=
  if (v2 ≤ (40 : Int32)) then (gs v0 (fun a1 =>
  gd (hK h a1 = 4) (bd (fX4_isSimple a1 h) (fun z4 =>
  if (z4 = 0) then (fX4_isMet_R_l31 rc0 (some a1) v1 v2 (0 : Int32) h) else
  bd (fX4_countMeetings a1 v1 h) (fun z35 =>
  if (z35 ≤ 0) then (fX4_isMet_R_b28 rc0 (0 : Int32) h) else
  fX4_isMet_R_b28 rc0 (1 : Int32) h))))) else
  some ((0 : Int32))
set_option maxRecDepth 100000 in
theorem wX4_isMet_R {E : PE} {l : Launch} (hG : Gs E l) {nn : Nat} {rc0 : (Option Nat → Option Nat → Int32 → PH → Option Int32)} (hw0 : ∀ {a0 : Option Nat} {a1 : Option Nat} {a2 : Int32} {h : PH} {r : Int32}, rc0 a0 a1 a2 h = some r → Ct E l (3 + nn) 0 0 yX4_isMet cX4_isMet 5 (some .boolean) [va_rf a0, va_rf a1, .int a2] h (fun v u => v = some (.int r) ∧ u = h)) {v0 : Option Nat} {v1 : Option Nat} {v2 : Int32} {h : PH} {r : Int32} (hf : fX4_isMet_R rc0 v0 v1 v2 h = some r) : Ct E l (3 + nn + 1) 0 0 yX4_isMet cX4_isMet 5 (some .boolean) [va_rf v0, va_rf v1, .int v2] h (fun v u => v = some (.int r) ∧ u = h) := by
  refine ct_of hG (by decide) (by simp [lg_sl, cat_rf, cat_r, cat_i, cat_l, cat_d, cat_f]) ?_
  intro p e s m args below meth c X hnm
  rw [show pargs 0 [va_rf v0, va_rf v1, .int v2] = [(0, some (va_rf v0)), (1, some (va_rf v1)), (2, some (.int v2))] from by simp [pargs, cat_rf, cat_r, cat_i, cat_l, cat_d, cat_f]]
  unfold fX4_isMet_R at hf
  refine p_iload_n X (dcg dc_X4_isMet 0 rfl) rfl rfl ?_
  refine p_bipush (v := 40) X (dcg dc_X4_isMet 1 rfl) (by decide) ?_
  refine p_icmp_le (tgt := 8) X (dcg dc_X4_isMet 2 rfl) (by decide) (fun q => ?_) (fun q => ?_)
  · have hf := if_t q hf
    refine p_aloadq_n X (dcg dc_X4_isMet 5 rfl) rfl rfl ?_
    obtain ⟨a1, e2, hf⟩ := gs_some hf
    first | subst e2 | (try rw [e2])
    obtain ⟨hk3, hf⟩ := gd_some hf
    obtain ⟨z4, hz4, hf⟩ := bd_some hf
    refine p_callV (As := []) X ml_X4_63 (dcg dc_X4_isMet 6 rfl) rfl rfl hk3 (wX4_isSimple hG hz4) (by omega) (room4 (Nat.le_of_ble_eq_true rfl)) (Nat.le_refl _) (Nat.le_refl _) ?_
    rintro _ u9 ⟨rfl, e9⟩; have e9 := e9.symm; subst e9
    refine p_if_eq (tgt := 29) X (dcg dc_X4_isMet 7 rfl) (by decide) (fun q => ?_) (fun q => ?_)
    · have hf := if_t q hf
      refine p_iconst (v := 0) X (dcg dc_X4_isMet 16 rfl) (by decide) ?_
      refine p_istore_n X (dcg dc_X4_isMet 17 rfl) rfl (by decide) rfl ?_
      refine p_pick [0, 1, 2, 3] ?_
      exact wX4_isMet_R_l31 X hG hnm hw0 hf 
    · have hf := if_f q hf
      refine p_aload_n X (dcg dc_X4_isMet 8 rfl) rfl rfl ?_
      refine p_aloadq_n X (dcg dc_X4_isMet 9 rfl) rfl rfl ?_
      obtain ⟨z35, hz35, hf⟩ := bd_some hf
      refine p_callV (As := [va_rf _]) X ml_X4_67 (dcg dc_X4_isMet 10 rfl) rfl rfl hk3 (wX4_countMeetings hG hz35) (by omega) (room4 (Nat.le_of_ble_eq_true rfl)) (Nat.le_refl _) (Nat.le_refl _) ?_
      rintro _ u9 ⟨rfl, e9⟩; have e9 := e9.symm; subst e9
      refine p_if_le (tgt := 27) X (dcg dc_X4_isMet 11 rfl) (by decide) (fun q => ?_) (fun q => ?_)
      · have hf := if_t q hf
        refine p_iconst (v := 0) X (dcg dc_X4_isMet 14 rfl) (by decide) ?_
        refine p_pick [] ?_
        exact wX4_isMet_R_b28 X hG hnm hw0 hf 
      · have hf := if_f q hf
        refine p_iconst (v := 1) X (dcg dc_X4_isMet 12 rfl) (by decide) ?_
        refine p_goto (tgt := 28) X (dcg dc_X4_isMet 13 rfl) (by decide) ?_
        refine p_pick [] ?_
        exact wX4_isMet_R_b28 X hG hnm hw0 hf 
  · have hf := if_f q hf
    refine p_iconst (v := 0) X (dcg dc_X4_isMet 3 rfl) (by decide) ?_
    have er := Option.some.inj hf
    subst er
    exact p_zret X rfl rfl (dcg dc_X4_isMet 4 rfl) ⟨rfl, rfl⟩ (Nat.le_refl _) (Nat.le_refl _)
noncomputable def g_X4_isMet : Nat → (Option Nat → Option Nat → Int32 → PH → Option Int32)
  | 0 => (fun a0 a1 a2 h => none)
  | n + 1 => (fun a0 a1 a2 h => fX4_isMet_R (g_X4_isMet n) a0 a1 a2 h)
theorem gw_X4_isMet {E : PE} {l : Launch} (hG : Gs E l) : ∀ n : Nat, ∀ {a0 : Option Nat} {a1 : Option Nat} {a2 : Int32} {h : PH} {r : Int32}, (g_X4_isMet n) a0 a1 a2 h = some r → Ct E l (3 + n) 0 0 yX4_isMet cX4_isMet 5 (some .boolean) [va_rf a0, va_rf a1, .int a2] h (fun v u => v = some (.int r) ∧ u = h) := by
  intro n
  induction n with
  | zero => exact (fun hf => nomatch (show (none : Option Int32) = some _ from hf))
  | succ n ih => exact (fun {a0 a1 a2 h r} hf => wX4_isMet_R (nn := n) hG (ih)  (show fX4_isMet_R (g_X4_isMet n) a0 a1 a2 h = some r from hf))
noncomputable def fX4_isMet (a0 : Option Nat) (a1 : Option Nat) (a2 : Int32) (h : PH) : Option Int32 := (g_X4_isMet 44) a0 a1 a2 h
theorem wX4_isMet {E : PE} {l : Launch} (hG : Gs E l) {a0 : Option Nat} {a1 : Option Nat} {a2 : Int32} {h : PH} {r : Int32} (hf : fX4_isMet a0 a1 a2 h = some r) : Ct E l 47 0 0 yX4_isMet cX4_isMet 5 (some .boolean) [va_rf a0, va_rf a1, .int a2] h (fun v u => v = some (.int r) ∧ u = h) := (gw_X4_isMet hG 44) hf
theorem dc_X8_size : decs cX8_size [(0, .aload_n 0, 1), (1, .getfield 15, 3), (4, .ireturn, 1)] = true := by decide +kernel
noncomputable def fX8_size (v0 : Nat) (h : PH) : Option Int32 :=
  gd (hK h v0 = 8) (some ((hI h 8 v0 1)))
set_option maxRecDepth 100000 in
theorem wX8_size {E : PE} {l : Launch} (hG : Gs E l) {v0 : Nat} {h : PH} {r : Int32} (hf : fX8_size v0 h = some r) : Ct E l 0 0 0 yX8_size cX8_size 1 (some .int) [.ref v0] h (fun v u => v = some (.int r) ∧ u = h) := by
  refine ct_of hG (by decide) (Nat.le_of_ble_eq_true rfl) ?_
  intro p e s m args below meth c X hnm
  show PW E p l e _ s m args below meth c _ 0 0 _ h 0 [(0, some (.ref v0))] []
  unfold fX8_size at hf
  refine p_aload_n X (dcg dc_X8_size 0 rfl) rfl rfl ?_
  obtain ⟨hk1, hf⟩ := gd_some hf
  refine p_getI X fl_X8_15 rfl (by decide) (dcg dc_X8_size 1 rfl) hk1 ?_
  have er := Option.some.inj hf
  subst er
  exact p_iret X rfl (dcg dc_X8_size 2 rfl) ⟨rfl, rfl⟩ (Nat.le_refl _) (Nat.le_refl _)
theorem dc_X8_at : decs cX8_at [(0, .iload_n 1, 1), (1, .ifCond .lt 11, 3), (4, .iload_n 1, 1), (5, .aload_n 0, 1), (6, .getfield 15, 3), (9, .if_icmp .lt 7, 3), (12, .iconst (-1), 1), (13, .goto 9, 3), (16, .aload_n 0, 1), (17, .getfield 11, 3), (20, .iload_n 1, 1), (21, .iaload, 1), (22, .ireturn, 1)] = true := by decide +kernel
noncomputable def fX8_at_b22 (t0 : Int32) (h : PH) : Option Int32 :=
  some (t0)
set_option maxRecDepth 100000 in
theorem wX8_at_b22 {E : PE} {p : Program} {l : Launch} {e : Env} {s : State} {m : MethodId} {args : Array Value} {below : List Frame} {meth : Method} {c : Code} (X : Cx E p l e (rmv 0 0 0) s m args below meth c RX8 cX8_at 2 (some .int)) (hG : Gs E l) (hnm : meth.name = yX8_at.name) {t0 : Int32} {h : PH} {r : Int32} (hf : fX8_at_b22 t0 h = some r)  : PW E p l e (rmv 0 0 0) s m args below meth c 2 0 0 (MQ below (QG E (fun v u => v = some (.int r) ∧ u = h)) args s 0 0 (pA E)) h 22 [] [.int t0] := by
  unfold fX8_at_b22 at hf
  have er := Option.some.inj hf
  subst er
  exact p_iret X rfl (dcg dc_X8_at 12 rfl) ⟨rfl, rfl⟩ (Nat.le_refl _) (Nat.le_refl _)
noncomputable def fX8_at_b12  (h : PH) : Option Int32 :=
  fX8_at_b22 (-1 : Int32) h
set_option maxRecDepth 100000 in
theorem wX8_at_b12 {E : PE} {p : Program} {l : Launch} {e : Env} {s : State} {m : MethodId} {args : Array Value} {below : List Frame} {meth : Method} {c : Code} (X : Cx E p l e (rmv 0 0 0) s m args below meth c RX8 cX8_at 2 (some .int)) (hG : Gs E l) (hnm : meth.name = yX8_at.name)  {h : PH} {r : Int32} (hf : fX8_at_b12  h = some r)  : PW E p l e (rmv 0 0 0) s m args below meth c 2 0 0 (MQ below (QG E (fun v u => v = some (.int r) ∧ u = h)) args s 0 0 (pA E)) h 12 [] [] := by
  unfold fX8_at_b12 at hf
  refine p_iconst (v := -1) X (dcg dc_X8_at 6 rfl) (by decide) ?_
  refine p_goto (tgt := 22) X (dcg dc_X8_at 7 rfl) (by decide) ?_
  refine p_pick [] ?_
  exact wX8_at_b22 X hG hnm hf 
noncomputable def fX8_at (v0 : Nat) (v1 : Int32) (h : PH) : Option Int32 :=
  if (v1 < 0) then (fX8_at_b12  h) else
  gd (hK h v0 = 8) (if (v1 < (hI h 8 v0 1)) then (gs (hR h 8 v0 0) (fun a2 =>
  gd (hK h a2 = 20 ∧ inb v1 (hN h a2)) (fX8_at_b22 (hI h 20 a2 (Int32.toNatClampNeg v1)) h))) else
  fX8_at_b12  h)
set_option maxRecDepth 100000 in
theorem wX8_at {E : PE} {l : Launch} (hG : Gs E l) {v0 : Nat} {v1 : Int32} {h : PH} {r : Int32} (hf : fX8_at v0 v1 h = some r) : Ct E l 0 0 0 yX8_at cX8_at 2 (some .int) [.ref v0, .int v1] h (fun v u => v = some (.int r) ∧ u = h) := by
  refine ct_of hG (by decide) (Nat.le_of_ble_eq_true rfl) ?_
  intro p e s m args below meth c X hnm
  show PW E p l e _ s m args below meth c _ 0 0 _ h 0 [(0, some (.ref v0)), (1, some (.int v1))] []
  unfold fX8_at at hf
  refine p_iload_n X (dcg dc_X8_at 0 rfl) rfl rfl ?_
  refine p_if_lt (tgt := 12) X (dcg dc_X8_at 1 rfl) (by decide) (fun q => ?_) (fun q => ?_)
  · have hf := if_t q hf
    refine p_pick [] ?_
    exact wX8_at_b12 X hG hnm hf 
  · have hf := if_f q hf
    refine p_iload_n X (dcg dc_X8_at 2 rfl) rfl rfl ?_
    refine p_aload_n X (dcg dc_X8_at 3 rfl) rfl rfl ?_
    obtain ⟨hk1, hf⟩ := gd_some hf
    refine p_getI X fl_X8_15 rfl (by decide) (dcg dc_X8_at 4 rfl) hk1 ?_
    refine p_icmp_lt (tgt := 16) X (dcg dc_X8_at 5 rfl) (by decide) (fun q => ?_) (fun q => ?_)
    · have hf := if_t q hf
      refine p_aload_n X (dcg dc_X8_at 8 rfl) rfl rfl ?_
      refine p_getR X fl_X8_11 rfl (by decide) (dcg dc_X8_at 9 rfl) hk1 ?_
      refine p_iload_n X (dcg dc_X8_at 10 rfl) rfl rfl ?_
      obtain ⟨a2, e3, hf⟩ := gs_some hf
      first | subst e3 | (try rw [e3])
      obtain ⟨⟨hk5, hb4⟩, hf⟩ := gd_some hf
      refine p_iald X (dcg dc_X8_at 11 rfl) hk5 (vp_of_inb hb4) ?_
      refine p_pick [] ?_
      exact wX8_at_b22 X hG hnm hf 
    · have hf := if_f q hf
      refine p_pick [] ?_
      exact wX8_at_b12 X hG hnm hf 
theorem dc_X0_takeTrial : decs cX0_takeTrial [(0, .aload_n 0, 1), (1, .aload_n 0, 1), (2, .getfield 18, 3), (5, .invokevirtual 82, 3), (8, .bipush 10, 2), (10, .invokestatic 83, 3), (13, .putfield 25, 3), (16, .iconst 0, 1), (17, .istore_n 1, 1), (18, .iload_n 1, 1), (19, .aload_n 0, 1), (20, .getfield 25, 3), (23, .if_icmp .ge 23, 3), (26, .aload_n 0, 1), (27, .getfield 22, 3), (30, .iload_n 1, 1), (31, .aload_n 0, 1), (32, .getfield 18, 3), (35, .iload_n 1, 1), (36, .invokevirtual 89, 3), (39, .iastore, 1), (40, .iinc 1 1, 3), (43, .goto (-25), 3), (46, .return_, 1)] = true := by decide +kernel
noncomputable def fX0_takeTrial_c18 (v0 : Nat) (v1 : Int32) (h : PH) : Option ((Int32 × PH) ⊕ PH) :=
  gd (hK h v0 = 0) (if ((hI h 0 v0 4) ≤ v1) then (mr (some (h))) else
  gs (hR h 0 v0 2) (fun a10 =>
  gd (hK h a10 = 8) (bd (fX8_at a10 v1 h) (fun z13 =>
  gs (hR h 0 v0 3) (fun a14 =>
  gd (hK h a14 = 20 ∧ inb v1 (hN h a14)) (lt (sI h 20 a14 (Int32.toNatClampNeg v1) z13) (fun h18 =>
  some (.inl ((v1 + 1), h18)))))))))
set_option maxRecDepth 100000 in
theorem mX0_takeTrial_c18 {v0 : Nat} {v1 : Int32} {h : PH} {x : ((Int32 × PH) ⊕ PH)} (hf : fX0_takeTrial_c18 v0 v1 h = some x) : (∀ w9 : (Int32 × PH), x = .inl w9 → eqz h (hX (w9.2)) (hV (w9.2))) ∧ (∀ w9 : PH, x = .inr w9 → eqz h (hX w9) (hV w9)) := by
  unfold fX0_takeTrial_c18 at hf
  have hle := eqz_rf h
  obtain ⟨hk7, hf⟩ := gd_some hf
  rcases ite_or hf with ⟨q, hf⟩ | ⟨q, hf⟩
  · have hf := if_t q hf
    obtain ⟨y8, hfm, rfl⟩ := mr_some hf; have hf := hfm; clear hfm
    have ee := Option.some.inj hf; subst ee
    exact ⟨(fun z e => nomatch e), (fun z e => by have ee := Sum.inr.inj (e); subst ee; exact hle)⟩
  · have hf := if_f q hf
    obtain ⟨a10, e11, hf⟩ := gs_some hf
    obtain ⟨hk12, hf⟩ := gd_some hf
    obtain ⟨z13, hz13, hf⟩ := bd_some hf
    obtain ⟨a14, e15, hf⟩ := gs_some hf
    obtain ⟨⟨hk17, hb16⟩, hf⟩ := gd_some hf
    obtain ⟨h18, rfl, hf⟩ := lt_some hf
    have ee := Option.some.inj hf; subst ee
    exact ⟨(fun z e => by have ee := Sum.inl.inj (e); subst ee; exact hle), (fun z e => nomatch e)⟩
set_option maxRecDepth 100000 in
theorem wX0_takeTrial_c18 {E : PE} {p : Program} {l : Launch} {e : Env} {s : State} {m : MethodId} {args : Array Value} {below : List Frame} {meth : Method} {c : Code} (X : Cx E p l e (rmv 1 0 0) s m args below meth c RX0 cX0_takeTrial 2 (none)) (hG : Gs E l) (hnm : meth.name = yX0_takeTrial.name) {v0 : Nat} {v1 : Int32} {h : PH} {r : PH} {x : ((Int32 × PH) ⊕ PH)} (hf : fX0_takeTrial_c18 v0 v1 h = some x) (k0 : ∀ z : (Int32 × PH), x = .inl z → PW E p l e (rmv 1 0 0) s m args below meth c 2 0 0 (MQ below (QG E (fun v u => v = none ∧ u = r)) args s 0 0 (pA E)) (z.2) 18 [(0, some (.ref v0)), (1, some (.int (z.1)))] []) (kf : ∀ z : PH, x = .inr z → z = r) : PW E p l e (rmv 1 0 0) s m args below meth c 2 0 0 (MQ below (QG E (fun v u => v = none ∧ u = r)) args s 0 0 (pA E)) h 18 [(0, some (.ref v0)), (1, some (.int v1))] [] := by
  unfold fX0_takeTrial_c18 at hf
  refine p_iload_n X (dcg dc_X0_takeTrial 9 rfl) rfl rfl ?_
  refine p_aload_n X (dcg dc_X0_takeTrial 10 rfl) rfl rfl ?_
  obtain ⟨hk7, hf⟩ := gd_some hf
  refine p_getI X fl_X0_25 rfl (by decide) (dcg dc_X0_takeTrial 11 rfl) hk7 ?_
  refine p_icmp_ge (tgt := 46) X (dcg dc_X0_takeTrial 12 rfl) (by decide) (fun q => ?_) (fun q => ?_)
  · have hf := if_t q hf
    obtain ⟨y8, hf, hy9⟩ := mr_some hf
    have hy9f := kf y8 hy9
    subst hy9f
    have er := Option.some.inj hf
    subst er
    exact p_vret X rfl (dcg dc_X0_takeTrial 23 rfl) ⟨rfl, rfl⟩ (Nat.le_refl _) (Nat.le_refl _)
  · have hf := if_f q hf
    refine p_aload_n X (dcg dc_X0_takeTrial 13 rfl) rfl rfl ?_
    refine p_getR X fl_X0_22 rfl (by decide) (dcg dc_X0_takeTrial 14 rfl) hk7 ?_
    refine p_iload_n X (dcg dc_X0_takeTrial 15 rfl) rfl rfl ?_
    refine p_aload_n X (dcg dc_X0_takeTrial 16 rfl) rfl rfl ?_
    refine p_getR X fl_X0_18 rfl (by decide) (dcg dc_X0_takeTrial 17 rfl) hk7 ?_
    refine p_iload_n X (dcg dc_X0_takeTrial 18 rfl) rfl rfl ?_
    obtain ⟨a10, e11, hf⟩ := gs_some hf
    first | subst e11 | (try rw [e11])
    obtain ⟨hk12, hf⟩ := gd_some hf
    obtain ⟨z13, hz13, hf⟩ := bd_some hf
    refine p_callV (As := [_]) X ml_X0_89 (dcg dc_X0_takeTrial 19 rfl) rfl rfl hk12 (wX8_at hG hz13) (by decide) (room4 (Nat.le_of_ble_eq_true rfl)) (Nat.le_refl _) (Nat.le_refl _) ?_
    rintro _ u9 ⟨rfl, e9⟩; have e9 := e9.symm; subst e9
    obtain ⟨a14, e15, hf⟩ := gs_some hf
    first | subst e15 | (try rw [e15])
    obtain ⟨⟨hk17, hb16⟩, hf⟩ := gd_some hf
    refine p_iast X (dcg dc_X0_takeTrial 20 rfl) hk17 (vp_of_inb hb16) ?_
    obtain ⟨h18, rfl, hf⟩ := lt_some hf
    refine p_iinc (v := 1) X (dcg dc_X0_takeTrial 21 rfl) rfl (by decide) (by decide) rfl ?_
    refine p_goto (tgt := 18) X (dcg dc_X0_takeTrial 22 rfl) (by decide) ?_
    refine p_pick [0, 1] ?_
    exact k0 _ (Option.some.inj hf).symm
noncomputable def fX0_takeTrial_l18 (v0 : Nat) (v1 : Int32) (h : PH) : Option PH := wh (fun z : (Int32 × PH) => fX0_takeTrial_c18 v0 (z.1) (z.2)) (v1, h)
set_option maxRecDepth 100000 in
theorem mX0_takeTrial_l18 {v0 : Nat} {v1 : Int32} {h : PH} {r : PH} (hf : fX0_takeTrial_l18 v0 v1 h = some r) : eqz h (hX r) (hV r) := by
  unfold fX0_takeTrial_l18 at hf
  refine wh_ind (P := fun z => eqz (z.2) (hX r) (hV r)) (fun z x0 hs i1 i2 => ?_) _ hf
  obtain ⟨c0, cf⟩ := mX0_takeTrial_c18 (v0 := v0) (v1 := z.1) (h := z.2) hs
  rcases hxx : x0 with zz | zz
  · exact eqz_tr (c0 zz hxx) (i1 zz hxx)
  · have ee := i2 zz hxx; subst ee; exact cf zz hxx
set_option maxRecDepth 100000 in
theorem wX0_takeTrial_l18 {E : PE} {p : Program} {l : Launch} {e : Env} {s : State} {m : MethodId} {args : Array Value} {below : List Frame} {meth : Method} {c : Code} (X : Cx E p l e (rmv 1 0 0) s m args below meth c RX0 cX0_takeTrial 2 (none)) (hG : Gs E l) (hnm : meth.name = yX0_takeTrial.name) {v0 : Nat} {v1 : Int32} {h : PH} {r : PH} (hf : fX0_takeTrial_l18 v0 v1 h = some r)  : PW E p l e (rmv 1 0 0) s m args below meth c 2 0 0 (MQ below (QG E (fun v u => v = none ∧ u = r)) args s 0 0 (pA E)) h 18 [(0, some (.ref v0)), (1, some (.int v1))] [] := by
  unfold fX0_takeTrial_l18 at hf
  refine wh_ind (P := fun z => PW E p l e (rmv 1 0 0) s m args below meth c 2 0 0 (MQ below (QG E (fun v u => v = none ∧ u = r)) args s 0 0 (pA E)) (z.2) 18 [(0, some (.ref v0)), (1, some (.int (z.1)))] []) (fun z x0 hs i1 i2 => ?_) _ hf
  exact wX0_takeTrial_c18 (r := r) (v0 := v0) (v1 := z.1) (h := z.2) X hG hnm hs i1  i2
noncomputable def fX0_takeTrial (v0 : Nat) (h : PH) : Option PH :=
  gd (hK h v0 = 0) (gs (hR h 0 v0 2) (fun a2 =>
  gd (hK h a2 = 8) (bd (fX8_size a2 h) (fun z5 =>
  lt (sI h 0 v0 4 (if (10 : Int32) < z5 then (10 : Int32) else z5)) (fun h6 =>
  fX0_takeTrial_l18 v0 (0 : Int32) h6)))))
set_option maxRecDepth 100000 in
theorem mX0_takeTrial {v0 : Nat} {h : PH} {r : PH} (hf : fX0_takeTrial v0 h = some r) : eqz h (hX r) (hV r) := by
  unfold fX0_takeTrial at hf
  have hle := eqz_rf h
  obtain ⟨hk1, hf⟩ := gd_some hf
  obtain ⟨a2, e3, hf⟩ := gs_some hf
  obtain ⟨hk4, hf⟩ := gd_some hf
  obtain ⟨z5, hz5, hf⟩ := bd_some hf
  obtain ⟨h6, rfl, hf⟩ := lt_some hf
  exact eqz_rt (mX0_takeTrial_l18 hf) hle
set_option maxRecDepth 100000 in
theorem wX0_takeTrial {E : PE} {l : Launch} (hG : Gs E l) {v0 : Nat} {h : PH} {r : PH} (hf : fX0_takeTrial v0 h = some r) : Ct E l 1 0 0 yX0_takeTrial cX0_takeTrial 2 (none) [.ref v0] h (fun v u => v = none ∧ u = r) := by
  refine ct_of hG (by decide) (Nat.le_of_ble_eq_true rfl) ?_
  intro p e s m args below meth c X hnm
  show PW E p l e _ s m args below meth c _ 0 0 _ h 0 [(0, some (.ref v0))] []
  unfold fX0_takeTrial at hf
  refine p_aload_n X (dcg dc_X0_takeTrial 0 rfl) rfl rfl ?_
  refine p_aload_n X (dcg dc_X0_takeTrial 1 rfl) rfl rfl ?_
  obtain ⟨hk1, hf⟩ := gd_some hf
  refine p_getR X fl_X0_18 rfl (by decide) (dcg dc_X0_takeTrial 2 rfl) hk1 ?_
  obtain ⟨a2, e3, hf⟩ := gs_some hf
  first | subst e3 | (try rw [e3])
  obtain ⟨hk4, hf⟩ := gd_some hf
  obtain ⟨z5, hz5, hf⟩ := bd_some hf
  refine p_callV (As := []) X ml_X0_82 (dcg dc_X0_takeTrial 3 rfl) rfl rfl hk4 (wX8_size hG hz5) (by decide) (room4 (Nat.le_of_ble_eq_true rfl)) (Nat.le_refl _) (Nat.le_refl _) ?_
  rintro _ u9 ⟨rfl, e9⟩; have e9 := e9.symm; subst e9
  refine p_bipush (v := 10) X (dcg dc_X0_takeTrial 4 rfl) (by decide) ?_
  refine p_mmin X tw_1832 tw_625 tw_123 tw_626 (dcg dc_X0_takeTrial 5 rfl) (Nat.le_of_ble_eq_true rfl) (Nat.le_trans (Nat.add_le_add_right (room4 (Nat.le_of_ble_eq_true rfl)) 13) (Nat.le_of_ble_eq_true rfl)) (Nat.le_refl _) (Nat.le_refl _) (fun ls hl => X.2.2.1.trans hl.1.symm) ?_
  refine p_putI X fl_X0_25 rfl (by decide) (fun q hq => by cases hq; rfl) rfl rfl (dcg dc_X0_takeTrial 6 rfl) hk1 ?_
  obtain ⟨h6, rfl, hf⟩ := lt_some hf
  refine p_iconst (v := 0) X (dcg dc_X0_takeTrial 7 rfl) (by decide) ?_
  refine p_istore_n X (dcg dc_X0_takeTrial 8 rfl) rfl (by decide) rfl ?_
  refine p_pick [0, 1] ?_
  exact wX0_takeTrial_l18 X hG hnm hf 
theorem dc_X0_search : decs cX0_search [(0, .aload_n 0, 1), (1, .iconst (-1), 1), (2, .putfield 25, 3), (5, .iconst 1, 1), (6, .aload_n 0, 1), (7, .getfield 29, 3), (10, .ishl, 1), (11, .iconst 1, 1), (12, .isub, 1), (13, .istore_n 3, 1), (14, .iload_n 3, 1), (15, .ifCond .lt 58, 3), (18, .aload_n 0, 1), (19, .getfield 25, 3), (22, .iconst (-1), 1), (23, .if_icmp .eq 14, 3), (26, .iload_n 3, 1), (27, .invokestatic 60, 3), (30, .aload_n 0, 1), (31, .getfield 25, 3), (34, .if_icmp .ge 33, 3), (37, .aload_n 0, 1), (38, .iload_n 3, 1), (39, .invokevirtual 65, 3), (42, .aload_n 1, 1), (43, .aload_n 0, 1), (44, .getfield 18, 3), (47, .iconst 0, 1), (48, .invokestatic 69, 3), (51, .aload_n 2, 1), (52, .aload_n 0, 1), (53, .getfield 18, 3), (56, .iconst 0, 1), (57, .invokestatic 69, 3), (60, .if_icmp .eq 7, 3), (63, .aload_n 0, 1), (64, .invokevirtual 73, 3), (67, .iinc 3 (-1), 3), (70, .goto (-56), 3), (73, .return_, 1)] = true := by decide +kernel
noncomputable def fX0_search_b67 (v0 : Nat) (v1 : Option Nat) (v2 : Option Nat) (v3 : Int32) (h : PH) : Option ((Int32 × PH) ⊕ PH) :=
  some (.inl ((v3 + (-1)), h))
set_option maxRecDepth 100000 in
theorem mX0_search_b67 {v0 : Nat} {v1 : Option Nat} {v2 : Option Nat} {v3 : Int32} {h : PH} {x : ((Int32 × PH) ⊕ PH)} (hf : fX0_search_b67 v0 v1 v2 v3 h = some x) : (∀ w9 : (Int32 × PH), x = .inl w9 → eqz h (hX (w9.2)) (hV (w9.2))) ∧ (∀ w9 : PH, x = .inr w9 → eqz h (hX w9) (hV w9)) := by
  unfold fX0_search_b67 at hf
  have hle := eqz_rf h
  have ee := Option.some.inj hf; subst ee
  exact ⟨(fun z e => by have ee := Sum.inl.inj (e); subst ee; exact hle), (fun z e => nomatch e)⟩
set_option maxRecDepth 100000 in
theorem wX0_search_b67 {E : PE} {p : Program} {l : Launch} {e : Env} {s : State} {m : MethodId} {args : Array Value} {below : List Frame} {meth : Method} {c : Code} (X : Cx E p l e (rmv 48 0 0) s m args below meth c RX0 cX0_search 4 (none)) (hG : Gs E l) (hnm : meth.name = yX0_search.name) {v0 : Nat} {v1 : Option Nat} {v2 : Option Nat} {v3 : Int32} {h : PH} {r : PH} {x : ((Int32 × PH) ⊕ PH)} (hf : fX0_search_b67 v0 v1 v2 v3 h = some x) (k0 : ∀ z : (Int32 × PH), x = .inl z → PW E p l e (rmv 48 0 0) s m args below meth c 4 0 0 (MQ below (QG E (fun v u => v = none ∧ u = r)) args s 0 0 (pA E)) (z.2) 14 [(0, some (.ref v0)), (1, some (va_rf v1)), (2, some (va_rf v2)), (3, some (.int (z.1)))] []) (kf : ∀ z : PH, x = .inr z → z = r) : PW E p l e (rmv 48 0 0) s m args below meth c 4 0 0 (MQ below (QG E (fun v u => v = none ∧ u = r)) args s 0 0 (pA E)) h 67 [(0, some (.ref v0)), (1, some (va_rf v1)), (2, some (va_rf v2)), (3, some (.int v3))] [] := by
  unfold fX0_search_b67 at hf
  refine p_iinc (v := -1) X (dcg dc_X0_search 37 rfl) rfl (by decide) (by decide) (nwq (k := 2) rfl) ?_
  refine p_goto (tgt := 14) X (dcg dc_X0_search 38 rfl) (by decide) ?_
  refine p_pick [0, 1, 2, 3] ?_
  exact k0 _ (Option.some.inj hf).symm
noncomputable def fX0_search_b37 (v0 : Nat) (v1 : Option Nat) (v2 : Option Nat) (v3 : Int32) (h : PH) : Option ((Int32 × PH) ⊕ PH) :=
  gd (hK h v0 = 0) (bd (fX0_fillTrial v0 v3 h) (fun z7 =>
  gd (hK z7 v0 = 0) (bd (fX4_isMet v1 (hR z7 0 v0 2) (0 : Int32) z7) (fun z9 =>
  bd (fX4_isMet v2 (hR z7 0 v0 2) (0 : Int32) z7) (fun z10 =>
  if (z9 = z10) then (fX0_search_b67 v0 v1 v2 v3 z7) else
  bd (fX0_takeTrial v0 z7) (fun z11 =>
  fX0_search_b67 v0 v1 v2 v3 z11))))))
set_option maxRecDepth 100000 in
theorem mX0_search_b37 {v0 : Nat} {v1 : Option Nat} {v2 : Option Nat} {v3 : Int32} {h : PH} {x : ((Int32 × PH) ⊕ PH)} (hf : fX0_search_b37 v0 v1 v2 v3 h = some x) : (∀ w9 : (Int32 × PH), x = .inl w9 → eqz h (hX (w9.2)) (hV (w9.2))) ∧ (∀ w9 : PH, x = .inr w9 → eqz h (hX w9) (hV w9)) := by
  unfold fX0_search_b37 at hf
  have hle := eqz_rf h
  obtain ⟨hk6, hf⟩ := gd_some hf
  obtain ⟨z7, hz7, hf⟩ := bd_some hf
  have hle := eqz_rt (mX0_fillTrial hz7) hle
  obtain ⟨hk8, hf⟩ := gd_some hf
  obtain ⟨z9, hz9, hf⟩ := bd_some hf
  obtain ⟨z10, hz10, hf⟩ := bd_some hf
  rcases ite_or hf with ⟨q, hf⟩ | ⟨q, hf⟩
  · have hf := if_t q hf
    obtain ⟨c0, cf⟩ := mX0_search_b67 hf
    exact ⟨fun z e => eqz_rt (c0 z (e)) hle, fun z e => eqz_rt (cf z (e)) hle⟩
  · have hf := if_f q hf
    obtain ⟨z11, hz11, hf⟩ := bd_some hf
    have hle := eqz_rt (mX0_takeTrial hz11) hle
    obtain ⟨c0, cf⟩ := mX0_search_b67 hf
    exact ⟨fun z e => eqz_rt (c0 z (e)) hle, fun z e => eqz_rt (cf z (e)) hle⟩
set_option maxRecDepth 100000 in
theorem wX0_search_b37 {E : PE} {p : Program} {l : Launch} {e : Env} {s : State} {m : MethodId} {args : Array Value} {below : List Frame} {meth : Method} {c : Code} (X : Cx E p l e (rmv 48 0 0) s m args below meth c RX0 cX0_search 4 (none)) (hG : Gs E l) (hnm : meth.name = yX0_search.name) {v0 : Nat} {v1 : Option Nat} {v2 : Option Nat} {v3 : Int32} {h : PH} {r : PH} {x : ((Int32 × PH) ⊕ PH)} (hf : fX0_search_b37 v0 v1 v2 v3 h = some x) (k0 : ∀ z : (Int32 × PH), x = .inl z → PW E p l e (rmv 48 0 0) s m args below meth c 4 0 0 (MQ below (QG E (fun v u => v = none ∧ u = r)) args s 0 0 (pA E)) (z.2) 14 [(0, some (.ref v0)), (1, some (va_rf v1)), (2, some (va_rf v2)), (3, some (.int (z.1)))] []) (kf : ∀ z : PH, x = .inr z → z = r) : PW E p l e (rmv 48 0 0) s m args below meth c 4 0 0 (MQ below (QG E (fun v u => v = none ∧ u = r)) args s 0 0 (pA E)) h 37 [(0, some (.ref v0)), (1, some (va_rf v1)), (2, some (va_rf v2)), (3, some (.int v3))] [] := by
  unfold fX0_search_b37 at hf
  refine p_aload_n X (dcg dc_X0_search 21 rfl) rfl rfl ?_
  refine p_iload_n X (dcg dc_X0_search 22 rfl) rfl rfl ?_
  obtain ⟨hk6, hf⟩ := gd_some hf
  obtain ⟨z7, hz7, hf⟩ := bd_some hf
  refine p_callV (As := [_]) X ml_X0_65 (dcg dc_X0_search 23 rfl) rfl rfl hk6 (wX0_fillTrial hG hz7) (by decide) (room4 (Nat.le_of_ble_eq_true rfl)) (Nat.le_refl _) (Nat.le_refl _) ?_
  rintro _ u9 ⟨rfl, e9⟩; have e9 := e9.symm; subst e9
  refine p_aloadq_n X (dcg dc_X0_search 24 rfl) rfl rfl ?_
  refine p_aload_n X (dcg dc_X0_search 25 rfl) rfl rfl ?_
  obtain ⟨hk8, hf⟩ := gd_some hf
  refine p_getR X fl_X0_18 rfl (by decide) (dcg dc_X0_search 26 rfl) hk8 ?_
  refine p_iconst (v := 0) X (dcg dc_X0_search 27 rfl) (by decide) ?_
  obtain ⟨z9, hz9, hf⟩ := bd_some hf
  refine p_callSn (As := [va_rf _, va_rf _, _]) X ml_X0_69 (dcg dc_X0_search 28 rfl) rfl rfl  (wX4_isMet hG hz9) (by decide) (room4 (Nat.le_of_ble_eq_true rfl)) (Nat.le_refl _) (Nat.le_refl _) ?_
  rintro _ u9 ⟨rfl, e9⟩; have e9 := e9.symm; subst e9
  refine p_aloadq_n X (dcg dc_X0_search 29 rfl) rfl rfl ?_
  refine p_aload_n X (dcg dc_X0_search 30 rfl) rfl rfl ?_
  refine p_getR X fl_X0_18 rfl (by decide) (dcg dc_X0_search 31 rfl) hk8 ?_
  refine p_iconst (v := 0) X (dcg dc_X0_search 32 rfl) (by decide) ?_
  obtain ⟨z10, hz10, hf⟩ := bd_some hf
  refine p_callSn (As := [va_rf _, va_rf _, _]) X ml_X0_69 (dcg dc_X0_search 33 rfl) rfl rfl  (wX4_isMet hG hz10) (by decide) (room4 (Nat.le_of_ble_eq_true rfl)) (Nat.le_refl _) (Nat.le_refl _) ?_
  rintro _ u9 ⟨rfl, e9⟩; have e9 := e9.symm; subst e9
  refine p_icmp_eq (tgt := 67) X (dcg dc_X0_search 34 rfl) (by decide) (fun q => ?_) (fun q => ?_)
  · have hf := if_t q hf
    refine p_pick [0, 1, 2, 3] ?_
    exact wX0_search_b67 X hG hnm hf k0 kf
  · have hf := if_f q hf
    refine p_aload_n X (dcg dc_X0_search 35 rfl) rfl rfl ?_
    obtain ⟨z11, hz11, hf⟩ := bd_some hf
    refine p_callV (As := []) X ml_X0_73 (dcg dc_X0_search 36 rfl) rfl rfl hk8 (wX0_takeTrial hG hz11) (by decide) (room4 (Nat.le_of_ble_eq_true rfl)) (Nat.le_refl _) (Nat.le_refl _) ?_
    rintro _ u9 ⟨rfl, e9⟩; have e9 := e9.symm; subst e9
    refine p_pick [0, 1, 2, 3] ?_
    exact wX0_search_b67 X hG hnm hf k0 kf
noncomputable def fX0_search_c14 (v0 : Nat) (v1 : Option Nat) (v2 : Option Nat) (v3 : Int32) (h : PH) : Option ((Int32 × PH) ⊕ PH) :=
  if (v3 < 0) then (mr (some (h))) else
  gd (hK h v0 = 0) (if ((hI h 0 v0 4) = (-1 : Int32)) then (fX0_search_b37 v0 v1 v2 v3 h) else
  bd (fJ6_bitCount_0f7a4 v3) (fun z12 =>
  if ((hI h 0 v0 4) ≤ z12) then (fX0_search_b67 v0 v1 v2 v3 h) else
  fX0_search_b37 v0 v1 v2 v3 h))
set_option maxRecDepth 100000 in
theorem mX0_search_c14 {v0 : Nat} {v1 : Option Nat} {v2 : Option Nat} {v3 : Int32} {h : PH} {x : ((Int32 × PH) ⊕ PH)} (hf : fX0_search_c14 v0 v1 v2 v3 h = some x) : (∀ w9 : (Int32 × PH), x = .inl w9 → eqz h (hX (w9.2)) (hV (w9.2))) ∧ (∀ w9 : PH, x = .inr w9 → eqz h (hX w9) (hV w9)) := by
  unfold fX0_search_c14 at hf
  have hle := eqz_rf h
  rcases ite_or hf with ⟨q, hf⟩ | ⟨q, hf⟩
  · have hf := if_t q hf
    obtain ⟨y3, hfm, rfl⟩ := mr_some hf; have hf := hfm; clear hfm
    have ee := Option.some.inj hf; subst ee
    exact ⟨(fun z e => nomatch e), (fun z e => by have ee := Sum.inr.inj (e); subst ee; exact hle)⟩
  · have hf := if_f q hf
    obtain ⟨hk5, hf⟩ := gd_some hf
    rcases ite_or hf with ⟨q, hf⟩ | ⟨q, hf⟩
    · have hf := if_t q hf
      obtain ⟨c0, cf⟩ := mX0_search_b37 hf
      exact ⟨fun z e => eqz_rt (c0 z (e)) hle, fun z e => eqz_rt (cf z (e)) hle⟩
    · have hf := if_f q hf
      obtain ⟨z12, hz12, hf⟩ := bd_some hf
      rcases ite_or hf with ⟨q, hf⟩ | ⟨q, hf⟩
      · have hf := if_t q hf
        obtain ⟨c0, cf⟩ := mX0_search_b67 hf
        exact ⟨fun z e => eqz_rt (c0 z (e)) hle, fun z e => eqz_rt (cf z (e)) hle⟩
      · have hf := if_f q hf
        obtain ⟨c0, cf⟩ := mX0_search_b37 hf
        exact ⟨fun z e => eqz_rt (c0 z (e)) hle, fun z e => eqz_rt (cf z (e)) hle⟩
set_option maxRecDepth 100000 in
theorem wX0_search_c14 {E : PE} {p : Program} {l : Launch} {e : Env} {s : State} {m : MethodId} {args : Array Value} {below : List Frame} {meth : Method} {c : Code} (X : Cx E p l e (rmv 48 0 0) s m args below meth c RX0 cX0_search 4 (none)) (hG : Gs E l) (hnm : meth.name = yX0_search.name) {v0 : Nat} {v1 : Option Nat} {v2 : Option Nat} {v3 : Int32} {h : PH} {r : PH} {x : ((Int32 × PH) ⊕ PH)} (hf : fX0_search_c14 v0 v1 v2 v3 h = some x) (k0 : ∀ z : (Int32 × PH), x = .inl z → PW E p l e (rmv 48 0 0) s m args below meth c 4 0 0 (MQ below (QG E (fun v u => v = none ∧ u = r)) args s 0 0 (pA E)) (z.2) 14 [(0, some (.ref v0)), (1, some (va_rf v1)), (2, some (va_rf v2)), (3, some (.int (z.1)))] []) (kf : ∀ z : PH, x = .inr z → z = r) : PW E p l e (rmv 48 0 0) s m args below meth c 4 0 0 (MQ below (QG E (fun v u => v = none ∧ u = r)) args s 0 0 (pA E)) h 14 [(0, some (.ref v0)), (1, some (va_rf v1)), (2, some (va_rf v2)), (3, some (.int v3))] [] := by
  unfold fX0_search_c14 at hf
  refine p_iload_n X (dcg dc_X0_search 10 rfl) rfl rfl ?_
  refine p_if_lt (tgt := 73) X (dcg dc_X0_search 11 rfl) (by decide) (fun q => ?_) (fun q => ?_)
  · have hf := if_t q hf
    obtain ⟨y3, hf, hy4⟩ := mr_some hf
    have hy4f := kf y3 hy4
    subst hy4f
    have er := Option.some.inj hf
    subst er
    exact p_vret X rfl (dcg dc_X0_search 39 rfl) ⟨rfl, rfl⟩ (Nat.le_refl _) (Nat.le_refl _)
  · have hf := if_f q hf
    refine p_aload_n X (dcg dc_X0_search 12 rfl) rfl rfl ?_
    obtain ⟨hk5, hf⟩ := gd_some hf
    refine p_getI X fl_X0_25 rfl (by decide) (dcg dc_X0_search 13 rfl) hk5 ?_
    refine p_iconst (v := -1) X (dcg dc_X0_search 14 rfl) (by decide) ?_
    refine p_icmp_eq (tgt := 37) X (dcg dc_X0_search 15 rfl) (by decide) (fun q => ?_) (fun q => ?_)
    · have hf := if_t q hf
      refine p_pick [0, 1, 2, 3] ?_
      exact wX0_search_b37 X hG hnm hf k0 kf
    · have hf := if_f q hf
      refine p_iload_n X (dcg dc_X0_search 16 rfl) rfl rfl ?_
      obtain ⟨z12, hz12, hf⟩ := bd_some hf
      refine p_callS (As := [_]) X ml_X0_60 (dcg dc_X0_search 17 rfl) rfl rfl  (wJ6_bitCount_0f7a4 hG hz12) (by decide) (room4 (Nat.le_of_ble_eq_true rfl)) (Nat.le_refl _) (Nat.le_refl _) ?_
      rintro _ u9 ⟨rfl, e9⟩; have e9 := e9.symm; subst e9
      refine p_aload_n X (dcg dc_X0_search 18 rfl) rfl rfl ?_
      refine p_getI X fl_X0_25 rfl (by decide) (dcg dc_X0_search 19 rfl) hk5 ?_
      refine p_icmp_ge (tgt := 67) X (dcg dc_X0_search 20 rfl) (by decide) (fun q => ?_) (fun q => ?_)
      · have hf := if_t q hf
        refine p_pick [0, 1, 2, 3] ?_
        exact wX0_search_b67 X hG hnm hf k0 kf
      · have hf := if_f q hf
        refine p_pick [0, 1, 2, 3] ?_
        exact wX0_search_b37 X hG hnm hf k0 kf
noncomputable def fX0_search_l14 (v0 : Nat) (v1 : Option Nat) (v2 : Option Nat) (v3 : Int32) (h : PH) : Option PH := wh (fun z : (Int32 × PH) => fX0_search_c14 v0 v1 v2 (z.1) (z.2)) (v3, h)
set_option maxRecDepth 100000 in
theorem mX0_search_l14 {v0 : Nat} {v1 : Option Nat} {v2 : Option Nat} {v3 : Int32} {h : PH} {r : PH} (hf : fX0_search_l14 v0 v1 v2 v3 h = some r) : eqz h (hX r) (hV r) := by
  unfold fX0_search_l14 at hf
  refine wh_ind (P := fun z => eqz (z.2) (hX r) (hV r)) (fun z x0 hs i1 i2 => ?_) _ hf
  obtain ⟨c0, cf⟩ := mX0_search_c14 (v0 := v0) (v1 := v1) (v2 := v2) (v3 := z.1) (h := z.2) hs
  rcases hxx : x0 with zz | zz
  · exact eqz_tr (c0 zz hxx) (i1 zz hxx)
  · have ee := i2 zz hxx; subst ee; exact cf zz hxx
set_option maxRecDepth 100000 in
theorem wX0_search_l14 {E : PE} {p : Program} {l : Launch} {e : Env} {s : State} {m : MethodId} {args : Array Value} {below : List Frame} {meth : Method} {c : Code} (X : Cx E p l e (rmv 48 0 0) s m args below meth c RX0 cX0_search 4 (none)) (hG : Gs E l) (hnm : meth.name = yX0_search.name) {v0 : Nat} {v1 : Option Nat} {v2 : Option Nat} {v3 : Int32} {h : PH} {r : PH} (hf : fX0_search_l14 v0 v1 v2 v3 h = some r)  : PW E p l e (rmv 48 0 0) s m args below meth c 4 0 0 (MQ below (QG E (fun v u => v = none ∧ u = r)) args s 0 0 (pA E)) h 14 [(0, some (.ref v0)), (1, some (va_rf v1)), (2, some (va_rf v2)), (3, some (.int v3))] [] := by
  unfold fX0_search_l14 at hf
  refine wh_ind (P := fun z => PW E p l e (rmv 48 0 0) s m args below meth c 4 0 0 (MQ below (QG E (fun v u => v = none ∧ u = r)) args s 0 0 (pA E)) (z.2) 14 [(0, some (.ref v0)), (1, some (va_rf v1)), (2, some (va_rf v2)), (3, some (.int (z.1)))] []) (fun z x0 hs i1 i2 => ?_) _ hf
  exact wX0_search_c14 (r := r) (v0 := v0) (v1 := v1) (v2 := v2) (v3 := z.1) (h := z.2) X hG hnm hs i1  i2
noncomputable def fX0_search (v0 : Nat) (v1 : Option Nat) (v2 : Option Nat) (h : PH) : Option PH :=
  gd (hK h v0 = 0) (lt (sI h 0 v0 4 (-1 : Int32)) (fun h2 =>
  fX0_search_l14 v0 v1 v2 (((1 : Int32) <<< ((hI h2 0 v0 1) &&& 31)) - (1 : Int32)) h2))
set_option maxRecDepth 100000 in
theorem mX0_search {v0 : Nat} {v1 : Option Nat} {v2 : Option Nat} {h : PH} {r : PH} (hf : fX0_search v0 v1 v2 h = some r) : eqz h (hX r) (hV r) := by
  unfold fX0_search at hf
  have hle := eqz_rf h
  obtain ⟨hk1, hf⟩ := gd_some hf
  obtain ⟨h2, rfl, hf⟩ := lt_some hf
  exact eqz_rt (mX0_search_l14 hf) hle
set_option maxRecDepth 100000 in
theorem wX0_search {E : PE} {l : Launch} (hG : Gs E l) {v0 : Nat} {v1 : Option Nat} {v2 : Option Nat} {h : PH} {r : PH} (hf : fX0_search v0 v1 v2 h = some r) : Ct E l 48 0 0 yX0_search cX0_search 4 (none) [.ref v0, va_rf v1, va_rf v2] h (fun v u => v = none ∧ u = r) := by
  refine ct_of hG (by decide) (by simp [lg_sl, cat_rf, cat_r, cat_i, cat_l, cat_d, cat_f]) ?_
  intro p e s m args below meth c X hnm
  rw [show pargs 0 [.ref v0, va_rf v1, va_rf v2] = [(0, some (.ref v0)), (1, some (va_rf v1)), (2, some (va_rf v2))] from by simp [pargs, cat_rf, cat_r, cat_i, cat_l, cat_d, cat_f]]
  unfold fX0_search at hf
  refine p_aload_n X (dcg dc_X0_search 0 rfl) rfl rfl ?_
  refine p_iconst (v := -1) X (dcg dc_X0_search 1 rfl) (by decide) ?_
  obtain ⟨hk1, hf⟩ := gd_some hf
  refine p_putI X fl_X0_25 rfl (by decide) (fun q hq => by cases hq; rfl) rfl rfl (dcg dc_X0_search 2 rfl) hk1 ?_
  obtain ⟨h2, rfl, hf⟩ := lt_some hf
  refine p_iconst (v := 1) X (dcg dc_X0_search 3 rfl) (by decide) ?_
  refine p_aload_n X (dcg dc_X0_search 4 rfl) rfl rfl ?_
  refine p_getI X fl_X0_29 rfl (by decide) (dcg dc_X0_search 5 rfl) hk1 ?_
  refine p_ishl X (dcg dc_X0_search 6 rfl) ?_
  refine p_iconst (v := 1) X (dcg dc_X0_search 7 rfl) (by decide) ?_
  refine p_isub X (dcg dc_X0_search 8 rfl) ?_
  refine p_istore_n X (dcg dc_X0_search 9 rfl) rfl (by decide) (nwq (k := 2) rfl) ?_
  refine p_pick [0, 1, 2, 3] ?_
  exact wX0_search_l14 X hG hnm hf 
theorem dc_X0_leastAt : decs cX0_leastAt [(0, .iload_n 1, 1), (1, .ifCond .lt 11, 3), (4, .iload_n 1, 1), (5, .aload_n 0, 1), (6, .getfield 25, 3), (9, .if_icmp .lt 7, 3), (12, .iconst (-1), 1), (13, .goto 9, 3), (16, .aload_n 0, 1), (17, .getfield 22, 3), (20, .iload_n 1, 1), (21, .iaload, 1), (22, .ireturn, 1)] = true := by decide +kernel
noncomputable def fX0_leastAt_b22 (t0 : Int32) (h : PH) : Option Int32 :=
  some (t0)
set_option maxRecDepth 100000 in
theorem wX0_leastAt_b22 {E : PE} {p : Program} {l : Launch} {e : Env} {s : State} {m : MethodId} {args : Array Value} {below : List Frame} {meth : Method} {c : Code} (X : Cx E p l e (rmv 0 0 0) s m args below meth c RX0 cX0_leastAt 2 (some .int)) (hG : Gs E l) (hnm : meth.name = yX0_leastAt.name) {t0 : Int32} {h : PH} {r : Int32} (hf : fX0_leastAt_b22 t0 h = some r)  : PW E p l e (rmv 0 0 0) s m args below meth c 2 0 0 (MQ below (QG E (fun v u => v = some (.int r) ∧ u = h)) args s 0 0 (pA E)) h 22 [] [.int t0] := by
  unfold fX0_leastAt_b22 at hf
  have er := Option.some.inj hf
  subst er
  exact p_iret X rfl (dcg dc_X0_leastAt 12 rfl) ⟨rfl, rfl⟩ (Nat.le_refl _) (Nat.le_refl _)
noncomputable def fX0_leastAt_b12  (h : PH) : Option Int32 :=
  fX0_leastAt_b22 (-1 : Int32) h
set_option maxRecDepth 100000 in
theorem wX0_leastAt_b12 {E : PE} {p : Program} {l : Launch} {e : Env} {s : State} {m : MethodId} {args : Array Value} {below : List Frame} {meth : Method} {c : Code} (X : Cx E p l e (rmv 0 0 0) s m args below meth c RX0 cX0_leastAt 2 (some .int)) (hG : Gs E l) (hnm : meth.name = yX0_leastAt.name)  {h : PH} {r : Int32} (hf : fX0_leastAt_b12  h = some r)  : PW E p l e (rmv 0 0 0) s m args below meth c 2 0 0 (MQ below (QG E (fun v u => v = some (.int r) ∧ u = h)) args s 0 0 (pA E)) h 12 [] [] := by
  unfold fX0_leastAt_b12 at hf
  refine p_iconst (v := -1) X (dcg dc_X0_leastAt 6 rfl) (by decide) ?_
  refine p_goto (tgt := 22) X (dcg dc_X0_leastAt 7 rfl) (by decide) ?_
  refine p_pick [] ?_
  exact wX0_leastAt_b22 X hG hnm hf 
noncomputable def fX0_leastAt (v0 : Nat) (v1 : Int32) (h : PH) : Option Int32 :=
  if (v1 < 0) then (fX0_leastAt_b12  h) else
  gd (hK h v0 = 0) (if (v1 < (hI h 0 v0 4)) then (gs (hR h 0 v0 3) (fun a2 =>
  gd (hK h a2 = 20 ∧ inb v1 (hN h a2)) (fX0_leastAt_b22 (hI h 20 a2 (Int32.toNatClampNeg v1)) h))) else
  fX0_leastAt_b12  h)
set_option maxRecDepth 100000 in
theorem wX0_leastAt {E : PE} {l : Launch} (hG : Gs E l) {v0 : Nat} {v1 : Int32} {h : PH} {r : Int32} (hf : fX0_leastAt v0 v1 h = some r) : Ct E l 0 0 0 yX0_leastAt cX0_leastAt 2 (some .int) [.ref v0, .int v1] h (fun v u => v = some (.int r) ∧ u = h) := by
  refine ct_of hG (by decide) (Nat.le_of_ble_eq_true rfl) ?_
  intro p e s m args below meth c X hnm
  show PW E p l e _ s m args below meth c _ 0 0 _ h 0 [(0, some (.ref v0)), (1, some (.int v1))] []
  unfold fX0_leastAt at hf
  refine p_iload_n X (dcg dc_X0_leastAt 0 rfl) rfl rfl ?_
  refine p_if_lt (tgt := 12) X (dcg dc_X0_leastAt 1 rfl) (by decide) (fun q => ?_) (fun q => ?_)
  · have hf := if_t q hf
    refine p_pick [] ?_
    exact wX0_leastAt_b12 X hG hnm hf 
  · have hf := if_f q hf
    refine p_iload_n X (dcg dc_X0_leastAt 2 rfl) rfl rfl ?_
    refine p_aload_n X (dcg dc_X0_leastAt 3 rfl) rfl rfl ?_
    obtain ⟨hk1, hf⟩ := gd_some hf
    refine p_getI X fl_X0_25 rfl (by decide) (dcg dc_X0_leastAt 4 rfl) hk1 ?_
    refine p_icmp_lt (tgt := 16) X (dcg dc_X0_leastAt 5 rfl) (by decide) (fun q => ?_) (fun q => ?_)
    · have hf := if_t q hf
      refine p_aload_n X (dcg dc_X0_leastAt 8 rfl) rfl rfl ?_
      refine p_getR X fl_X0_22 rfl (by decide) (dcg dc_X0_leastAt 9 rfl) hk1 ?_
      refine p_iload_n X (dcg dc_X0_leastAt 10 rfl) rfl rfl ?_
      obtain ⟨a2, e3, hf⟩ := gs_some hf
      first | subst e3 | (try rw [e3])
      obtain ⟨⟨hk5, hb4⟩, hf⟩ := gd_some hf
      refine p_iald X (dcg dc_X0_leastAt 11 rfl) hk5 (vp_of_inb hb4) ?_
      refine p_pick [] ?_
      exact wX0_leastAt_b22 X hG hnm hf 
    · have hf := if_f q hf
      refine p_pick [] ?_
      exact wX0_leastAt_b12 X hG hnm hf 
theorem dc_X1_init : decs cX1_init [(0, .aload_n 0, 1), (1, .invokespecial 3, 3), (4, .aload_n 0, 1), (5, .bipush 100, 2), (7, .newarray .int, 2), (9, .putfield 11, 3), (12, .aload_n 0, 1), (13, .bipush 100, 2), (15, .newarray .int, 2), (17, .putfield 15, 3), (20, .aload_n 0, 1), (21, .bipush 100, 2), (23, .newarray .int, 2), (25, .putfield 18, 3), (28, .return_, 1)] = true := by decide +kernel
noncomputable def fX1_init_b25 (t0 : Nat) (t1 : Nat) (h : PH) : Option PH :=
  gd (hK h t0 = 1) (lt (sR h 1 t0 2 (some t1)) (fun h9 =>
  some (h9)))
set_option maxRecDepth 100000 in
theorem mX1_init_b25 {t0 : Nat} {t1 : Nat} {h : PH} {r : PH} (hf : fX1_init_b25 t0 t1 h = some r) : lez h (hX r) (hV r) := by
  unfold fX1_init_b25 at hf
  have hle := lez_rf h
  obtain ⟨hk8, hf⟩ := gd_some hf
  obtain ⟨h9, rfl, hf⟩ := lt_some hf
  have ee := Option.some.inj hf; subst ee; exact hle
set_option maxRecDepth 100000 in
theorem wX1_init_b25 {E : PE} {p : Program} {l : Launch} {e : Env} {s : State} {m : MethodId} {args : Array Value} {below : List Frame} {meth : Method} {c : Code} {X0 V0 MC MS uc us : Nat} (X : Cx E p l e (rmv 1 MC MS) s m args below meth c RX1 cX1_init 1 (none)) (hG : Gs E l) (hnm : meth.name = yX1_init.name) {t0 : Nat} {t1 : Nat} {h : PH} {r : PH} (hM : MC + X0 = (hX r)) (hN : MS + V0 = (hV r)) (hu : uc + X0 = hX h) (hv : us + V0 = hV h) (hf : fX1_init_b25 t0 t1 h = some r)  : PW E p l e (rmv 1 MC MS) s m args below meth c 1 uc us (MQ below (QG E (fun v u => v = none ∧ u = r)) args s MC MS (pA E)) h 25 [] [.ref t1, .ref t0] := by
  have hm1 : lez h (hX r) (hV r) := mX1_init_b25 hf
  have hcm : uc ≤ MC := (by have o0 := hm1.1; have o1 := hM; have o2 := hu; (try simp only [hX_sI, hX_sR, hX_sL, hX_sD, hX_sIa, hX_sRa, hV_sI, hV_sR, hV_sL, hV_sD, hV_sIa, hV_sRa, hX_new, hV_new] at o0 o1 o2 ⊢); omega)
  have hsm : us ≤ MS := (by have o0 := hm1.2; have o1 := hN; have o2 := hv; (try simp only [hX_sI, hX_sR, hX_sL, hX_sD, hX_sIa, hX_sRa, hV_sI, hV_sR, hV_sL, hV_sD, hV_sIa, hV_sRa, hX_new, hV_new] at o0 o1 o2 ⊢); omega)
  clear hm1
  unfold fX1_init_b25 at hf
  obtain ⟨hk8, hf⟩ := gd_some hf
  refine p_putRf (v := some _) X fl_X1_18 rfl (by decide) (fun q hq => by cases hq; exact ⟨rfl, rfl⟩) hnm (nar_rf _ (by decide)) (fit_rf _ (by decide)) (dcg dc_X1_init 13 rfl) hk8 ?_
  obtain ⟨h9, rfl, hf⟩ := lt_some hf
  have er := Option.some.inj hf
  subst er
  exact p_vret X rfl (dcg dc_X1_init 14 rfl) ⟨rfl, rfl⟩ hcm hsm
noncomputable def fX1_init_b17 (v0 : Nat) (t0 : Nat) (t1 : Nat) (h : PH) : Option PH :=
  gd (hK h t0 = 1) (lt (sR h 1 t0 1 (some t1)) (fun h6 =>
  gd (¬ (100 : Int32) < 0 ∧ (Int32.toNatClampNeg (100 : Int32)) ≤ 1000000) (fX1_init_b25 v0 (hX h6) (hnew h6 20 (Int32.toNatClampNeg (100 : Int32))))))
set_option maxRecDepth 100000 in
theorem mX1_init_b17 {v0 : Nat} {t0 : Nat} {t1 : Nat} {h : PH} {r : PH} (hf : fX1_init_b17 v0 t0 t1 h = some r) : lez h (hX r) (hV r) := by
  unfold fX1_init_b17 at hf
  have hle := lez_rf h
  obtain ⟨hk5, hf⟩ := gd_some hf
  obtain ⟨h6, rfl, hf⟩ := lt_some hf
  obtain ⟨hg7, hf⟩ := gd_some hf
  have hle := lez_nw (c := 20) (n := (Int32.toNatClampNeg (100 : Int32))) hle
  exact lez_rt (mX1_init_b25 hf) hle
set_option maxRecDepth 100000 in
theorem wX1_init_b17 {E : PE} {p : Program} {l : Launch} {e : Env} {s : State} {m : MethodId} {args : Array Value} {below : List Frame} {meth : Method} {c : Code} {X0 V0 MC MS uc us : Nat} (X : Cx E p l e (rmv 1 MC MS) s m args below meth c RX1 cX1_init 1 (none)) (hG : Gs E l) (hnm : meth.name = yX1_init.name) {v0 : Nat} {t0 : Nat} {t1 : Nat} {h : PH} {r : PH} (hM : MC + X0 = (hX r)) (hN : MS + V0 = (hV r)) (hu : uc + X0 = hX h) (hv : us + V0 = hV h) (hf : fX1_init_b17 v0 t0 t1 h = some r)  : PW E p l e (rmv 1 MC MS) s m args below meth c 1 uc us (MQ below (QG E (fun v u => v = none ∧ u = r)) args s MC MS (pA E)) h 17 [(0, some (.ref v0))] [.ref t1, .ref t0] := by
  have hm1 : lez h (hX r) (hV r) := mX1_init_b17 hf
  have hcm : uc ≤ MC := (by have o0 := hm1.1; have o1 := hM; have o2 := hu; (try simp only [hX_sI, hX_sR, hX_sL, hX_sD, hX_sIa, hX_sRa, hV_sI, hV_sR, hV_sL, hV_sD, hV_sIa, hV_sRa, hX_new, hV_new] at o0 o1 o2 ⊢); omega)
  have hsm : us ≤ MS := (by have o0 := hm1.2; have o1 := hN; have o2 := hv; (try simp only [hX_sI, hX_sR, hX_sL, hX_sD, hX_sIa, hX_sRa, hV_sI, hV_sR, hV_sL, hV_sD, hV_sIa, hV_sRa, hX_new, hV_new] at o0 o1 o2 ⊢); omega)
  clear hm1
  unfold fX1_init_b17 at hf
  obtain ⟨hk5, hf⟩ := gd_some hf
  refine p_putRf (v := some _) X fl_X1_15 rfl (by decide) (fun q hq => by cases hq; exact ⟨rfl, rfl⟩) hnm (nar_rf _ (by decide)) (fit_rf _ (by decide)) (dcg dc_X1_init 9 rfl) hk5 ?_
  obtain ⟨h6, rfl, hf⟩ := lt_some hf
  refine p_aload_n X (dcg dc_X1_init 10 rfl) rfl rfl ?_
  refine p_bipush (v := 100) X (dcg dc_X1_init 11 rfl) (by decide) ?_
  obtain ⟨hg7, hf⟩ := gd_some hf
  have hm1 : lez _ (hX r) (hV r) := mX1_init_b25 hf
  have hm2 := lez_new hm1
  refine p_newa20 X tw_168 (dcg dc_X1_init 12 rfl) hg7.1 hg7.2 (show uc + 1 ≤ MC from (by have o0 := hm2.1; have o1 := hM; have o2 := hu; (try simp only [hX_sI, hX_sR, hX_sL, hX_sD, hX_sIa, hX_sRa, hV_sI, hV_sR, hV_sL, hV_sD, hV_sIa, hV_sRa, hX_new, hV_new] at o0 o1 o2 ⊢); omega)) (show us + (Int32.toNatClampNeg (100 : Int32)) ≤ MS from (by have o0 := hm2.2; have o1 := hN; have o2 := hv; (try simp only [hX_sI, hX_sR, hX_sL, hX_sD, hX_sIa, hX_sRa, hV_sI, hV_sR, hV_sL, hV_sD, hV_sIa, hV_sRa, hX_new, hV_new] at o0 o1 o2 ⊢); omega)) ?_
  refine p_pick [] ?_
  exact wX1_init_b25 X hG hnm hM hN (by have o0 := hu; (try simp only [hX_sI, hX_sR, hX_sL, hX_sD, hX_sIa, hX_sRa, hV_sI, hV_sR, hV_sL, hV_sD, hV_sIa, hV_sRa, hX_new, hV_new] at o0 ⊢); omega) (by have o0 := hv; (try simp only [hX_sI, hX_sR, hX_sL, hX_sD, hX_sIa, hX_sRa, hV_sI, hV_sR, hV_sL, hV_sD, hV_sIa, hV_sRa, hX_new, hV_new] at o0 ⊢); omega) hf 
noncomputable def fX1_init_b9 (v0 : Nat) (t0 : Nat) (t1 : Nat) (h : PH) : Option PH :=
  gd (hK h t0 = 1) (lt (sR h 1 t0 0 (some t1)) (fun h3 =>
  gd (¬ (100 : Int32) < 0 ∧ (Int32.toNatClampNeg (100 : Int32)) ≤ 1000000) (fX1_init_b17 v0 v0 (hX h3) (hnew h3 20 (Int32.toNatClampNeg (100 : Int32))))))
set_option maxRecDepth 100000 in
theorem mX1_init_b9 {v0 : Nat} {t0 : Nat} {t1 : Nat} {h : PH} {r : PH} (hf : fX1_init_b9 v0 t0 t1 h = some r) : lez h (hX r) (hV r) := by
  unfold fX1_init_b9 at hf
  have hle := lez_rf h
  obtain ⟨hk2, hf⟩ := gd_some hf
  obtain ⟨h3, rfl, hf⟩ := lt_some hf
  obtain ⟨hg4, hf⟩ := gd_some hf
  have hle := lez_nw (c := 20) (n := (Int32.toNatClampNeg (100 : Int32))) hle
  exact lez_rt (mX1_init_b17 hf) hle
set_option maxRecDepth 100000 in
theorem wX1_init_b9 {E : PE} {p : Program} {l : Launch} {e : Env} {s : State} {m : MethodId} {args : Array Value} {below : List Frame} {meth : Method} {c : Code} {X0 V0 MC MS uc us : Nat} (X : Cx E p l e (rmv 1 MC MS) s m args below meth c RX1 cX1_init 1 (none)) (hG : Gs E l) (hnm : meth.name = yX1_init.name) {v0 : Nat} {t0 : Nat} {t1 : Nat} {h : PH} {r : PH} (hM : MC + X0 = (hX r)) (hN : MS + V0 = (hV r)) (hu : uc + X0 = hX h) (hv : us + V0 = hV h) (hf : fX1_init_b9 v0 t0 t1 h = some r)  : PW E p l e (rmv 1 MC MS) s m args below meth c 1 uc us (MQ below (QG E (fun v u => v = none ∧ u = r)) args s MC MS (pA E)) h 9 [(0, some (.ref v0))] [.ref t1, .ref t0] := by
  have hm1 : lez h (hX r) (hV r) := mX1_init_b9 hf
  have hcm : uc ≤ MC := (by have o0 := hm1.1; have o1 := hM; have o2 := hu; (try simp only [hX_sI, hX_sR, hX_sL, hX_sD, hX_sIa, hX_sRa, hV_sI, hV_sR, hV_sL, hV_sD, hV_sIa, hV_sRa, hX_new, hV_new] at o0 o1 o2 ⊢); omega)
  have hsm : us ≤ MS := (by have o0 := hm1.2; have o1 := hN; have o2 := hv; (try simp only [hX_sI, hX_sR, hX_sL, hX_sD, hX_sIa, hX_sRa, hV_sI, hV_sR, hV_sL, hV_sD, hV_sIa, hV_sRa, hX_new, hV_new] at o0 o1 o2 ⊢); omega)
  clear hm1
  unfold fX1_init_b9 at hf
  obtain ⟨hk2, hf⟩ := gd_some hf
  refine p_putRf (v := some _) X fl_X1_11 rfl (by decide) (fun q hq => by cases hq; exact ⟨rfl, rfl⟩) hnm (nar_rf _ (by decide)) (fit_rf _ (by decide)) (dcg dc_X1_init 5 rfl) hk2 ?_
  obtain ⟨h3, rfl, hf⟩ := lt_some hf
  refine p_aload_n X (dcg dc_X1_init 6 rfl) rfl rfl ?_
  refine p_bipush (v := 100) X (dcg dc_X1_init 7 rfl) (by decide) ?_
  obtain ⟨hg4, hf⟩ := gd_some hf
  have hm1 : lez _ (hX r) (hV r) := mX1_init_b17 hf
  have hm2 := lez_new hm1
  refine p_newa20 X tw_168 (dcg dc_X1_init 8 rfl) hg4.1 hg4.2 (show uc + 1 ≤ MC from (by have o0 := hm2.1; have o1 := hM; have o2 := hu; (try simp only [hX_sI, hX_sR, hX_sL, hX_sD, hX_sIa, hX_sRa, hV_sI, hV_sR, hV_sL, hV_sD, hV_sIa, hV_sRa, hX_new, hV_new] at o0 o1 o2 ⊢); omega)) (show us + (Int32.toNatClampNeg (100 : Int32)) ≤ MS from (by have o0 := hm2.2; have o1 := hN; have o2 := hv; (try simp only [hX_sI, hX_sR, hX_sL, hX_sD, hX_sIa, hX_sRa, hV_sI, hV_sR, hV_sL, hV_sD, hV_sIa, hV_sRa, hX_new, hV_new] at o0 o1 o2 ⊢); omega)) ?_
  refine p_pick [0] ?_
  exact wX1_init_b17 X hG hnm hM hN (by have o0 := hu; (try simp only [hX_sI, hX_sR, hX_sL, hX_sD, hX_sIa, hX_sRa, hV_sI, hV_sR, hV_sL, hV_sD, hV_sIa, hV_sRa, hX_new, hV_new] at o0 ⊢); omega) (by have o0 := hv; (try simp only [hX_sI, hX_sR, hX_sL, hX_sD, hX_sIa, hX_sRa, hV_sI, hV_sR, hV_sL, hV_sD, hV_sIa, hV_sRa, hX_new, hV_new] at o0 ⊢); omega) hf 
noncomputable def fX1_init_b0 (v0 : Nat) (h : PH) : Option PH :=
  gd (¬ (100 : Int32) < 0 ∧ (Int32.toNatClampNeg (100 : Int32)) ≤ 1000000) (fX1_init_b9 v0 v0 (hX h) (hnew h 20 (Int32.toNatClampNeg (100 : Int32))))
set_option maxRecDepth 100000 in
theorem mX1_init_b0 {v0 : Nat} {h : PH} {r : PH} (hf : fX1_init_b0 v0 h = some r) : lez h (hX r) (hV r) := by
  unfold fX1_init_b0 at hf
  have hle := lez_rf h
  obtain ⟨hg1, hf⟩ := gd_some hf
  have hle := lez_nw (c := 20) (n := (Int32.toNatClampNeg (100 : Int32))) hle
  exact lez_rt (mX1_init_b9 hf) hle
set_option maxRecDepth 100000 in
theorem wX1_init_b0 {E : PE} {p : Program} {l : Launch} {e : Env} {s : State} {m : MethodId} {args : Array Value} {below : List Frame} {meth : Method} {c : Code} {X0 V0 MC MS uc us : Nat} (X : Cx E p l e (rmv 1 MC MS) s m args below meth c RX1 cX1_init 1 (none)) (hG : Gs E l) (hnm : meth.name = yX1_init.name) {v0 : Nat} {h : PH} {r : PH} (hM : MC + X0 = (hX r)) (hN : MS + V0 = (hV r)) (hu : uc + X0 = hX h) (hv : us + V0 = hV h) (hf : fX1_init_b0 v0 h = some r)  : PW E p l e (rmv 1 MC MS) s m args below meth c 1 uc us (MQ below (QG E (fun v u => v = none ∧ u = r)) args s MC MS (pA E)) h 0 [(0, some (.ref v0))] [] := by
  have hm1 : lez h (hX r) (hV r) := mX1_init_b0 hf
  have hcm : uc ≤ MC := (by have o0 := hm1.1; have o1 := hM; have o2 := hu; (try simp only [hX_sI, hX_sR, hX_sL, hX_sD, hX_sIa, hX_sRa, hV_sI, hV_sR, hV_sL, hV_sD, hV_sIa, hV_sRa, hX_new, hV_new] at o0 o1 o2 ⊢); omega)
  have hsm : us ≤ MS := (by have o0 := hm1.2; have o1 := hN; have o2 := hv; (try simp only [hX_sI, hX_sR, hX_sL, hX_sD, hX_sIa, hX_sRa, hV_sI, hV_sR, hV_sL, hV_sD, hV_sIa, hV_sRa, hX_new, hV_new] at o0 o1 o2 ⊢); omega)
  clear hm1
  unfold fX1_init_b0 at hf
  refine p_aload_n X (dcg dc_X1_init 0 rfl) rfl rfl ?_
  refine p_objinit X tw_283 tw_146 tw_147 (dcg dc_X1_init 1 rfl) (Nat.le_of_ble_eq_true rfl) (Nat.le_trans (Nat.add_le_add_right (room4 (Nat.le_of_ble_eq_true rfl)) 12) (Nat.le_of_ble_eq_true rfl)) (fun ls hl => hl.1.trans X.2.2.1.symm) ?_
  refine p_aload_n X (dcg dc_X1_init 2 rfl) rfl rfl ?_
  refine p_bipush (v := 100) X (dcg dc_X1_init 3 rfl) (by decide) ?_
  obtain ⟨hg1, hf⟩ := gd_some hf
  have hm1 : lez _ (hX r) (hV r) := mX1_init_b9 hf
  have hm2 := lez_new hm1
  refine p_newa20 X tw_168 (dcg dc_X1_init 4 rfl) hg1.1 hg1.2 (show uc + 1 ≤ MC from (by have o0 := hm2.1; have o1 := hM; have o2 := hu; (try simp only [hX_sI, hX_sR, hX_sL, hX_sD, hX_sIa, hX_sRa, hV_sI, hV_sR, hV_sL, hV_sD, hV_sIa, hV_sRa, hX_new, hV_new] at o0 o1 o2 ⊢); omega)) (show us + (Int32.toNatClampNeg (100 : Int32)) ≤ MS from (by have o0 := hm2.2; have o1 := hN; have o2 := hv; (try simp only [hX_sI, hX_sR, hX_sL, hX_sD, hX_sIa, hX_sRa, hV_sI, hV_sR, hV_sL, hV_sD, hV_sIa, hV_sRa, hX_new, hV_new] at o0 o1 o2 ⊢); omega)) ?_
  refine p_pick [0] ?_
  exact wX1_init_b9 X hG hnm hM hN (by have o0 := hu; (try simp only [hX_sI, hX_sR, hX_sL, hX_sD, hX_sIa, hX_sRa, hV_sI, hV_sR, hV_sL, hV_sD, hV_sIa, hV_sRa, hX_new, hV_new] at o0 ⊢); omega) (by have o0 := hv; (try simp only [hX_sI, hX_sR, hX_sL, hX_sD, hX_sIa, hX_sRa, hV_sI, hV_sR, hV_sL, hV_sD, hV_sIa, hV_sRa, hX_new, hV_new] at o0 ⊢); omega) hf 
noncomputable def fX1_init (v0 : Nat) (h : PH) : Option PH :=
  fX1_init_b0 v0 h
set_option maxRecDepth 100000 in
theorem mX1_init {v0 : Nat} {h : PH} {r : PH} (hf : fX1_init v0 h = some r) : lez h (hX r) (hV r) := by
  unfold fX1_init at hf
  have hle := lez_rf h
  exact lez_rt (mX1_init_b0 hf) hle
set_option maxRecDepth 100000 in
theorem wX1_init {E : PE} {l : Launch} (hG : Gs E l) {v0 : Nat} {h : PH} {r : PH} (hf : fX1_init v0 h = some r) : Ct E l 1 ((hX r) - hX h) ((hV r) - hV h) yX1_init cX1_init 1 (none) [.ref v0] h (fun v u => v = none ∧ u = r) := by
  have hmm := mX1_init hf
  refine ct_of hG (by decide) (Nat.le_of_ble_eq_true rfl) ?_
  intro p e s m args below meth c X hnm
  show PW E p l e _ s m args below meth c _ 0 0 _ h 0 [(0, some (.ref v0))] []
  unfold fX1_init at hf
  have hM := Nat.sub_add_cancel hmm.1
  have hN := Nat.sub_add_cancel hmm.2
  refine p_pick [0] ?_
  exact wX1_init_b0 X hG hnm hM hN (Nat.zero_add _) (Nat.zero_add _) hf
theorem dc_X1_record : decs cX1_record [(0, .aload_n 0, 1), (1, .getfield 21, 3), (4, .bipush 100, 2), (6, .if_icmp .ne 26, 3), (9, .aload_n 0, 1), (10, .aload_n 0, 1), (11, .getfield 25, 3), (14, .iconst 1, 1), (15, .iadd, 1), (16, .bipush 100, 2), (18, .irem, 1), (19, .putfield 25, 3), (22, .aload_n 0, 1), (23, .dup, 1), (24, .getfield 21, 3), (27, .iconst 1, 1), (28, .isub, 1), (29, .putfield 21, 3), (32, .aload_n 0, 1), (33, .getfield 25, 3), (36, .aload_n 0, 1), (37, .getfield 21, 3), (40, .iadd, 1), (41, .bipush 100, 2), (43, .irem, 1), (44, .istore 4, 2), (46, .aload_n 0, 1), (47, .getfield 11, 3), (50, .iload 4, 2), (52, .iload_n 1, 1), (53, .iastore, 1), (54, .aload_n 0, 1), (55, .getfield 15, 3), (58, .iload 4, 2), (60, .iload_n 2, 1), (61, .iastore, 1), (62, .aload_n 0, 1), (63, .getfield 18, 3), (66, .iload 4, 2), (68, .iload_n 3, 1), (69, .ifCond .eq 7, 3), (72, .iconst 1, 1), (73, .goto 4, 3), (76, .iconst 0, 1), (77, .iastore, 1), (78, .aload_n 0, 1), (79, .dup, 1), (80, .getfield 21, 3), (83, .iconst 1, 1), (84, .iadd, 1), (85, .putfield 21, 3), (88, .return_, 1)] = true := by decide +kernel
noncomputable def fX1_record_b77 (v0 : Nat) (t0 : Option Nat) (t1 : Int32) (t2 : Int32) (h : PH) : Option PH :=
  gs t0 (fun a13 =>
  gd (hK h a13 = 20 ∧ inb t1 (hN h a13)) (lt (sI h 20 a13 (Int32.toNatClampNeg t1) t2) (fun h17 =>
  gd (hK h17 v0 = 1) (lt (sI h17 1 v0 4 ((hI h17 1 v0 4) + (1 : Int32))) (fun h19 =>
  some (h19))))))
set_option maxRecDepth 100000 in
theorem mX1_record_b77 {v0 : Nat} {t0 : Option Nat} {t1 : Int32} {t2 : Int32} {h : PH} {r : PH} (hf : fX1_record_b77 v0 t0 t1 t2 h = some r) : eqz h (hX r) (hV r) := by
  unfold fX1_record_b77 at hf
  have hle := eqz_rf h
  obtain ⟨a13, e14, hf⟩ := gs_some hf
  obtain ⟨⟨hk16, hb15⟩, hf⟩ := gd_some hf
  obtain ⟨h17, rfl, hf⟩ := lt_some hf
  obtain ⟨hk18, hf⟩ := gd_some hf
  obtain ⟨h19, rfl, hf⟩ := lt_some hf
  have ee := Option.some.inj hf; subst ee; exact hle
set_option maxRecDepth 100000 in
theorem wX1_record_b77 {E : PE} {p : Program} {l : Launch} {e : Env} {s : State} {m : MethodId} {args : Array Value} {below : List Frame} {meth : Method} {c : Code} (X : Cx E p l e (rmv 0 0 0) s m args below meth c RX1 cX1_record 5 (none)) (hG : Gs E l) (hnm : meth.name = yX1_record.name) {v0 : Nat} {t0 : Option Nat} {t1 : Int32} {t2 : Int32} {h : PH} {r : PH} (hf : fX1_record_b77 v0 t0 t1 t2 h = some r)  : PW E p l e (rmv 0 0 0) s m args below meth c 5 0 0 (MQ below (QG E (fun v u => v = none ∧ u = r)) args s 0 0 (pA E)) h 77 [(0, some (.ref v0))] [.int t2, .int t1, va_rf t0] := by
  unfold fX1_record_b77 at hf
  obtain ⟨a13, e14, hf⟩ := gs_some hf
  first | subst e14 | (try rw [e14])
  obtain ⟨⟨hk16, hb15⟩, hf⟩ := gd_some hf
  refine p_iast X (dcg dc_X1_record 44 rfl) hk16 (vp_of_inb hb15) ?_
  obtain ⟨h17, rfl, hf⟩ := lt_some hf
  refine p_aload_n X (dcg dc_X1_record 45 rfl) rfl rfl ?_
  refine p_dup X (dcg dc_X1_record 46 rfl) rfl ?_
  obtain ⟨hk18, hf⟩ := gd_some hf
  refine p_getI X fl_X1_21 rfl (by decide) (dcg dc_X1_record 47 rfl) hk18 ?_
  refine p_iconst (v := 1) X (dcg dc_X1_record 48 rfl) (by decide) ?_
  refine p_iadd X (dcg dc_X1_record 49 rfl) ?_
  refine p_putI X fl_X1_21 rfl (by decide) (fun q hq => by cases hq; rfl) rfl rfl (dcg dc_X1_record 50 rfl) hk18 ?_
  obtain ⟨h19, rfl, hf⟩ := lt_some hf
  have er := Option.some.inj hf
  subst er
  exact p_vret X rfl (dcg dc_X1_record 51 rfl) ⟨rfl, rfl⟩ (Nat.le_refl _) (Nat.le_refl _)
noncomputable def fX1_record_b32 (v0 : Nat) (v1 : Int32) (v2 : Int32) (v3 : Int32) (h : PH) : Option PH :=
  gd (hK h v0 = 1) (gs (hR h 1 v0 0) (fun a3 =>
  gd (hK h a3 = 20 ∧ inb (((hI h 1 v0 3) + (hI h 1 v0 4)) - ((hI h 1 v0 3) + (hI h 1 v0 4)) / (100 : Int32) * (100 : Int32)) (hN h a3)) (lt (sI h 20 a3 (Int32.toNatClampNeg (((hI h 1 v0 3) + (hI h 1 v0 4)) - ((hI h 1 v0 3) + (hI h 1 v0 4)) / (100 : Int32) * (100 : Int32))) v1) (fun h7 =>
  gs (hR h7 1 v0 1) (fun a8 =>
  gd (hK h7 a8 = 20 ∧ inb (((hI h 1 v0 3) + (hI h 1 v0 4)) - ((hI h 1 v0 3) + (hI h 1 v0 4)) / (100 : Int32) * (100 : Int32)) (hN h7 a8)) (lt (sI h7 20 a8 (Int32.toNatClampNeg (((hI h 1 v0 3) + (hI h 1 v0 4)) - ((hI h 1 v0 3) + (hI h 1 v0 4)) / (100 : Int32) * (100 : Int32))) v2) (fun h12 =>
  if (v3 = 0) then (fX1_record_b77 v0 (hR h12 1 v0 2) (((hI h 1 v0 3) + (hI h 1 v0 4)) - ((hI h 1 v0 3) + (hI h 1 v0 4)) / (100 : Int32) * (100 : Int32)) (0 : Int32) h12) else
  fX1_record_b77 v0 (hR h12 1 v0 2) (((hI h 1 v0 3) + (hI h 1 v0 4)) - ((hI h 1 v0 3) + (hI h 1 v0 4)) / (100 : Int32) * (100 : Int32)) (1 : Int32) h12)))))))
set_option maxRecDepth 100000 in
theorem mX1_record_b32 {v0 : Nat} {v1 : Int32} {v2 : Int32} {v3 : Int32} {h : PH} {r : PH} (hf : fX1_record_b32 v0 v1 v2 v3 h = some r) : eqz h (hX r) (hV r) := by
  unfold fX1_record_b32 at hf
  have hle := eqz_rf h
  obtain ⟨hk2, hf⟩ := gd_some hf
  obtain ⟨a3, e4, hf⟩ := gs_some hf
  obtain ⟨⟨hk6, hb5⟩, hf⟩ := gd_some hf
  obtain ⟨h7, rfl, hf⟩ := lt_some hf
  obtain ⟨a8, e9, hf⟩ := gs_some hf
  obtain ⟨⟨hk11, hb10⟩, hf⟩ := gd_some hf
  obtain ⟨h12, rfl, hf⟩ := lt_some hf
  rcases ite_or hf with ⟨q, hf⟩ | ⟨q, hf⟩
  · have hf := if_t q hf
    exact eqz_rt (mX1_record_b77 hf) hle
  · have hf := if_f q hf
    exact eqz_rt (mX1_record_b77 hf) hle
set_option maxRecDepth 100000 in
theorem wX1_record_b32 {E : PE} {p : Program} {l : Launch} {e : Env} {s : State} {m : MethodId} {args : Array Value} {below : List Frame} {meth : Method} {c : Code} (X : Cx E p l e (rmv 0 0 0) s m args below meth c RX1 cX1_record 5 (none)) (hG : Gs E l) (hnm : meth.name = yX1_record.name) {v0 : Nat} {v1 : Int32} {v2 : Int32} {v3 : Int32} {h : PH} {r : PH} (hf : fX1_record_b32 v0 v1 v2 v3 h = some r)  : PW E p l e (rmv 0 0 0) s m args below meth c 5 0 0 (MQ below (QG E (fun v u => v = none ∧ u = r)) args s 0 0 (pA E)) h 32 [(0, some (.ref v0)), (1, some (.int v1)), (2, some (.int v2)), (3, some (.int v3))] [] := by
  unfold fX1_record_b32 at hf
  refine p_aload_n X (dcg dc_X1_record 18 rfl) rfl rfl ?_
  obtain ⟨hk2, hf⟩ := gd_some hf
  refine p_getI X fl_X1_25 rfl (by decide) (dcg dc_X1_record 19 rfl) hk2 ?_
  refine p_aload_n X (dcg dc_X1_record 20 rfl) rfl rfl ?_
  refine p_getI X fl_X1_21 rfl (by decide) (dcg dc_X1_record 21 rfl) hk2 ?_
  refine p_iadd X (dcg dc_X1_record 22 rfl) ?_
  refine p_bipush (v := 100) X (dcg dc_X1_record 23 rfl) (by decide) ?_
  refine p_irem X (dcg dc_X1_record 24 rfl) (by decide) ?_
  refine p_istore X (dcg dc_X1_record 25 rfl) (by decide) rfl ?_
  refine p_aload_n X (dcg dc_X1_record 26 rfl) rfl rfl ?_
  refine p_getR X fl_X1_11 rfl (by decide) (dcg dc_X1_record 27 rfl) hk2 ?_
  refine p_iload X (dcg dc_X1_record 28 rfl) rfl ?_
  refine p_iload_n X (dcg dc_X1_record 29 rfl) rfl rfl ?_
  obtain ⟨a3, e4, hf⟩ := gs_some hf
  first | subst e4 | (try rw [e4])
  obtain ⟨⟨hk6, hb5⟩, hf⟩ := gd_some hf
  refine p_iast X (dcg dc_X1_record 30 rfl) hk6 (vp_of_inb hb5) ?_
  obtain ⟨h7, rfl, hf⟩ := lt_some hf
  refine p_aload_n X (dcg dc_X1_record 31 rfl) rfl rfl ?_
  refine p_getR X fl_X1_15 rfl (by decide) (dcg dc_X1_record 32 rfl) hk2 ?_
  refine p_iload X (dcg dc_X1_record 33 rfl) rfl ?_
  refine p_iload_n X (dcg dc_X1_record 34 rfl) rfl rfl ?_
  obtain ⟨a8, e9, hf⟩ := gs_some hf
  first | subst e9 | (try rw [e9])
  obtain ⟨⟨hk11, hb10⟩, hf⟩ := gd_some hf
  refine p_iast X (dcg dc_X1_record 35 rfl) hk11 (vp_of_inb hb10) ?_
  obtain ⟨h12, rfl, hf⟩ := lt_some hf
  refine p_aload_n X (dcg dc_X1_record 36 rfl) rfl rfl ?_
  refine p_getR X fl_X1_18 rfl (by decide) (dcg dc_X1_record 37 rfl) hk2 ?_
  refine p_iload X (dcg dc_X1_record 38 rfl) rfl ?_
  refine p_iload_n X (dcg dc_X1_record 39 rfl) rfl rfl ?_
  refine p_if_eq (tgt := 76) X (dcg dc_X1_record 40 rfl) (by decide) (fun q => ?_) (fun q => ?_)
  · have hf := if_t q hf
    refine p_iconst (v := 0) X (dcg dc_X1_record 43 rfl) (by decide) ?_
    refine p_pick [0] ?_
    exact wX1_record_b77 X hG hnm hf 
  · have hf := if_f q hf
    refine p_iconst (v := 1) X (dcg dc_X1_record 41 rfl) (by decide) ?_
    refine p_goto (tgt := 77) X (dcg dc_X1_record 42 rfl) (by decide) ?_
    refine p_pick [0] ?_
    exact wX1_record_b77 X hG hnm hf 
noncomputable def fX1_record (v0 : Nat) (v1 : Int32) (v2 : Int32) (v3 : Int32) (h : PH) : Option PH :=
  gd (hK h v0 = 1) (if (¬ (hI h 1 v0 4) = (100 : Int32)) then (fX1_record_b32 v0 v1 v2 v3 h) else
  lt (sI h 1 v0 3 (((hI h 1 v0 3) + (1 : Int32)) - ((hI h 1 v0 3) + (1 : Int32)) / (100 : Int32) * (100 : Int32))) (fun h20 =>
  lt (sI h20 1 v0 4 ((hI h20 1 v0 4) - (1 : Int32))) (fun h21 =>
  fX1_record_b32 v0 v1 v2 v3 h21)))
set_option maxRecDepth 100000 in
theorem mX1_record {v0 : Nat} {v1 : Int32} {v2 : Int32} {v3 : Int32} {h : PH} {r : PH} (hf : fX1_record v0 v1 v2 v3 h = some r) : eqz h (hX r) (hV r) := by
  unfold fX1_record at hf
  have hle := eqz_rf h
  obtain ⟨hk1, hf⟩ := gd_some hf
  rcases ite_or hf with ⟨q, hf⟩ | ⟨q, hf⟩
  · have hf := if_t q hf
    exact eqz_rt (mX1_record_b32 hf) hle
  · have hf := if_f q hf
    obtain ⟨h20, rfl, hf⟩ := lt_some hf
    obtain ⟨h21, rfl, hf⟩ := lt_some hf
    exact eqz_rt (mX1_record_b32 hf) hle
set_option maxRecDepth 100000 in
theorem wX1_record {E : PE} {l : Launch} (hG : Gs E l) {v0 : Nat} {v1 : Int32} {v2 : Int32} {v3 : Int32} {h : PH} {r : PH} (hf : fX1_record v0 v1 v2 v3 h = some r) : Ct E l 0 0 0 yX1_record cX1_record 5 (none) [.ref v0, .int v1, .int v2, .int v3] h (fun v u => v = none ∧ u = r) := by
  refine ct_of hG (by decide) (Nat.le_of_ble_eq_true rfl) ?_
  intro p e s m args below meth c X hnm
  show PW E p l e _ s m args below meth c _ 0 0 _ h 0 [(0, some (.ref v0)), (1, some (.int v1)), (2, some (.int v2)), (3, some (.int v3))] []
  unfold fX1_record at hf
  refine p_aload_n X (dcg dc_X1_record 0 rfl) rfl rfl ?_
  obtain ⟨hk1, hf⟩ := gd_some hf
  refine p_getI X fl_X1_21 rfl (by decide) (dcg dc_X1_record 1 rfl) hk1 ?_
  refine p_bipush (v := 100) X (dcg dc_X1_record 2 rfl) (by decide) ?_
  refine p_icmp_ne (tgt := 32) X (dcg dc_X1_record 3 rfl) (by decide) (fun q => ?_) (fun q => ?_)
  · have hf := if_t q hf
    refine p_pick [0, 1, 2, 3] ?_
    exact wX1_record_b32 X hG hnm hf 
  · have hf := if_f q hf
    refine p_aload_n X (dcg dc_X1_record 4 rfl) rfl rfl ?_
    refine p_aload_n X (dcg dc_X1_record 5 rfl) rfl rfl ?_
    refine p_getI X fl_X1_25 rfl (by decide) (dcg dc_X1_record 6 rfl) hk1 ?_
    refine p_iconst (v := 1) X (dcg dc_X1_record 7 rfl) (by decide) ?_
    refine p_iadd X (dcg dc_X1_record 8 rfl) ?_
    refine p_bipush (v := 100) X (dcg dc_X1_record 9 rfl) (by decide) ?_
    refine p_irem X (dcg dc_X1_record 10 rfl) (by decide) ?_
    refine p_putI X fl_X1_25 rfl (by decide) (fun q hq => by cases hq; rfl) rfl rfl (dcg dc_X1_record 11 rfl) hk1 ?_
    obtain ⟨h20, rfl, hf⟩ := lt_some hf
    refine p_aload_n X (dcg dc_X1_record 12 rfl) rfl rfl ?_
    refine p_dup X (dcg dc_X1_record 13 rfl) rfl ?_
    refine p_getI X fl_X1_21 rfl (by decide) (dcg dc_X1_record 14 rfl) hk1 ?_
    refine p_iconst (v := 1) X (dcg dc_X1_record 15 rfl) (by decide) ?_
    refine p_isub X (dcg dc_X1_record 16 rfl) ?_
    refine p_putI X fl_X1_21 rfl (by decide) (fun q hq => by cases hq; rfl) rfl rfl (dcg dc_X1_record 17 rfl) hk1 ?_
    obtain ⟨h21, rfl, hf⟩ := lt_some hf
    refine p_pick [0, 1, 2, 3] ?_
    exact wX1_record_b32 X hG hnm hf 
theorem dc_X1_figure : decs cX1_figure [(0, .iload_n 1, 1), (1, .ifCond .lt 11, 3), (4, .iload_n 1, 1), (5, .aload_n 0, 1), (6, .getfield 21, 3), (9, .if_icmp .lt 5, 3), (12, .iconst (-1), 1), (13, .ireturn, 1), (14, .aload_n 0, 1), (15, .getfield 25, 3), (18, .iload_n 1, 1), (19, .iadd, 1), (20, .bipush 100, 2), (22, .irem, 1), (23, .istore_n 3, 1), (24, .iload_n 2, 1), (25, .lookupswitch 41 #[(0, 27), (1, 34)], 27), (52, .aload_n 0, 1), (53, .getfield 11, 3), (56, .iload_n 3, 1), (57, .iaload, 1), (58, .ireturn, 1), (59, .aload_n 0, 1), (60, .getfield 15, 3), (63, .iload_n 3, 1), (64, .iaload, 1), (65, .ireturn, 1), (66, .aload_n 0, 1), (67, .getfield 18, 3), (70, .iload_n 3, 1), (71, .iaload, 1), (72, .ireturn, 1)] = true := by decide +kernel
noncomputable def fX1_figure_b12  (h : PH) : Option Int32 :=
  some ((-1 : Int32))
set_option maxRecDepth 100000 in
theorem wX1_figure_b12 {E : PE} {p : Program} {l : Launch} {e : Env} {s : State} {m : MethodId} {args : Array Value} {below : List Frame} {meth : Method} {c : Code} (X : Cx E p l e (rmv 0 0 0) s m args below meth c RX1 cX1_figure 4 (some .int)) (hG : Gs E l) (hnm : meth.name = yX1_figure.name)  {h : PH} {r : Int32} (hf : fX1_figure_b12  h = some r)  : PW E p l e (rmv 0 0 0) s m args below meth c 4 0 0 (MQ below (QG E (fun v u => v = some (.int r) ∧ u = h)) args s 0 0 (pA E)) h 12 [] [] := by
  unfold fX1_figure_b12 at hf
  refine p_iconst (v := -1) X (dcg dc_X1_figure 6 rfl) (by decide) ?_
  have er := Option.some.inj hf
  subst er
  exact p_iret X rfl (dcg dc_X1_figure 7 rfl) ⟨rfl, rfl⟩ (Nat.le_refl _) (Nat.le_refl _)
noncomputable def fX1_figure (v0 : Nat) (v1 : Int32) (v2 : Int32) (h : PH) : Option Int32 :=
  if (v1 < 0) then (fX1_figure_b12  h) else
  gd (hK h v0 = 1) (if (v1 < (hI h 1 v0 4)) then (if v2 = 0 then (gs (hR h 1 v0 0) (fun a2 =>
  gd (hK h a2 = 20 ∧ inb (((hI h 1 v0 3) + v1) - ((hI h 1 v0 3) + v1) / (100 : Int32) * (100 : Int32)) (hN h a2)) (some ((hI h 20 a2 (Int32.toNatClampNeg (((hI h 1 v0 3) + v1) - ((hI h 1 v0 3) + v1) / (100 : Int32) * (100 : Int32)))))))) else
  if v2 = 1 then (gs (hR h 1 v0 1) (fun a6 =>
  gd (hK h a6 = 20 ∧ inb (((hI h 1 v0 3) + v1) - ((hI h 1 v0 3) + v1) / (100 : Int32) * (100 : Int32)) (hN h a6)) (some ((hI h 20 a6 (Int32.toNatClampNeg (((hI h 1 v0 3) + v1) - ((hI h 1 v0 3) + v1) / (100 : Int32) * (100 : Int32)))))))) else
  gs (hR h 1 v0 2) (fun a10 =>
  gd (hK h a10 = 20 ∧ inb (((hI h 1 v0 3) + v1) - ((hI h 1 v0 3) + v1) / (100 : Int32) * (100 : Int32)) (hN h a10)) (some ((hI h 20 a10 (Int32.toNatClampNeg (((hI h 1 v0 3) + v1) - ((hI h 1 v0 3) + v1) / (100 : Int32) * (100 : Int32)))))))) else
  fX1_figure_b12  h)
set_option maxRecDepth 100000 in
theorem wX1_figure {E : PE} {l : Launch} (hG : Gs E l) {v0 : Nat} {v1 : Int32} {v2 : Int32} {h : PH} {r : Int32} (hf : fX1_figure v0 v1 v2 h = some r) : Ct E l 0 0 0 yX1_figure cX1_figure 4 (some .int) [.ref v0, .int v1, .int v2] h (fun v u => v = some (.int r) ∧ u = h) := by
  refine ct_of hG (by decide) (Nat.le_of_ble_eq_true rfl) ?_
  intro p e s m args below meth c X hnm
  show PW E p l e _ s m args below meth c _ 0 0 _ h 0 [(0, some (.ref v0)), (1, some (.int v1)), (2, some (.int v2))] []
  unfold fX1_figure at hf
  refine p_iload_n X (dcg dc_X1_figure 0 rfl) rfl rfl ?_
  refine p_if_lt (tgt := 12) X (dcg dc_X1_figure 1 rfl) (by decide) (fun q => ?_) (fun q => ?_)
  · have hf := if_t q hf
    refine p_pick [] ?_
    exact wX1_figure_b12 X hG hnm hf 
  · have hf := if_f q hf
    refine p_iload_n X (dcg dc_X1_figure 2 rfl) rfl rfl ?_
    refine p_aload_n X (dcg dc_X1_figure 3 rfl) rfl rfl ?_
    obtain ⟨hk1, hf⟩ := gd_some hf
    refine p_getI X fl_X1_21 rfl (by decide) (dcg dc_X1_figure 4 rfl) hk1 ?_
    refine p_icmp_lt (tgt := 14) X (dcg dc_X1_figure 5 rfl) (by decide) (fun q => ?_) (fun q => ?_)
    · have hf := if_t q hf
      refine p_aload_n X (dcg dc_X1_figure 8 rfl) rfl rfl ?_
      refine p_getI X fl_X1_25 rfl (by decide) (dcg dc_X1_figure 9 rfl) hk1 ?_
      refine p_iload_n X (dcg dc_X1_figure 10 rfl) rfl rfl ?_
      refine p_iadd X (dcg dc_X1_figure 11 rfl) ?_
      refine p_bipush (v := 100) X (dcg dc_X1_figure 12 rfl) (by decide) ?_
      refine p_irem X (dcg dc_X1_figure 13 rfl) (by decide) ?_
      refine p_istore_n X (dcg dc_X1_figure 14 rfl) rfl (by decide) rfl ?_
      refine p_iload_n X (dcg dc_X1_figure 15 rfl) rfl rfl ?_
      by_cases hq0 : v2 = 0
      · have hf := if_t hq0 hf
        refine p_lookupK (k := 0) (tgt := 52) X (dcg dc_X1_figure 16 rfl) (by decide) hq0 (by decide) (by decide) (by decide) ?_
        refine p_aload_n X (dcg dc_X1_figure 17 rfl) rfl rfl ?_
        refine p_getR X fl_X1_11 rfl (by decide) (dcg dc_X1_figure 18 rfl) hk1 ?_
        refine p_iload_n X (dcg dc_X1_figure 19 rfl) rfl rfl ?_
        obtain ⟨a2, e3, hf⟩ := gs_some hf
        first | subst e3 | (try rw [e3])
        obtain ⟨⟨hk5, hb4⟩, hf⟩ := gd_some hf
        refine p_iald X (dcg dc_X1_figure 20 rfl) hk5 (vp_of_inb hb4) ?_
        have er := Option.some.inj hf
        subst er
        exact p_iret X rfl (dcg dc_X1_figure 21 rfl) ⟨rfl, rfl⟩ (Nat.le_refl _) (Nat.le_refl _)
      · have hf := if_f hq0 hf
        by_cases hq1 : v2 = 1
        · have hf := if_t hq1 hf
          refine p_lookupK (k := 1) (tgt := 59) X (dcg dc_X1_figure 16 rfl) (by decide) hq1 (by decide) (by decide) (by decide) ?_
          refine p_aload_n X (dcg dc_X1_figure 22 rfl) rfl rfl ?_
          refine p_getR X fl_X1_15 rfl (by decide) (dcg dc_X1_figure 23 rfl) hk1 ?_
          refine p_iload_n X (dcg dc_X1_figure 24 rfl) rfl rfl ?_
          obtain ⟨a6, e7, hf⟩ := gs_some hf
          first | subst e7 | (try rw [e7])
          obtain ⟨⟨hk9, hb8⟩, hf⟩ := gd_some hf
          refine p_iald X (dcg dc_X1_figure 25 rfl) hk9 (vp_of_inb hb8) ?_
          have er := Option.some.inj hf
          subst er
          exact p_iret X rfl (dcg dc_X1_figure 26 rfl) ⟨rfl, rfl⟩ (Nat.le_refl _) (Nat.le_refl _)
        · have hf := if_f hq1 hf
          refine p_lookupD (ks := [0, 1]) (tgt := 66) X (dcg dc_X1_figure 16 rfl) (by decide) (by simp [hq0, hq1]) (by decide) ?_
          refine p_aload_n X (dcg dc_X1_figure 27 rfl) rfl rfl ?_
          refine p_getR X fl_X1_18 rfl (by decide) (dcg dc_X1_figure 28 rfl) hk1 ?_
          refine p_iload_n X (dcg dc_X1_figure 29 rfl) rfl rfl ?_
          obtain ⟨a10, e11, hf⟩ := gs_some hf
          first | subst e11 | (try rw [e11])
          obtain ⟨⟨hk13, hb12⟩, hf⟩ := gd_some hf
          refine p_iald X (dcg dc_X1_figure 30 rfl) hk13 (vp_of_inb hb12) ?_
          have er := Option.some.inj hf
          subst er
          exact p_iret X rfl (dcg dc_X1_figure 31 rfl) ⟨rfl, rfl⟩ (Nat.le_refl _) (Nat.le_refl _)
    · have hf := if_f q hf
      refine p_pick [] ?_
      exact wX1_figure_b12 X hG hnm hf 
theorem dc_X2_init : decs cX2_init [(0, .aload_n 0, 1), (1, .invokespecial 3, 3), (4, .aload_n 0, 1), (5, .bipush 100, 2), (7, .newarray .int, 2), (9, .putfield 9, 3), (12, .aload_n 0, 1), (13, .bipush 100, 2), (15, .newarray .int, 2), (17, .putfield 15, 3), (20, .aload_n 0, 1), (21, .bipush 100, 2), (23, .newarray .int, 2), (25, .putfield 18, 3), (28, .return_, 1)] = true := by decide +kernel
noncomputable def fX2_init_b25 (t0 : Nat) (t1 : Nat) (h : PH) : Option PH :=
  gd (hK h t0 = 2) (lt (sR h 2 t0 2 (some t1)) (fun h9 =>
  some (h9)))
set_option maxRecDepth 100000 in
theorem mX2_init_b25 {t0 : Nat} {t1 : Nat} {h : PH} {r : PH} (hf : fX2_init_b25 t0 t1 h = some r) : lez h (hX r) (hV r) := by
  unfold fX2_init_b25 at hf
  have hle := lez_rf h
  obtain ⟨hk8, hf⟩ := gd_some hf
  obtain ⟨h9, rfl, hf⟩ := lt_some hf
  have ee := Option.some.inj hf; subst ee; exact hle
set_option maxRecDepth 100000 in
theorem wX2_init_b25 {E : PE} {p : Program} {l : Launch} {e : Env} {s : State} {m : MethodId} {args : Array Value} {below : List Frame} {meth : Method} {c : Code} {X0 V0 MC MS uc us : Nat} (X : Cx E p l e (rmv 1 MC MS) s m args below meth c RX2 cX2_init 1 (none)) (hG : Gs E l) (hnm : meth.name = yX2_init.name) {t0 : Nat} {t1 : Nat} {h : PH} {r : PH} (hM : MC + X0 = (hX r)) (hN : MS + V0 = (hV r)) (hu : uc + X0 = hX h) (hv : us + V0 = hV h) (hf : fX2_init_b25 t0 t1 h = some r)  : PW E p l e (rmv 1 MC MS) s m args below meth c 1 uc us (MQ below (QG E (fun v u => v = none ∧ u = r)) args s MC MS (pA E)) h 25 [] [.ref t1, .ref t0] := by
  have hm1 : lez h (hX r) (hV r) := mX2_init_b25 hf
  have hcm : uc ≤ MC := (by have o0 := hm1.1; have o1 := hM; have o2 := hu; (try simp only [hX_sI, hX_sR, hX_sL, hX_sD, hX_sIa, hX_sRa, hV_sI, hV_sR, hV_sL, hV_sD, hV_sIa, hV_sRa, hX_new, hV_new] at o0 o1 o2 ⊢); omega)
  have hsm : us ≤ MS := (by have o0 := hm1.2; have o1 := hN; have o2 := hv; (try simp only [hX_sI, hX_sR, hX_sL, hX_sD, hX_sIa, hX_sRa, hV_sI, hV_sR, hV_sL, hV_sD, hV_sIa, hV_sRa, hX_new, hV_new] at o0 o1 o2 ⊢); omega)
  clear hm1
  unfold fX2_init_b25 at hf
  obtain ⟨hk8, hf⟩ := gd_some hf
  refine p_putRf (v := some _) X fl_X2_18 rfl (by decide) (fun q hq => by cases hq; exact ⟨rfl, rfl⟩) hnm (nar_rf _ (by decide)) (fit_rf _ (by decide)) (dcg dc_X2_init 13 rfl) hk8 ?_
  obtain ⟨h9, rfl, hf⟩ := lt_some hf
  have er := Option.some.inj hf
  subst er
  exact p_vret X rfl (dcg dc_X2_init 14 rfl) ⟨rfl, rfl⟩ hcm hsm
noncomputable def fX2_init_b17 (v0 : Nat) (t0 : Nat) (t1 : Nat) (h : PH) : Option PH :=
  gd (hK h t0 = 2) (lt (sR h 2 t0 1 (some t1)) (fun h6 =>
  gd (¬ (100 : Int32) < 0 ∧ (Int32.toNatClampNeg (100 : Int32)) ≤ 1000000) (fX2_init_b25 v0 (hX h6) (hnew h6 20 (Int32.toNatClampNeg (100 : Int32))))))
set_option maxRecDepth 100000 in
theorem mX2_init_b17 {v0 : Nat} {t0 : Nat} {t1 : Nat} {h : PH} {r : PH} (hf : fX2_init_b17 v0 t0 t1 h = some r) : lez h (hX r) (hV r) := by
  unfold fX2_init_b17 at hf
  have hle := lez_rf h
  obtain ⟨hk5, hf⟩ := gd_some hf
  obtain ⟨h6, rfl, hf⟩ := lt_some hf
  obtain ⟨hg7, hf⟩ := gd_some hf
  have hle := lez_nw (c := 20) (n := (Int32.toNatClampNeg (100 : Int32))) hle
  exact lez_rt (mX2_init_b25 hf) hle
set_option maxRecDepth 100000 in
theorem wX2_init_b17 {E : PE} {p : Program} {l : Launch} {e : Env} {s : State} {m : MethodId} {args : Array Value} {below : List Frame} {meth : Method} {c : Code} {X0 V0 MC MS uc us : Nat} (X : Cx E p l e (rmv 1 MC MS) s m args below meth c RX2 cX2_init 1 (none)) (hG : Gs E l) (hnm : meth.name = yX2_init.name) {v0 : Nat} {t0 : Nat} {t1 : Nat} {h : PH} {r : PH} (hM : MC + X0 = (hX r)) (hN : MS + V0 = (hV r)) (hu : uc + X0 = hX h) (hv : us + V0 = hV h) (hf : fX2_init_b17 v0 t0 t1 h = some r)  : PW E p l e (rmv 1 MC MS) s m args below meth c 1 uc us (MQ below (QG E (fun v u => v = none ∧ u = r)) args s MC MS (pA E)) h 17 [(0, some (.ref v0))] [.ref t1, .ref t0] := by
  have hm1 : lez h (hX r) (hV r) := mX2_init_b17 hf
  have hcm : uc ≤ MC := (by have o0 := hm1.1; have o1 := hM; have o2 := hu; (try simp only [hX_sI, hX_sR, hX_sL, hX_sD, hX_sIa, hX_sRa, hV_sI, hV_sR, hV_sL, hV_sD, hV_sIa, hV_sRa, hX_new, hV_new] at o0 o1 o2 ⊢); omega)
  have hsm : us ≤ MS := (by have o0 := hm1.2; have o1 := hN; have o2 := hv; (try simp only [hX_sI, hX_sR, hX_sL, hX_sD, hX_sIa, hX_sRa, hV_sI, hV_sR, hV_sL, hV_sD, hV_sIa, hV_sRa, hX_new, hV_new] at o0 o1 o2 ⊢); omega)
  clear hm1
  unfold fX2_init_b17 at hf
  obtain ⟨hk5, hf⟩ := gd_some hf
  refine p_putRf (v := some _) X fl_X2_15 rfl (by decide) (fun q hq => by cases hq; exact ⟨rfl, rfl⟩) hnm (nar_rf _ (by decide)) (fit_rf _ (by decide)) (dcg dc_X2_init 9 rfl) hk5 ?_
  obtain ⟨h6, rfl, hf⟩ := lt_some hf
  refine p_aload_n X (dcg dc_X2_init 10 rfl) rfl rfl ?_
  refine p_bipush (v := 100) X (dcg dc_X2_init 11 rfl) (by decide) ?_
  obtain ⟨hg7, hf⟩ := gd_some hf
  have hm1 : lez _ (hX r) (hV r) := mX2_init_b25 hf
  have hm2 := lez_new hm1
  refine p_newa20 X tw_168 (dcg dc_X2_init 12 rfl) hg7.1 hg7.2 (show uc + 1 ≤ MC from (by have o0 := hm2.1; have o1 := hM; have o2 := hu; (try simp only [hX_sI, hX_sR, hX_sL, hX_sD, hX_sIa, hX_sRa, hV_sI, hV_sR, hV_sL, hV_sD, hV_sIa, hV_sRa, hX_new, hV_new] at o0 o1 o2 ⊢); omega)) (show us + (Int32.toNatClampNeg (100 : Int32)) ≤ MS from (by have o0 := hm2.2; have o1 := hN; have o2 := hv; (try simp only [hX_sI, hX_sR, hX_sL, hX_sD, hX_sIa, hX_sRa, hV_sI, hV_sR, hV_sL, hV_sD, hV_sIa, hV_sRa, hX_new, hV_new] at o0 o1 o2 ⊢); omega)) ?_
  refine p_pick [] ?_
  exact wX2_init_b25 X hG hnm hM hN (by have o0 := hu; (try simp only [hX_sI, hX_sR, hX_sL, hX_sD, hX_sIa, hX_sRa, hV_sI, hV_sR, hV_sL, hV_sD, hV_sIa, hV_sRa, hX_new, hV_new] at o0 ⊢); omega) (by have o0 := hv; (try simp only [hX_sI, hX_sR, hX_sL, hX_sD, hX_sIa, hX_sRa, hV_sI, hV_sR, hV_sL, hV_sD, hV_sIa, hV_sRa, hX_new, hV_new] at o0 ⊢); omega) hf 
noncomputable def fX2_init_b9 (v0 : Nat) (t0 : Nat) (t1 : Nat) (h : PH) : Option PH :=
  gd (hK h t0 = 2) (lt (sR h 2 t0 0 (some t1)) (fun h3 =>
  gd (¬ (100 : Int32) < 0 ∧ (Int32.toNatClampNeg (100 : Int32)) ≤ 1000000) (fX2_init_b17 v0 v0 (hX h3) (hnew h3 20 (Int32.toNatClampNeg (100 : Int32))))))
set_option maxRecDepth 100000 in
theorem mX2_init_b9 {v0 : Nat} {t0 : Nat} {t1 : Nat} {h : PH} {r : PH} (hf : fX2_init_b9 v0 t0 t1 h = some r) : lez h (hX r) (hV r) := by
  unfold fX2_init_b9 at hf
  have hle := lez_rf h
  obtain ⟨hk2, hf⟩ := gd_some hf
  obtain ⟨h3, rfl, hf⟩ := lt_some hf
  obtain ⟨hg4, hf⟩ := gd_some hf
  have hle := lez_nw (c := 20) (n := (Int32.toNatClampNeg (100 : Int32))) hle
  exact lez_rt (mX2_init_b17 hf) hle
set_option maxRecDepth 100000 in
theorem wX2_init_b9 {E : PE} {p : Program} {l : Launch} {e : Env} {s : State} {m : MethodId} {args : Array Value} {below : List Frame} {meth : Method} {c : Code} {X0 V0 MC MS uc us : Nat} (X : Cx E p l e (rmv 1 MC MS) s m args below meth c RX2 cX2_init 1 (none)) (hG : Gs E l) (hnm : meth.name = yX2_init.name) {v0 : Nat} {t0 : Nat} {t1 : Nat} {h : PH} {r : PH} (hM : MC + X0 = (hX r)) (hN : MS + V0 = (hV r)) (hu : uc + X0 = hX h) (hv : us + V0 = hV h) (hf : fX2_init_b9 v0 t0 t1 h = some r)  : PW E p l e (rmv 1 MC MS) s m args below meth c 1 uc us (MQ below (QG E (fun v u => v = none ∧ u = r)) args s MC MS (pA E)) h 9 [(0, some (.ref v0))] [.ref t1, .ref t0] := by
  have hm1 : lez h (hX r) (hV r) := mX2_init_b9 hf
  have hcm : uc ≤ MC := (by have o0 := hm1.1; have o1 := hM; have o2 := hu; (try simp only [hX_sI, hX_sR, hX_sL, hX_sD, hX_sIa, hX_sRa, hV_sI, hV_sR, hV_sL, hV_sD, hV_sIa, hV_sRa, hX_new, hV_new] at o0 o1 o2 ⊢); omega)
  have hsm : us ≤ MS := (by have o0 := hm1.2; have o1 := hN; have o2 := hv; (try simp only [hX_sI, hX_sR, hX_sL, hX_sD, hX_sIa, hX_sRa, hV_sI, hV_sR, hV_sL, hV_sD, hV_sIa, hV_sRa, hX_new, hV_new] at o0 o1 o2 ⊢); omega)
  clear hm1
  unfold fX2_init_b9 at hf
  obtain ⟨hk2, hf⟩ := gd_some hf
  refine p_putRf (v := some _) X fl_X2_9 rfl (by decide) (fun q hq => by cases hq; exact ⟨rfl, rfl⟩) hnm (nar_rf _ (by decide)) (fit_rf _ (by decide)) (dcg dc_X2_init 5 rfl) hk2 ?_
  obtain ⟨h3, rfl, hf⟩ := lt_some hf
  refine p_aload_n X (dcg dc_X2_init 6 rfl) rfl rfl ?_
  refine p_bipush (v := 100) X (dcg dc_X2_init 7 rfl) (by decide) ?_
  obtain ⟨hg4, hf⟩ := gd_some hf
  have hm1 : lez _ (hX r) (hV r) := mX2_init_b17 hf
  have hm2 := lez_new hm1
  refine p_newa20 X tw_168 (dcg dc_X2_init 8 rfl) hg4.1 hg4.2 (show uc + 1 ≤ MC from (by have o0 := hm2.1; have o1 := hM; have o2 := hu; (try simp only [hX_sI, hX_sR, hX_sL, hX_sD, hX_sIa, hX_sRa, hV_sI, hV_sR, hV_sL, hV_sD, hV_sIa, hV_sRa, hX_new, hV_new] at o0 o1 o2 ⊢); omega)) (show us + (Int32.toNatClampNeg (100 : Int32)) ≤ MS from (by have o0 := hm2.2; have o1 := hN; have o2 := hv; (try simp only [hX_sI, hX_sR, hX_sL, hX_sD, hX_sIa, hX_sRa, hV_sI, hV_sR, hV_sL, hV_sD, hV_sIa, hV_sRa, hX_new, hV_new] at o0 o1 o2 ⊢); omega)) ?_
  refine p_pick [0] ?_
  exact wX2_init_b17 X hG hnm hM hN (by have o0 := hu; (try simp only [hX_sI, hX_sR, hX_sL, hX_sD, hX_sIa, hX_sRa, hV_sI, hV_sR, hV_sL, hV_sD, hV_sIa, hV_sRa, hX_new, hV_new] at o0 ⊢); omega) (by have o0 := hv; (try simp only [hX_sI, hX_sR, hX_sL, hX_sD, hX_sIa, hX_sRa, hV_sI, hV_sR, hV_sL, hV_sD, hV_sIa, hV_sRa, hX_new, hV_new] at o0 ⊢); omega) hf 
noncomputable def fX2_init_b0 (v0 : Nat) (h : PH) : Option PH :=
  gd (¬ (100 : Int32) < 0 ∧ (Int32.toNatClampNeg (100 : Int32)) ≤ 1000000) (fX2_init_b9 v0 v0 (hX h) (hnew h 20 (Int32.toNatClampNeg (100 : Int32))))
set_option maxRecDepth 100000 in
theorem mX2_init_b0 {v0 : Nat} {h : PH} {r : PH} (hf : fX2_init_b0 v0 h = some r) : lez h (hX r) (hV r) := by
  unfold fX2_init_b0 at hf
  have hle := lez_rf h
  obtain ⟨hg1, hf⟩ := gd_some hf
  have hle := lez_nw (c := 20) (n := (Int32.toNatClampNeg (100 : Int32))) hle
  exact lez_rt (mX2_init_b9 hf) hle
set_option maxRecDepth 100000 in
theorem wX2_init_b0 {E : PE} {p : Program} {l : Launch} {e : Env} {s : State} {m : MethodId} {args : Array Value} {below : List Frame} {meth : Method} {c : Code} {X0 V0 MC MS uc us : Nat} (X : Cx E p l e (rmv 1 MC MS) s m args below meth c RX2 cX2_init 1 (none)) (hG : Gs E l) (hnm : meth.name = yX2_init.name) {v0 : Nat} {h : PH} {r : PH} (hM : MC + X0 = (hX r)) (hN : MS + V0 = (hV r)) (hu : uc + X0 = hX h) (hv : us + V0 = hV h) (hf : fX2_init_b0 v0 h = some r)  : PW E p l e (rmv 1 MC MS) s m args below meth c 1 uc us (MQ below (QG E (fun v u => v = none ∧ u = r)) args s MC MS (pA E)) h 0 [(0, some (.ref v0))] [] := by
  have hm1 : lez h (hX r) (hV r) := mX2_init_b0 hf
  have hcm : uc ≤ MC := (by have o0 := hm1.1; have o1 := hM; have o2 := hu; (try simp only [hX_sI, hX_sR, hX_sL, hX_sD, hX_sIa, hX_sRa, hV_sI, hV_sR, hV_sL, hV_sD, hV_sIa, hV_sRa, hX_new, hV_new] at o0 o1 o2 ⊢); omega)
  have hsm : us ≤ MS := (by have o0 := hm1.2; have o1 := hN; have o2 := hv; (try simp only [hX_sI, hX_sR, hX_sL, hX_sD, hX_sIa, hX_sRa, hV_sI, hV_sR, hV_sL, hV_sD, hV_sIa, hV_sRa, hX_new, hV_new] at o0 o1 o2 ⊢); omega)
  clear hm1
  unfold fX2_init_b0 at hf
  refine p_aload_n X (dcg dc_X2_init 0 rfl) rfl rfl ?_
  refine p_objinit X tw_306 tw_146 tw_147 (dcg dc_X2_init 1 rfl) (Nat.le_of_ble_eq_true rfl) (Nat.le_trans (Nat.add_le_add_right (room4 (Nat.le_of_ble_eq_true rfl)) 12) (Nat.le_of_ble_eq_true rfl)) (fun ls hl => hl.1.trans X.2.2.1.symm) ?_
  refine p_aload_n X (dcg dc_X2_init 2 rfl) rfl rfl ?_
  refine p_bipush (v := 100) X (dcg dc_X2_init 3 rfl) (by decide) ?_
  obtain ⟨hg1, hf⟩ := gd_some hf
  have hm1 : lez _ (hX r) (hV r) := mX2_init_b9 hf
  have hm2 := lez_new hm1
  refine p_newa20 X tw_168 (dcg dc_X2_init 4 rfl) hg1.1 hg1.2 (show uc + 1 ≤ MC from (by have o0 := hm2.1; have o1 := hM; have o2 := hu; (try simp only [hX_sI, hX_sR, hX_sL, hX_sD, hX_sIa, hX_sRa, hV_sI, hV_sR, hV_sL, hV_sD, hV_sIa, hV_sRa, hX_new, hV_new] at o0 o1 o2 ⊢); omega)) (show us + (Int32.toNatClampNeg (100 : Int32)) ≤ MS from (by have o0 := hm2.2; have o1 := hN; have o2 := hv; (try simp only [hX_sI, hX_sR, hX_sL, hX_sD, hX_sIa, hX_sRa, hV_sI, hV_sR, hV_sL, hV_sD, hV_sIa, hV_sRa, hX_new, hV_new] at o0 o1 o2 ⊢); omega)) ?_
  refine p_pick [0] ?_
  exact wX2_init_b9 X hG hnm hM hN (by have o0 := hu; (try simp only [hX_sI, hX_sR, hX_sL, hX_sD, hX_sIa, hX_sRa, hV_sI, hV_sR, hV_sL, hV_sD, hV_sIa, hV_sRa, hX_new, hV_new] at o0 ⊢); omega) (by have o0 := hv; (try simp only [hX_sI, hX_sR, hX_sL, hX_sD, hX_sIa, hX_sRa, hV_sI, hV_sR, hV_sL, hV_sD, hV_sIa, hV_sRa, hX_new, hV_new] at o0 ⊢); omega) hf 
noncomputable def fX2_init (v0 : Nat) (h : PH) : Option PH :=
  fX2_init_b0 v0 h
set_option maxRecDepth 100000 in
theorem mX2_init {v0 : Nat} {h : PH} {r : PH} (hf : fX2_init v0 h = some r) : lez h (hX r) (hV r) := by
  unfold fX2_init at hf
  have hle := lez_rf h
  exact lez_rt (mX2_init_b0 hf) hle
set_option maxRecDepth 100000 in
theorem wX2_init {E : PE} {l : Launch} (hG : Gs E l) {v0 : Nat} {h : PH} {r : PH} (hf : fX2_init v0 h = some r) : Ct E l 1 ((hX r) - hX h) ((hV r) - hV h) yX2_init cX2_init 1 (none) [.ref v0] h (fun v u => v = none ∧ u = r) := by
  have hmm := mX2_init hf
  refine ct_of hG (by decide) (Nat.le_of_ble_eq_true rfl) ?_
  intro p e s m args below meth c X hnm
  show PW E p l e _ s m args below meth c _ 0 0 _ h 0 [(0, some (.ref v0))] []
  unfold fX2_init at hf
  have hM := Nat.sub_add_cancel hmm.1
  have hN := Nat.sub_add_cancel hmm.2
  refine p_pick [0] ?_
  exact wX2_init_b0 X hG hnm hM hN (Nat.zero_add _) (Nat.zero_add _) hf
theorem dc_X4_score : decs cX4_score [(0, .iload_n 3, 1), (1, .bipush 40, 2), (3, .if_icmp .le 5, 3), (6, .iconst 0, 1), (7, .ireturn, 1), (8, .aload_n 0, 1), (9, .invokevirtual 63, 3), (12, .ifCond .eq 17, 3), (15, .iload_n 2, 1), (16, .ifCond .eq 11, 3), (19, .aload_n 0, 1), (20, .aload_n 1, 1), (21, .invokevirtual 67, 3), (24, .goto 4, 3), (27, .iconst 0, 1), (28, .ireturn, 1), (29, .aload_n 0, 1), (30, .getfield 9, 3), (33, .iconst 4, 1), (34, .if_icmp .ne 15, 3), (37, .iload_n 2, 1), (38, .ifCond .ne 7, 3), (41, .iconst 1, 1), (42, .goto 8, 3), (45, .iconst 0, 1), (46, .goto 4, 3), (49, .iload_n 2, 1), (50, .istore 4, 2), (52, .iconst 0, 1), (53, .istore 5, 2), (55, .iconst 0, 1), (56, .istore 6, 2), (58, .iload 6, 2), (60, .aload_n 0, 1), (61, .getfield 25, 3), (64, .invokevirtual 71, 3), (67, .if_icmp .ge 35, 3), (70, .iload 5, 2), (72, .aload_n 0, 1), (73, .getfield 25, 3), (76, .iload 6, 2), (78, .invokevirtual 75, 3), (81, .checkcast 10, 3), (84, .aload_n 1, 1), (85, .iload 4, 2), (87, .iload_n 3, 1), (88, .iconst 1, 1), (89, .iadd, 1), (90, .invokestatic 83, 3), (93, .iadd, 1), (94, .istore 5, 2), (96, .iinc 6 1, 3), (99, .goto (-41), 3), (102, .iload 5, 2), (104, .ireturn, 1)] = true := by decide +kernel
noncomputable def fX4_score_R_c58 (rc0 : (Option Nat → Option Nat → Int32 → Int32 → PH → Option Int32)) (v0 : Option Nat) (v1 : Option Nat) (v3 : Int32) (v4 : Int32) (v5 : Int32) (v6 : Int32) (h : PH) : Option ((Int32 × Int32) ⊕ Int32) :=
  gs v0 (fun a5 =>
  gd (hK h a5 = 4) (gs (hR h 4 a5 3) (fun a8 =>
  gd (hK h a8 = 14) (bd (fJx4a65c_size_8abf5 a8 h) (fun z11 =>
  if (z11 ≤ v6) then (mr (some (v5))) else
  gs (hR h 4 a5 3) (fun a14 =>
  gd (hK h a14 = 14) (bd (fJx4a65c_get_915e3 a14 v6 h) (fun z17 =>
  gs z17 (fun a18 =>
  gd (hK h a18 = 4) (bd (rc0 (some a18) v1 v4 (v3 + (1 : Int32)) h) (fun z21 =>
  some (.inl ((v5 + z21), (v6 + 1))))))))))))))
set_option maxRecDepth 100000 in
theorem wX4_score_R_c58 {E : PE} {p : Program} {l : Launch} {e : Env} {s : State} {m : MethodId} {args : Array Value} {below : List Frame} {meth : Method} {c : Code} {nn : Nat} (X : Cx E p l e (rmv (3 + nn + 1) 0 0) s m args below meth c RX4 cX4_score 7 (some .int)) (hG : Gs E l) (hnm : meth.name = yX4_score.name) {rc0 : (Option Nat → Option Nat → Int32 → Int32 → PH → Option Int32)} (hw0 : ∀ {a0 : Option Nat} {a1 : Option Nat} {a2 : Int32} {a3 : Int32} {h : PH} {r : Int32}, rc0 a0 a1 a2 a3 h = some r → Ct E l (3 + nn) 0 0 yX4_score cX4_score 7 (some .int) [va_rf a0, va_rf a1, .int a2, .int a3] h (fun v u => v = some (.int r) ∧ u = h)) {v0 : Option Nat} {v1 : Option Nat} {v3 : Int32} {v4 : Int32} {v5 : Int32} {v6 : Int32} {h : PH} {r : Int32} {x : ((Int32 × Int32) ⊕ Int32)} (hf : fX4_score_R_c58 rc0 v0 v1 v3 v4 v5 v6 h = some x) (k0 : ∀ z : (Int32 × Int32), x = .inl z → PW E p l e (rmv (3 + nn + 1) 0 0) s m args below meth c 7 0 0 (MQ below (QG E (fun v u => v = some (.int r) ∧ u = h)) args s 0 0 (pA E)) h 58 [(0, some (va_rf v0)), (1, some (va_rf v1)), (3, some (.int v3)), (4, some (.int v4)), (5, some (.int (z.1))), (6, some (.int (z.2)))] []) (kf : ∀ z : Int32, x = .inr z → z = r) : PW E p l e (rmv (3 + nn + 1) 0 0) s m args below meth c 7 0 0 (MQ below (QG E (fun v u => v = some (.int r) ∧ u = h)) args s 0 0 (pA E)) h 58 [(0, some (va_rf v0)), (1, some (va_rf v1)), (3, some (.int v3)), (4, some (.int v4)), (5, some (.int v5)), (6, some (.int v6))] [] := by
  unfold fX4_score_R_c58 at hf
  refine p_iload X (dcg dc_X4_score 32 rfl) rfl ?_
  refine p_aloadq_n X (dcg dc_X4_score 33 rfl) rfl rfl ?_
  obtain ⟨a5, e6, hf⟩ := gs_some hf
  first | subst e6 | (try rw [e6])
  obtain ⟨hk7, hf⟩ := gd_some hf
  refine p_getR X fl_X4_25 rfl (by decide) (dcg dc_X4_score 34 rfl) hk7 ?_
  obtain ⟨a8, e9, hf⟩ := gs_some hf
  first | subst e9 | (try rw [e9])
  obtain ⟨hk10, hf⟩ := gd_some hf
  obtain ⟨z11, hz11, hf⟩ := bd_some hf
  refine p_callV (As := []) X ml_X4_71 (dcg dc_X4_score 35 rfl) rfl rfl hk10 (wJx4a65c_size_8abf5 hG hz11) (by omega) (room4 (Nat.le_of_ble_eq_true rfl)) (Nat.le_refl _) (Nat.le_refl _) ?_
  rintro _ u9 ⟨rfl, e9⟩; have e9 := e9.symm; subst e9
  refine p_icmp_ge (tgt := 102) X (dcg dc_X4_score 36 rfl) (by decide) (fun q => ?_) (fun q => ?_)
  · have hf := if_t q hf
    obtain ⟨y12, hf, hy13⟩ := mr_some hf
    have hy13f := kf y12 hy13
    subst hy13f
    refine p_iload X (dcg dc_X4_score 53 rfl) rfl ?_
    have er := Option.some.inj hf
    subst er
    exact p_iret X rfl (dcg dc_X4_score 54 rfl) ⟨rfl, rfl⟩ (Nat.le_refl _) (Nat.le_refl _)
  · have hf := if_f q hf
    refine p_iload X (dcg dc_X4_score 37 rfl) rfl ?_
    refine p_aload_n X (dcg dc_X4_score 38 rfl) rfl rfl ?_
    refine p_getR X fl_X4_25 rfl (by decide) (dcg dc_X4_score 39 rfl) hk7 ?_
    refine p_iload X (dcg dc_X4_score 40 rfl) rfl ?_
    obtain ⟨a14, e15, hf⟩ := gs_some hf
    first | subst e15 | (try rw [e15])
    obtain ⟨hk16, hf⟩ := gd_some hf
    obtain ⟨z17, hz17, hf⟩ := bd_some hf
    refine p_callV (As := [_]) X ml_X4_75 (dcg dc_X4_score 41 rfl) rfl rfl hk16 (wJx4a65c_get_915e3 hG hz17) (by omega) (room4 (Nat.le_of_ble_eq_true rfl)) (Nat.le_refl _) (Nat.le_refl _) ?_
    rintro _ u9 ⟨rfl, e9⟩; have e9 := e9.symm; subst e9
    obtain ⟨a18, e19, hf⟩ := gs_some hf
    first | subst e19 | (try rw [e19])
    obtain ⟨hk20, hf⟩ := gd_some hf
    refine p_cast (q := (RX4, TX4, 4)) X rfl tw_971 (dcg dc_X4_score 42 rfl) hk20 ?_
    refine p_aloadq_n X (dcg dc_X4_score 43 rfl) rfl rfl ?_
    refine p_iload X (dcg dc_X4_score 44 rfl) rfl ?_
    refine p_iload_n X (dcg dc_X4_score 45 rfl) rfl rfl ?_
    refine p_iconst (v := 1) X (dcg dc_X4_score 46 rfl) (by decide) ?_
    refine p_iadd X (dcg dc_X4_score 47 rfl) ?_
    obtain ⟨z21, hz21, hf⟩ := bd_some hf
    refine p_callS (As := [va_rf (some _), va_rf _, _, _]) X ml_X4_83 (dcg dc_X4_score 48 rfl) rfl rfl  (hw0 hz21) (by omega) (room4 (Nat.le_of_ble_eq_true rfl)) (Nat.le_refl _) (Nat.le_refl _) ?_
    rintro _ u9 ⟨rfl, e9⟩; have e9 := e9.symm; subst e9
    refine p_iadd X (dcg dc_X4_score 49 rfl) ?_
    refine p_istore X (dcg dc_X4_score 50 rfl) (by decide) rfl ?_
    refine p_iinc (v := 1) X (dcg dc_X4_score 51 rfl) rfl (by decide) (by decide) rfl ?_
    refine p_goto (tgt := 58) X (dcg dc_X4_score 52 rfl) (by decide) ?_
    refine p_pick [0, 1, 3, 4, 5, 6] ?_
    exact k0 _ (Option.some.inj hf).symm
noncomputable def fX4_score_R_l58 (rc0 : (Option Nat → Option Nat → Int32 → Int32 → PH → Option Int32)) (v0 : Option Nat) (v1 : Option Nat) (v3 : Int32) (v4 : Int32) (v5 : Int32) (v6 : Int32) (h : PH) : Option Int32 := wh (fun z : (Int32 × Int32) => fX4_score_R_c58 rc0 v0 v1 v3 v4 (z.1) (z.2) h) (v5, v6)
set_option maxRecDepth 100000 in
theorem wX4_score_R_l58 {E : PE} {p : Program} {l : Launch} {e : Env} {s : State} {m : MethodId} {args : Array Value} {below : List Frame} {meth : Method} {c : Code} {nn : Nat} (X : Cx E p l e (rmv (3 + nn + 1) 0 0) s m args below meth c RX4 cX4_score 7 (some .int)) (hG : Gs E l) (hnm : meth.name = yX4_score.name) {rc0 : (Option Nat → Option Nat → Int32 → Int32 → PH → Option Int32)} (hw0 : ∀ {a0 : Option Nat} {a1 : Option Nat} {a2 : Int32} {a3 : Int32} {h : PH} {r : Int32}, rc0 a0 a1 a2 a3 h = some r → Ct E l (3 + nn) 0 0 yX4_score cX4_score 7 (some .int) [va_rf a0, va_rf a1, .int a2, .int a3] h (fun v u => v = some (.int r) ∧ u = h)) {v0 : Option Nat} {v1 : Option Nat} {v3 : Int32} {v4 : Int32} {v5 : Int32} {v6 : Int32} {h : PH} {r : Int32} (hf : fX4_score_R_l58 rc0 v0 v1 v3 v4 v5 v6 h = some r)  : PW E p l e (rmv (3 + nn + 1) 0 0) s m args below meth c 7 0 0 (MQ below (QG E (fun v u => v = some (.int r) ∧ u = h)) args s 0 0 (pA E)) h 58 [(0, some (va_rf v0)), (1, some (va_rf v1)), (3, some (.int v3)), (4, some (.int v4)), (5, some (.int v5)), (6, some (.int v6))] [] := by
  unfold fX4_score_R_l58 at hf
  refine wh_ind (P := fun z => PW E p l e (rmv (3 + nn + 1) 0 0) s m args below meth c 7 0 0 (MQ below (QG E (fun v u => v = some (.int r) ∧ u = h)) args s 0 0 (pA E)) h 58 [(0, some (va_rf v0)), (1, some (va_rf v1)), (3, some (.int v3)), (4, some (.int v4)), (5, some (.int (z.1))), (6, some (.int (z.2)))] []) (fun z x0 hs i1 i2 => ?_) _ hf
  exact wX4_score_R_c58 (r := r) (v0 := v0) (v1 := v1) (v3 := v3) (v4 := v4) (v5 := z.1) (v6 := z.2) (h := h) X hG hnm hw0 hs i1  i2
noncomputable def fX4_score_R_b50 (rc0 : (Option Nat → Option Nat → Int32 → Int32 → PH → Option Int32)) (v0 : Option Nat) (v1 : Option Nat) (v3 : Int32) (t0 : Int32) (h : PH) : Option Int32 :=
  fX4_score_R_l58 rc0 v0 v1 v3 t0 (0 : Int32) (0 : Int32) h
set_option maxRecDepth 100000 in
theorem wX4_score_R_b50 {E : PE} {p : Program} {l : Launch} {e : Env} {s : State} {m : MethodId} {args : Array Value} {below : List Frame} {meth : Method} {c : Code} {nn : Nat} (X : Cx E p l e (rmv (3 + nn + 1) 0 0) s m args below meth c RX4 cX4_score 7 (some .int)) (hG : Gs E l) (hnm : meth.name = yX4_score.name) {rc0 : (Option Nat → Option Nat → Int32 → Int32 → PH → Option Int32)} (hw0 : ∀ {a0 : Option Nat} {a1 : Option Nat} {a2 : Int32} {a3 : Int32} {h : PH} {r : Int32}, rc0 a0 a1 a2 a3 h = some r → Ct E l (3 + nn) 0 0 yX4_score cX4_score 7 (some .int) [va_rf a0, va_rf a1, .int a2, .int a3] h (fun v u => v = some (.int r) ∧ u = h)) {v0 : Option Nat} {v1 : Option Nat} {v3 : Int32} {t0 : Int32} {h : PH} {r : Int32} (hf : fX4_score_R_b50 rc0 v0 v1 v3 t0 h = some r)  : PW E p l e (rmv (3 + nn + 1) 0 0) s m args below meth c 7 0 0 (MQ below (QG E (fun v u => v = some (.int r) ∧ u = h)) args s 0 0 (pA E)) h 50 [(0, some (va_rf v0)), (1, some (va_rf v1)), (3, some (.int v3))] [.int t0] := by
  unfold fX4_score_R_b50 at hf
  refine p_istore X (dcg dc_X4_score 27 rfl) (by decide) rfl ?_
  refine p_iconst (v := 0) X (dcg dc_X4_score 28 rfl) (by decide) ?_
  refine p_istore X (dcg dc_X4_score 29 rfl) (by decide) rfl ?_
  refine p_iconst (v := 0) X (dcg dc_X4_score 30 rfl) (by decide) ?_
  refine p_istore X (dcg dc_X4_score 31 rfl) (by decide) rfl ?_
  refine p_pick [0, 1, 3, 4, 5, 6] ?_
  exact wX4_score_R_l58 X hG hnm hw0 hf 
noncomputable def fX4_score_R_b28 (rc0 : (Option Nat → Option Nat → Int32 → Int32 → PH → Option Int32)) (t0 : Int32) (h : PH) : Option Int32 :=
  some (t0)
set_option maxRecDepth 100000 in
theorem wX4_score_R_b28 {E : PE} {p : Program} {l : Launch} {e : Env} {s : State} {m : MethodId} {args : Array Value} {below : List Frame} {meth : Method} {c : Code} {nn : Nat} (X : Cx E p l e (rmv (3 + nn + 1) 0 0) s m args below meth c RX4 cX4_score 7 (some .int)) (hG : Gs E l) (hnm : meth.name = yX4_score.name) {rc0 : (Option Nat → Option Nat → Int32 → Int32 → PH → Option Int32)} (hw0 : ∀ {a0 : Option Nat} {a1 : Option Nat} {a2 : Int32} {a3 : Int32} {h : PH} {r : Int32}, rc0 a0 a1 a2 a3 h = some r → Ct E l (3 + nn) 0 0 yX4_score cX4_score 7 (some .int) [va_rf a0, va_rf a1, .int a2, .int a3] h (fun v u => v = some (.int r) ∧ u = h)) {t0 : Int32} {h : PH} {r : Int32} (hf : fX4_score_R_b28 rc0 t0 h = some r)  : PW E p l e (rmv (3 + nn + 1) 0 0) s m args below meth c 7 0 0 (MQ below (QG E (fun v u => v = some (.int r) ∧ u = h)) args s 0 0 (pA E)) h 28 [] [.int t0] := by
  unfold fX4_score_R_b28 at hf
  have er := Option.some.inj hf
  subst er
  exact p_iret X rfl (dcg dc_X4_score 15 rfl) ⟨rfl, rfl⟩ (Nat.le_refl _) (Nat.le_refl _)
noncomputable def fX4_score_R (rc0 : (Option Nat → Option Nat → Int32 → Int32 → PH → Option Int32)) (v0 : Option Nat) (v1 : Option Nat) (v2 : Int32) (v3 : Int32) (h : PH) : Option Int32 :=
  if (v3 ≤ (40 : Int32)) then (gs v0 (fun a1 =>
  gd (hK h a1 = 4) (bd (fX4_isSimple a1 h) (fun z4 =>
  if (z4 = 0) then (if (¬ (hI h 4 a1 0) = (4 : Int32)) then (fX4_score_R_b50 rc0 (some a1) v1 v3 v2 h) else
  if (¬ v2 = 0) then (fX4_score_R_b50 rc0 (some a1) v1 v3 (0 : Int32) h) else
  fX4_score_R_b50 rc0 (some a1) v1 v3 (1 : Int32) h) else
  if (v2 = 0) then (fX4_score_R_b28 rc0 (0 : Int32) h) else
  bd (fX4_countMeetings a1 v1 h) (fun z22 =>
  fX4_score_R_b28 rc0 z22 h))))) else
  some ((0 : Int32))
set_option maxRecDepth 100000 in
theorem wX4_score_R {E : PE} {l : Launch} (hG : Gs E l) {nn : Nat} {rc0 : (Option Nat → Option Nat → Int32 → Int32 → PH → Option Int32)} (hw0 : ∀ {a0 : Option Nat} {a1 : Option Nat} {a2 : Int32} {a3 : Int32} {h : PH} {r : Int32}, rc0 a0 a1 a2 a3 h = some r → Ct E l (3 + nn) 0 0 yX4_score cX4_score 7 (some .int) [va_rf a0, va_rf a1, .int a2, .int a3] h (fun v u => v = some (.int r) ∧ u = h)) {v0 : Option Nat} {v1 : Option Nat} {v2 : Int32} {v3 : Int32} {h : PH} {r : Int32} (hf : fX4_score_R rc0 v0 v1 v2 v3 h = some r) : Ct E l (3 + nn + 1) 0 0 yX4_score cX4_score 7 (some .int) [va_rf v0, va_rf v1, .int v2, .int v3] h (fun v u => v = some (.int r) ∧ u = h) := by
  refine ct_of hG (by decide) (by simp [lg_sl, cat_rf, cat_r, cat_i, cat_l, cat_d, cat_f]) ?_
  intro p e s m args below meth c X hnm
  rw [show pargs 0 [va_rf v0, va_rf v1, .int v2, .int v3] = [(0, some (va_rf v0)), (1, some (va_rf v1)), (2, some (.int v2)), (3, some (.int v3))] from by simp [pargs, cat_rf, cat_r, cat_i, cat_l, cat_d, cat_f]]
  unfold fX4_score_R at hf
  refine p_iload_n X (dcg dc_X4_score 0 rfl) rfl rfl ?_
  refine p_bipush (v := 40) X (dcg dc_X4_score 1 rfl) (by decide) ?_
  refine p_icmp_le (tgt := 8) X (dcg dc_X4_score 2 rfl) (by decide) (fun q => ?_) (fun q => ?_)
  · have hf := if_t q hf
    refine p_aloadq_n X (dcg dc_X4_score 5 rfl) rfl rfl ?_
    obtain ⟨a1, e2, hf⟩ := gs_some hf
    first | subst e2 | (try rw [e2])
    obtain ⟨hk3, hf⟩ := gd_some hf
    obtain ⟨z4, hz4, hf⟩ := bd_some hf
    refine p_callV (As := []) X ml_X4_63 (dcg dc_X4_score 6 rfl) rfl rfl hk3 (wX4_isSimple hG hz4) (by omega) (room4 (Nat.le_of_ble_eq_true rfl)) (Nat.le_refl _) (Nat.le_refl _) ?_
    rintro _ u9 ⟨rfl, e9⟩; have e9 := e9.symm; subst e9
    refine p_if_eq (tgt := 29) X (dcg dc_X4_score 7 rfl) (by decide) (fun q => ?_) (fun q => ?_)
    · have hf := if_t q hf
      refine p_aload_n X (dcg dc_X4_score 16 rfl) rfl rfl ?_
      refine p_getI X fl_X4_9 rfl (by decide) (dcg dc_X4_score 17 rfl) hk3 ?_
      refine p_iconst (v := 4) X (dcg dc_X4_score 18 rfl) (by decide) ?_
      refine p_icmp_ne (tgt := 49) X (dcg dc_X4_score 19 rfl) (by decide) (fun q => ?_) (fun q => ?_)
      · have hf := if_t q hf
        refine p_iload_n X (dcg dc_X4_score 26 rfl) rfl rfl ?_
        refine p_pick [0, 1, 3] ?_
        exact wX4_score_R_b50 X hG hnm hw0 hf 
      · have hf := if_f q hf
        refine p_iload_n X (dcg dc_X4_score 20 rfl) rfl rfl ?_
        refine p_if_ne (tgt := 45) X (dcg dc_X4_score 21 rfl) (by decide) (fun q => ?_) (fun q => ?_)
        · have hf := if_t q hf
          refine p_iconst (v := 0) X (dcg dc_X4_score 24 rfl) (by decide) ?_
          refine p_goto (tgt := 50) X (dcg dc_X4_score 25 rfl) (by decide) ?_
          refine p_pick [0, 1, 3] ?_
          exact wX4_score_R_b50 X hG hnm hw0 hf 
        · have hf := if_f q hf
          refine p_iconst (v := 1) X (dcg dc_X4_score 22 rfl) (by decide) ?_
          refine p_goto (tgt := 50) X (dcg dc_X4_score 23 rfl) (by decide) ?_
          refine p_pick [0, 1, 3] ?_
          exact wX4_score_R_b50 X hG hnm hw0 hf 
    · have hf := if_f q hf
      refine p_iload_n X (dcg dc_X4_score 8 rfl) rfl rfl ?_
      refine p_if_eq (tgt := 27) X (dcg dc_X4_score 9 rfl) (by decide) (fun q => ?_) (fun q => ?_)
      · have hf := if_t q hf
        refine p_iconst (v := 0) X (dcg dc_X4_score 14 rfl) (by decide) ?_
        refine p_pick [] ?_
        exact wX4_score_R_b28 X hG hnm hw0 hf 
      · have hf := if_f q hf
        refine p_aload_n X (dcg dc_X4_score 10 rfl) rfl rfl ?_
        refine p_aloadq_n X (dcg dc_X4_score 11 rfl) rfl rfl ?_
        obtain ⟨z22, hz22, hf⟩ := bd_some hf
        refine p_callV (As := [va_rf _]) X ml_X4_67 (dcg dc_X4_score 12 rfl) rfl rfl hk3 (wX4_countMeetings hG hz22) (by omega) (room4 (Nat.le_of_ble_eq_true rfl)) (Nat.le_refl _) (Nat.le_refl _) ?_
        rintro _ u9 ⟨rfl, e9⟩; have e9 := e9.symm; subst e9
        refine p_goto (tgt := 28) X (dcg dc_X4_score 13 rfl) (by decide) ?_
        refine p_pick [] ?_
        exact wX4_score_R_b28 X hG hnm hw0 hf 
  · have hf := if_f q hf
    refine p_iconst (v := 0) X (dcg dc_X4_score 3 rfl) (by decide) ?_
    have er := Option.some.inj hf
    subst er
    exact p_iret X rfl (dcg dc_X4_score 4 rfl) ⟨rfl, rfl⟩ (Nat.le_refl _) (Nat.le_refl _)
noncomputable def g_X4_score : Nat → (Option Nat → Option Nat → Int32 → Int32 → PH → Option Int32)
  | 0 => (fun a0 a1 a2 a3 h => none)
  | n + 1 => (fun a0 a1 a2 a3 h => fX4_score_R (g_X4_score n) a0 a1 a2 a3 h)
theorem gw_X4_score {E : PE} {l : Launch} (hG : Gs E l) : ∀ n : Nat, ∀ {a0 : Option Nat} {a1 : Option Nat} {a2 : Int32} {a3 : Int32} {h : PH} {r : Int32}, (g_X4_score n) a0 a1 a2 a3 h = some r → Ct E l (3 + n) 0 0 yX4_score cX4_score 7 (some .int) [va_rf a0, va_rf a1, .int a2, .int a3] h (fun v u => v = some (.int r) ∧ u = h) := by
  intro n
  induction n with
  | zero => exact (fun hf => nomatch (show (none : Option Int32) = some _ from hf))
  | succ n ih => exact (fun {a0 a1 a2 a3 h r} hf => wX4_score_R (nn := n) hG (ih)  (show fX4_score_R (g_X4_score n) a0 a1 a2 a3 h = some r from hf))
noncomputable def fX4_score (a0 : Option Nat) (a1 : Option Nat) (a2 : Int32) (a3 : Int32) (h : PH) : Option Int32 := (g_X4_score 44) a0 a1 a2 a3 h
theorem wX4_score {E : PE} {l : Launch} (hG : Gs E l) {a0 : Option Nat} {a1 : Option Nat} {a2 : Int32} {a3 : Int32} {h : PH} {r : Int32} (hf : fX4_score a0 a1 a2 a3 h = some r) : Ct E l 47 0 0 yX4_score cX4_score 7 (some .int) [va_rf a0, va_rf a1, .int a2, .int a3] h (fun v u => v = some (.int r) ∧ u = h) := (gw_X4_score hG 44) hf
theorem dc_X2_insert : decs cX2_insert [(0, .aload_n 0, 1), (1, .getfield 21, 3), (4, .bipush 100, 2), (6, .if_icmp .lt 4, 3), (9, .return_, 1), (10, .aload_n 0, 1), (11, .getfield 9, 3), (14, .aload_n 0, 1), (15, .getfield 21, 3), (18, .iload_n 1, 1), (19, .iastore, 1), (20, .aload_n 0, 1), (21, .getfield 21, 3), (24, .istore_n 3, 1), (25, .iload_n 3, 1), (26, .ifCond .le 49, 3), (29, .aload_n 0, 1), (30, .getfield 18, 3), (33, .iload_n 3, 1), (34, .iconst 1, 1), (35, .isub, 1), (36, .iaload, 1), (37, .iload_n 2, 1), (38, .if_icmp .ge 37, 3), (41, .aload_n 0, 1), (42, .getfield 15, 3), (45, .iload_n 3, 1), (46, .aload_n 0, 1), (47, .getfield 15, 3), (50, .iload_n 3, 1), (51, .iconst 1, 1), (52, .isub, 1), (53, .iaload, 1), (54, .iastore, 1), (55, .aload_n 0, 1), (56, .getfield 18, 3), (59, .iload_n 3, 1), (60, .aload_n 0, 1), (61, .getfield 18, 3), (64, .iload_n 3, 1), (65, .iconst 1, 1), (66, .isub, 1), (67, .iaload, 1), (68, .iastore, 1), (69, .iinc 3 (-1), 3), (72, .goto (-47), 3), (75, .aload_n 0, 1), (76, .getfield 15, 3), (79, .iload_n 3, 1), (80, .iload_n 1, 1), (81, .iastore, 1), (82, .aload_n 0, 1), (83, .getfield 18, 3), (86, .iload_n 3, 1), (87, .iload_n 2, 1), (88, .iastore, 1), (89, .aload_n 0, 1), (90, .dup, 1), (91, .getfield 21, 3), (94, .iconst 1, 1), (95, .iadd, 1), (96, .putfield 21, 3), (99, .return_, 1)] = true := by decide +kernel
noncomputable def fX2_insert_b75 (v0 : Nat) (v1 : Int32) (v2 : Int32) (v3 : Int32) (h : PH) : Option PH :=
  gd (hK h v0 = 2) (gs (hR h 2 v0 1) (fun a8 =>
  gd (hK h a8 = 20 ∧ inb v3 (hN h a8)) (lt (sI h 20 a8 (Int32.toNatClampNeg v3) v1) (fun h12 =>
  gs (hR h12 2 v0 2) (fun a13 =>
  gd (hK h12 a13 = 20 ∧ inb v3 (hN h12 a13)) (lt (sI h12 20 a13 (Int32.toNatClampNeg v3) v2) (fun h17 =>
  lt (sI h17 2 v0 3 ((hI h17 2 v0 3) + (1 : Int32))) (fun h18 =>
  some (h18)))))))))
set_option maxRecDepth 100000 in
theorem mX2_insert_b75 {v0 : Nat} {v1 : Int32} {v2 : Int32} {v3 : Int32} {h : PH} {r : PH} (hf : fX2_insert_b75 v0 v1 v2 v3 h = some r) : eqz h (hX r) (hV r) := by
  unfold fX2_insert_b75 at hf
  have hle := eqz_rf h
  obtain ⟨hk7, hf⟩ := gd_some hf
  obtain ⟨a8, e9, hf⟩ := gs_some hf
  obtain ⟨⟨hk11, hb10⟩, hf⟩ := gd_some hf
  obtain ⟨h12, rfl, hf⟩ := lt_some hf
  obtain ⟨a13, e14, hf⟩ := gs_some hf
  obtain ⟨⟨hk16, hb15⟩, hf⟩ := gd_some hf
  obtain ⟨h17, rfl, hf⟩ := lt_some hf
  obtain ⟨h18, rfl, hf⟩ := lt_some hf
  have ee := Option.some.inj hf; subst ee; exact hle
set_option maxRecDepth 100000 in
theorem wX2_insert_b75 {E : PE} {p : Program} {l : Launch} {e : Env} {s : State} {m : MethodId} {args : Array Value} {below : List Frame} {meth : Method} {c : Code} (X : Cx E p l e (rmv 0 0 0) s m args below meth c RX2 cX2_insert 4 (none)) (hG : Gs E l) (hnm : meth.name = yX2_insert.name) {v0 : Nat} {v1 : Int32} {v2 : Int32} {v3 : Int32} {h : PH} {r : PH} (hf : fX2_insert_b75 v0 v1 v2 v3 h = some r)  : PW E p l e (rmv 0 0 0) s m args below meth c 4 0 0 (MQ below (QG E (fun v u => v = none ∧ u = r)) args s 0 0 (pA E)) h 75 [(0, some (.ref v0)), (1, some (.int v1)), (2, some (.int v2)), (3, some (.int v3))] [] := by
  unfold fX2_insert_b75 at hf
  refine p_aload_n X (dcg dc_X2_insert 46 rfl) rfl rfl ?_
  obtain ⟨hk7, hf⟩ := gd_some hf
  refine p_getR X fl_X2_15 rfl (by decide) (dcg dc_X2_insert 47 rfl) hk7 ?_
  refine p_iload_n X (dcg dc_X2_insert 48 rfl) rfl rfl ?_
  refine p_iload_n X (dcg dc_X2_insert 49 rfl) rfl rfl ?_
  obtain ⟨a8, e9, hf⟩ := gs_some hf
  first | subst e9 | (try rw [e9])
  obtain ⟨⟨hk11, hb10⟩, hf⟩ := gd_some hf
  refine p_iast X (dcg dc_X2_insert 50 rfl) hk11 (vp_of_inb hb10) ?_
  obtain ⟨h12, rfl, hf⟩ := lt_some hf
  refine p_aload_n X (dcg dc_X2_insert 51 rfl) rfl rfl ?_
  refine p_getR X fl_X2_18 rfl (by decide) (dcg dc_X2_insert 52 rfl) hk7 ?_
  refine p_iload_n X (dcg dc_X2_insert 53 rfl) rfl rfl ?_
  refine p_iload_n X (dcg dc_X2_insert 54 rfl) rfl rfl ?_
  obtain ⟨a13, e14, hf⟩ := gs_some hf
  first | subst e14 | (try rw [e14])
  obtain ⟨⟨hk16, hb15⟩, hf⟩ := gd_some hf
  refine p_iast X (dcg dc_X2_insert 55 rfl) hk16 (vp_of_inb hb15) ?_
  obtain ⟨h17, rfl, hf⟩ := lt_some hf
  refine p_aload_n X (dcg dc_X2_insert 56 rfl) rfl rfl ?_
  refine p_dup X (dcg dc_X2_insert 57 rfl) rfl ?_
  refine p_getI X fl_X2_21 rfl (by decide) (dcg dc_X2_insert 58 rfl) hk7 ?_
  refine p_iconst (v := 1) X (dcg dc_X2_insert 59 rfl) (by decide) ?_
  refine p_iadd X (dcg dc_X2_insert 60 rfl) ?_
  refine p_putI X fl_X2_21 rfl (by decide) (fun q hq => by cases hq; rfl) rfl rfl (dcg dc_X2_insert 61 rfl) hk7 ?_
  obtain ⟨h18, rfl, hf⟩ := lt_some hf
  have er := Option.some.inj hf
  subst er
  exact p_vret X rfl (dcg dc_X2_insert 62 rfl) ⟨rfl, rfl⟩ (Nat.le_refl _) (Nat.le_refl _)
noncomputable def fX2_insert_c25 (v0 : Nat) (v1 : Int32) (v2 : Int32) (v3 : Int32) (h : PH) : Option ((Int32 × PH) ⊕ PH) :=
  if (v3 ≤ 0) then (mr (fX2_insert_b75 v0 v1 v2 v3 h)) else
  gd (hK h v0 = 2) (gs (hR h 2 v0 2) (fun a22 =>
  gd (hK h a22 = 20 ∧ inb (v3 - (1 : Int32)) (hN h a22)) (if (v2 ≤ (hI h 20 a22 (Int32.toNatClampNeg (v3 - (1 : Int32))))) then (mr (fX2_insert_b75 v0 v1 v2 v3 h)) else
  gs (hR h 2 v0 1) (fun a28 =>
  gd (hK h a28 = 20 ∧ inb (v3 - (1 : Int32)) (hN h a28)) (gd (inb v3 (hN h a28)) (lt (sI h 20 a28 (Int32.toNatClampNeg v3) (hI h 20 a28 (Int32.toNatClampNeg (v3 - (1 : Int32))))) (fun h33 =>
  gs (hR h33 2 v0 2) (fun a34 =>
  gd (hK h33 a34 = 20 ∧ inb (v3 - (1 : Int32)) (hN h33 a34)) (gd (inb v3 (hN h33 a34)) (lt (sI h33 20 a34 (Int32.toNatClampNeg v3) (hI h33 20 a34 (Int32.toNatClampNeg (v3 - (1 : Int32))))) (fun h39 =>
  some (.inl ((v3 + (-1)), h39)))))))))))))
set_option maxRecDepth 100000 in
theorem mX2_insert_c25 {v0 : Nat} {v1 : Int32} {v2 : Int32} {v3 : Int32} {h : PH} {x : ((Int32 × PH) ⊕ PH)} (hf : fX2_insert_c25 v0 v1 v2 v3 h = some x) : (∀ w9 : (Int32 × PH), x = .inl w9 → eqz h (hX (w9.2)) (hV (w9.2))) ∧ (∀ w9 : PH, x = .inr w9 → eqz h (hX w9) (hV w9)) := by
  unfold fX2_insert_c25 at hf
  have hle := eqz_rf h
  rcases ite_or hf with ⟨q, hf⟩ | ⟨q, hf⟩
  · have hf := if_t q hf
    obtain ⟨y19, hfm, rfl⟩ := mr_some hf; have hf := hfm; clear hfm
    have cf := mX2_insert_b75 hf
    exact ⟨(fun z e => nomatch e), (fun z e => by cases e <;> exact eqz_rt cf hle)⟩
  · have hf := if_f q hf
    obtain ⟨hk21, hf⟩ := gd_some hf
    obtain ⟨a22, e23, hf⟩ := gs_some hf
    obtain ⟨⟨hk25, hb24⟩, hf⟩ := gd_some hf
    rcases ite_or hf with ⟨q, hf⟩ | ⟨q, hf⟩
    · have hf := if_t q hf
      obtain ⟨y26, hfm, rfl⟩ := mr_some hf; have hf := hfm; clear hfm
      have cf := mX2_insert_b75 hf
      exact ⟨(fun z e => nomatch e), (fun z e => by cases e <;> exact eqz_rt cf hle)⟩
    · have hf := if_f q hf
      obtain ⟨a28, e29, hf⟩ := gs_some hf
      obtain ⟨⟨hk31, hb30⟩, hf⟩ := gd_some hf
      obtain ⟨hb32, hf⟩ := gd_some hf
      obtain ⟨h33, rfl, hf⟩ := lt_some hf
      obtain ⟨a34, e35, hf⟩ := gs_some hf
      obtain ⟨⟨hk37, hb36⟩, hf⟩ := gd_some hf
      obtain ⟨hb38, hf⟩ := gd_some hf
      obtain ⟨h39, rfl, hf⟩ := lt_some hf
      have ee := Option.some.inj hf; subst ee
      exact ⟨(fun z e => by have ee := Sum.inl.inj (e); subst ee; exact hle), (fun z e => nomatch e)⟩
set_option maxRecDepth 100000 in
theorem wX2_insert_c25 {E : PE} {p : Program} {l : Launch} {e : Env} {s : State} {m : MethodId} {args : Array Value} {below : List Frame} {meth : Method} {c : Code} (X : Cx E p l e (rmv 0 0 0) s m args below meth c RX2 cX2_insert 4 (none)) (hG : Gs E l) (hnm : meth.name = yX2_insert.name) {v0 : Nat} {v1 : Int32} {v2 : Int32} {v3 : Int32} {h : PH} {r : PH} {x : ((Int32 × PH) ⊕ PH)} (hf : fX2_insert_c25 v0 v1 v2 v3 h = some x) (k0 : ∀ z : (Int32 × PH), x = .inl z → PW E p l e (rmv 0 0 0) s m args below meth c 4 0 0 (MQ below (QG E (fun v u => v = none ∧ u = r)) args s 0 0 (pA E)) (z.2) 25 [(0, some (.ref v0)), (1, some (.int v1)), (2, some (.int v2)), (3, some (.int (z.1)))] []) (kf : ∀ z : PH, x = .inr z → z = r) : PW E p l e (rmv 0 0 0) s m args below meth c 4 0 0 (MQ below (QG E (fun v u => v = none ∧ u = r)) args s 0 0 (pA E)) h 25 [(0, some (.ref v0)), (1, some (.int v1)), (2, some (.int v2)), (3, some (.int v3))] [] := by
  unfold fX2_insert_c25 at hf
  refine p_iload_n X (dcg dc_X2_insert 14 rfl) rfl rfl ?_
  refine p_if_le (tgt := 75) X (dcg dc_X2_insert 15 rfl) (by decide) (fun q => ?_) (fun q => ?_)
  · have hf := if_t q hf
    obtain ⟨y19, hf, hy20⟩ := mr_some hf
    have hy20f := kf y19 hy20
    subst hy20f
    refine p_pick [0, 1, 2, 3] ?_
    exact wX2_insert_b75 X hG hnm hf 
  · have hf := if_f q hf
    refine p_aload_n X (dcg dc_X2_insert 16 rfl) rfl rfl ?_
    obtain ⟨hk21, hf⟩ := gd_some hf
    refine p_getR X fl_X2_18 rfl (by decide) (dcg dc_X2_insert 17 rfl) hk21 ?_
    refine p_iload_n X (dcg dc_X2_insert 18 rfl) rfl rfl ?_
    refine p_iconst (v := 1) X (dcg dc_X2_insert 19 rfl) (by decide) ?_
    refine p_isub X (dcg dc_X2_insert 20 rfl) ?_
    obtain ⟨a22, e23, hf⟩ := gs_some hf
    first | subst e23 | (try rw [e23])
    obtain ⟨⟨hk25, hb24⟩, hf⟩ := gd_some hf
    refine p_iald X (dcg dc_X2_insert 21 rfl) hk25 (vp_of_inb hb24) ?_
    refine p_iload_n X (dcg dc_X2_insert 22 rfl) rfl rfl ?_
    refine p_icmp_ge (tgt := 75) X (dcg dc_X2_insert 23 rfl) (by decide) (fun q => ?_) (fun q => ?_)
    · have hf := if_t q hf
      obtain ⟨y26, hf, hy27⟩ := mr_some hf
      have hy27f := kf y26 hy27
      subst hy27f
      refine p_pick [0, 1, 2, 3] ?_
      exact wX2_insert_b75 X hG hnm hf 
    · have hf := if_f q hf
      refine p_aload_n X (dcg dc_X2_insert 24 rfl) rfl rfl ?_
      refine p_getR X fl_X2_15 rfl (by decide) (dcg dc_X2_insert 25 rfl) hk21 ?_
      refine p_iload_n X (dcg dc_X2_insert 26 rfl) rfl rfl ?_
      refine p_aload_n X (dcg dc_X2_insert 27 rfl) rfl rfl ?_
      refine p_getR X fl_X2_15 rfl (by decide) (dcg dc_X2_insert 28 rfl) hk21 ?_
      refine p_iload_n X (dcg dc_X2_insert 29 rfl) rfl rfl ?_
      refine p_iconst (v := 1) X (dcg dc_X2_insert 30 rfl) (by decide) ?_
      refine p_isub X (dcg dc_X2_insert 31 rfl) ?_
      obtain ⟨a28, e29, hf⟩ := gs_some hf
      first | subst e29 | (try rw [e29])
      obtain ⟨⟨hk31, hb30⟩, hf⟩ := gd_some hf
      refine p_iald X (dcg dc_X2_insert 32 rfl) hk31 (vp_of_inb hb30) ?_
      obtain ⟨hb32, hf⟩ := gd_some hf
      refine p_iast X (dcg dc_X2_insert 33 rfl) hk31 (vp_of_inb hb32) ?_
      obtain ⟨h33, rfl, hf⟩ := lt_some hf
      refine p_aload_n X (dcg dc_X2_insert 34 rfl) rfl rfl ?_
      refine p_getR X fl_X2_18 rfl (by decide) (dcg dc_X2_insert 35 rfl) hk21 ?_
      refine p_iload_n X (dcg dc_X2_insert 36 rfl) rfl rfl ?_
      refine p_aload_n X (dcg dc_X2_insert 37 rfl) rfl rfl ?_
      refine p_getR X fl_X2_18 rfl (by decide) (dcg dc_X2_insert 38 rfl) hk21 ?_
      refine p_iload_n X (dcg dc_X2_insert 39 rfl) rfl rfl ?_
      refine p_iconst (v := 1) X (dcg dc_X2_insert 40 rfl) (by decide) ?_
      refine p_isub X (dcg dc_X2_insert 41 rfl) ?_
      obtain ⟨a34, e35, hf⟩ := gs_some hf
      first | subst e35 | (try rw [e35])
      obtain ⟨⟨hk37, hb36⟩, hf⟩ := gd_some hf
      refine p_iald X (dcg dc_X2_insert 42 rfl) hk37 (vp_of_inb hb36) ?_
      obtain ⟨hb38, hf⟩ := gd_some hf
      refine p_iast X (dcg dc_X2_insert 43 rfl) hk37 (vp_of_inb hb38) ?_
      obtain ⟨h39, rfl, hf⟩ := lt_some hf
      refine p_iinc (v := -1) X (dcg dc_X2_insert 44 rfl) rfl (by decide) (by decide) rfl ?_
      refine p_goto (tgt := 25) X (dcg dc_X2_insert 45 rfl) (by decide) ?_
      refine p_pick [0, 1, 2, 3] ?_
      exact k0 _ (Option.some.inj hf).symm
noncomputable def fX2_insert_l25 (v0 : Nat) (v1 : Int32) (v2 : Int32) (v3 : Int32) (h : PH) : Option PH := wh (fun z : (Int32 × PH) => fX2_insert_c25 v0 v1 v2 (z.1) (z.2)) (v3, h)
set_option maxRecDepth 100000 in
theorem mX2_insert_l25 {v0 : Nat} {v1 : Int32} {v2 : Int32} {v3 : Int32} {h : PH} {r : PH} (hf : fX2_insert_l25 v0 v1 v2 v3 h = some r) : eqz h (hX r) (hV r) := by
  unfold fX2_insert_l25 at hf
  refine wh_ind (P := fun z => eqz (z.2) (hX r) (hV r)) (fun z x0 hs i1 i2 => ?_) _ hf
  obtain ⟨c0, cf⟩ := mX2_insert_c25 (v0 := v0) (v1 := v1) (v2 := v2) (v3 := z.1) (h := z.2) hs
  rcases hxx : x0 with zz | zz
  · exact eqz_tr (c0 zz hxx) (i1 zz hxx)
  · have ee := i2 zz hxx; subst ee; exact cf zz hxx
set_option maxRecDepth 100000 in
theorem wX2_insert_l25 {E : PE} {p : Program} {l : Launch} {e : Env} {s : State} {m : MethodId} {args : Array Value} {below : List Frame} {meth : Method} {c : Code} (X : Cx E p l e (rmv 0 0 0) s m args below meth c RX2 cX2_insert 4 (none)) (hG : Gs E l) (hnm : meth.name = yX2_insert.name) {v0 : Nat} {v1 : Int32} {v2 : Int32} {v3 : Int32} {h : PH} {r : PH} (hf : fX2_insert_l25 v0 v1 v2 v3 h = some r)  : PW E p l e (rmv 0 0 0) s m args below meth c 4 0 0 (MQ below (QG E (fun v u => v = none ∧ u = r)) args s 0 0 (pA E)) h 25 [(0, some (.ref v0)), (1, some (.int v1)), (2, some (.int v2)), (3, some (.int v3))] [] := by
  unfold fX2_insert_l25 at hf
  refine wh_ind (P := fun z => PW E p l e (rmv 0 0 0) s m args below meth c 4 0 0 (MQ below (QG E (fun v u => v = none ∧ u = r)) args s 0 0 (pA E)) (z.2) 25 [(0, some (.ref v0)), (1, some (.int v1)), (2, some (.int v2)), (3, some (.int (z.1)))] []) (fun z x0 hs i1 i2 => ?_) _ hf
  exact wX2_insert_c25 (r := r) (v0 := v0) (v1 := v1) (v2 := v2) (v3 := z.1) (h := z.2) X hG hnm hs i1  i2
noncomputable def fX2_insert (v0 : Nat) (v1 : Int32) (v2 : Int32) (h : PH) : Option PH :=
  gd (hK h v0 = 2) (if ((hI h 2 v0 3) < (100 : Int32)) then (gs (hR h 2 v0 0) (fun a2 =>
  gd (hK h a2 = 20 ∧ inb (hI h 2 v0 3) (hN h a2)) (lt (sI h 20 a2 (Int32.toNatClampNeg (hI h 2 v0 3)) v1) (fun h6 =>
  fX2_insert_l25 v0 v1 v2 (hI h6 2 v0 3) h6)))) else
  some (h))
set_option maxRecDepth 100000 in
theorem mX2_insert {v0 : Nat} {v1 : Int32} {v2 : Int32} {h : PH} {r : PH} (hf : fX2_insert v0 v1 v2 h = some r) : eqz h (hX r) (hV r) := by
  unfold fX2_insert at hf
  have hle := eqz_rf h
  obtain ⟨hk1, hf⟩ := gd_some hf
  rcases ite_or hf with ⟨q, hf⟩ | ⟨q, hf⟩
  · have hf := if_t q hf
    obtain ⟨a2, e3, hf⟩ := gs_some hf
    obtain ⟨⟨hk5, hb4⟩, hf⟩ := gd_some hf
    obtain ⟨h6, rfl, hf⟩ := lt_some hf
    exact eqz_rt (mX2_insert_l25 hf) hle
  · have hf := if_f q hf
    have ee := Option.some.inj hf; subst ee; exact hle
set_option maxRecDepth 100000 in
theorem wX2_insert {E : PE} {l : Launch} (hG : Gs E l) {v0 : Nat} {v1 : Int32} {v2 : Int32} {h : PH} {r : PH} (hf : fX2_insert v0 v1 v2 h = some r) : Ct E l 0 0 0 yX2_insert cX2_insert 4 (none) [.ref v0, .int v1, .int v2] h (fun v u => v = none ∧ u = r) := by
  refine ct_of hG (by decide) (Nat.le_of_ble_eq_true rfl) ?_
  intro p e s m args below meth c X hnm
  show PW E p l e _ s m args below meth c _ 0 0 _ h 0 [(0, some (.ref v0)), (1, some (.int v1)), (2, some (.int v2))] []
  unfold fX2_insert at hf
  refine p_aload_n X (dcg dc_X2_insert 0 rfl) rfl rfl ?_
  obtain ⟨hk1, hf⟩ := gd_some hf
  refine p_getI X fl_X2_21 rfl (by decide) (dcg dc_X2_insert 1 rfl) hk1 ?_
  refine p_bipush (v := 100) X (dcg dc_X2_insert 2 rfl) (by decide) ?_
  refine p_icmp_lt (tgt := 10) X (dcg dc_X2_insert 3 rfl) (by decide) (fun q => ?_) (fun q => ?_)
  · have hf := if_t q hf
    refine p_aload_n X (dcg dc_X2_insert 5 rfl) rfl rfl ?_
    refine p_getR X fl_X2_9 rfl (by decide) (dcg dc_X2_insert 6 rfl) hk1 ?_
    refine p_aload_n X (dcg dc_X2_insert 7 rfl) rfl rfl ?_
    refine p_getI X fl_X2_21 rfl (by decide) (dcg dc_X2_insert 8 rfl) hk1 ?_
    refine p_iload_n X (dcg dc_X2_insert 9 rfl) rfl rfl ?_
    obtain ⟨a2, e3, hf⟩ := gs_some hf
    first | subst e3 | (try rw [e3])
    obtain ⟨⟨hk5, hb4⟩, hf⟩ := gd_some hf
    refine p_iast X (dcg dc_X2_insert 10 rfl) hk5 (vp_of_inb hb4) ?_
    obtain ⟨h6, rfl, hf⟩ := lt_some hf
    refine p_aload_n X (dcg dc_X2_insert 11 rfl) rfl rfl ?_
    refine p_getI X fl_X2_21 rfl (by decide) (dcg dc_X2_insert 12 rfl) hk1 ?_
    refine p_istore_n X (dcg dc_X2_insert 13 rfl) rfl (by decide) rfl ?_
    refine p_pick [0, 1, 2, 3] ?_
    exact wX2_insert_l25 X hG hnm hf 
  · have hf := if_f q hf
    have er := Option.some.inj hf
    subst er
    exact p_vret X rfl (dcg dc_X2_insert 4 rfl) ⟨rfl, rfl⟩ (Nat.le_refl _) (Nat.le_refl _)
theorem dc_X2_fill : decs cX2_fill [(0, .aload_n 0, 1), (1, .iconst 0, 1), (2, .putfield 21, 3), (5, .iconst 0, 1), (6, .istore_n 3, 1), (7, .iload_n 3, 1), (8, .aload_n 2, 1), (9, .arraylength, 1), (10, .if_icmp .ge 40, 3), (13, .aload_n 2, 1), (14, .iload_n 3, 1), (15, .aaload, 1), (16, .ifnull 28, 3), (19, .aload_n 1, 1), (20, .aload_n 2, 1), (21, .iload_n 3, 1), (22, .aaload, 1), (23, .iconst 0, 1), (24, .invokestatic 25, 3), (27, .ifCond .eq 17, 3), (30, .aload_n 0, 1), (31, .iload_n 3, 1), (32, .aload_n 1, 1), (33, .aload_n 2, 1), (34, .iload_n 3, 1), (35, .aaload, 1), (36, .iconst 1, 1), (37, .iconst 0, 1), (38, .invokestatic 31, 3), (41, .invokevirtual 35, 3), (44, .iinc 3 1, 3), (47, .goto (-40), 3), (50, .return_, 1)] = true := by decide +kernel
noncomputable def fX2_fill_b44 (v0 : Nat) (v1 : Option Nat) (v2 : Option Nat) (v3 : Int32) (h : PH) : Option ((Int32 × PH) ⊕ PH) :=
  some (.inl ((v3 + 1), h))
set_option maxRecDepth 100000 in
theorem mX2_fill_b44 {v0 : Nat} {v1 : Option Nat} {v2 : Option Nat} {v3 : Int32} {h : PH} {x : ((Int32 × PH) ⊕ PH)} (hf : fX2_fill_b44 v0 v1 v2 v3 h = some x) : (∀ w9 : (Int32 × PH), x = .inl w9 → eqz h (hX (w9.2)) (hV (w9.2))) ∧ (∀ w9 : PH, x = .inr w9 → eqz h (hX w9) (hV w9)) := by
  unfold fX2_fill_b44 at hf
  have hle := eqz_rf h
  have ee := Option.some.inj hf; subst ee
  exact ⟨(fun z e => by have ee := Sum.inl.inj (e); subst ee; exact hle), (fun z e => nomatch e)⟩
set_option maxRecDepth 100000 in
theorem wX2_fill_b44 {E : PE} {p : Program} {l : Launch} {e : Env} {s : State} {m : MethodId} {args : Array Value} {below : List Frame} {meth : Method} {c : Code} (X : Cx E p l e (rmv 48 0 0) s m args below meth c RX2 cX2_fill 4 (none)) (hG : Gs E l) (hnm : meth.name = yX2_fill.name) {v0 : Nat} {v1 : Option Nat} {v2 : Option Nat} {v3 : Int32} {h : PH} {r : PH} {x : ((Int32 × PH) ⊕ PH)} (hf : fX2_fill_b44 v0 v1 v2 v3 h = some x) (k0 : ∀ z : (Int32 × PH), x = .inl z → PW E p l e (rmv 48 0 0) s m args below meth c 4 0 0 (MQ below (QG E (fun v u => v = none ∧ u = r)) args s 0 0 (pA E)) (z.2) 7 [(0, some (.ref v0)), (1, some (va_rf v1)), (2, some (va_rf v2)), (3, some (.int (z.1)))] []) (kf : ∀ z : PH, x = .inr z → z = r) : PW E p l e (rmv 48 0 0) s m args below meth c 4 0 0 (MQ below (QG E (fun v u => v = none ∧ u = r)) args s 0 0 (pA E)) h 44 [(0, some (.ref v0)), (1, some (va_rf v1)), (2, some (va_rf v2)), (3, some (.int v3))] [] := by
  unfold fX2_fill_b44 at hf
  refine p_iinc (v := 1) X (dcg dc_X2_fill 30 rfl) rfl (by decide) (by decide) (nwq (k := 2) rfl) ?_
  refine p_goto (tgt := 7) X (dcg dc_X2_fill 31 rfl) (by decide) ?_
  refine p_pick [0, 1, 2, 3] ?_
  exact k0 _ (Option.some.inj hf).symm
noncomputable def fX2_fill_c7 (v0 : Nat) (v1 : Option Nat) (v2 : Option Nat) (v3 : Int32) (h : PH) : Option ((Int32 × PH) ⊕ PH) :=
  gs v2 (fun a3 =>
  gd (hK h a3 = 26) (if ((nI (hN h a3)) ≤ v3) then (mr (some (h))) else
  gd (inb v3 (hN h a3)) (mq (hR h 26 a3 (Int32.toNatClampNeg v3)) (fX2_fill_b44 v0 v1 (some a3) v3 h) (fun a9 =>
  gd (inb v3 (hN h a3)) (bd (fX4_isMet v1 (hR h 26 a3 (Int32.toNatClampNeg v3)) (0 : Int32) h) (fun z11 =>
  if (z11 = 0) then (fX2_fill_b44 v0 v1 (some a3) v3 h) else
  gd (inb v3 (hN h a3)) (bd (fX4_score v1 (hR h 26 a3 (Int32.toNatClampNeg v3)) (1 : Int32) (0 : Int32) h) (fun z13 =>
  gd (hK h v0 = 2) (bd (fX2_insert v0 v3 z13 h) (fun z15 =>
  fX2_fill_b44 v0 v1 (some a3) v3 z15))))))))))
set_option maxRecDepth 100000 in
theorem mX2_fill_c7 {v0 : Nat} {v1 : Option Nat} {v2 : Option Nat} {v3 : Int32} {h : PH} {x : ((Int32 × PH) ⊕ PH)} (hf : fX2_fill_c7 v0 v1 v2 v3 h = some x) : (∀ w9 : (Int32 × PH), x = .inl w9 → eqz h (hX (w9.2)) (hV (w9.2))) ∧ (∀ w9 : PH, x = .inr w9 → eqz h (hX w9) (hV w9)) := by
  unfold fX2_fill_c7 at hf
  have hle := eqz_rf h
  obtain ⟨a3, e4, hf⟩ := gs_some hf
  obtain ⟨hk5, hf⟩ := gd_some hf
  rcases ite_or hf with ⟨q, hf⟩ | ⟨q, hf⟩
  · have hf := if_t q hf
    obtain ⟨y6, hfm, rfl⟩ := mr_some hf; have hf := hfm; clear hfm
    have ee := Option.some.inj hf; subst ee
    exact ⟨(fun z e => nomatch e), (fun z e => by have ee := Sum.inr.inj (e); subst ee; exact hle)⟩
  · have hf := if_f q hf
    obtain ⟨hb8, hf⟩ := gd_some hf
    rcases mq_or hf with ⟨q, hf⟩ | ⟨a9, q, hf⟩
    · have hf := mq_n q hf
      obtain ⟨c0, cf⟩ := mX2_fill_b44 hf
      exact ⟨fun z e => eqz_rt (c0 z (e)) hle, fun z e => eqz_rt (cf z (e)) hle⟩
    · have hk16 := mq_s q hf
      first | subst q | skip
      have hf := hk16
      obtain ⟨hb10, hf⟩ := gd_some hf
      obtain ⟨z11, hz11, hf⟩ := bd_some hf
      rcases ite_or hf with ⟨q, hf⟩ | ⟨q, hf⟩
      · have hf := if_t q hf
        obtain ⟨c0, cf⟩ := mX2_fill_b44 hf
        exact ⟨fun z e => eqz_rt (c0 z (e)) hle, fun z e => eqz_rt (cf z (e)) hle⟩
      · have hf := if_f q hf
        obtain ⟨hb12, hf⟩ := gd_some hf
        obtain ⟨z13, hz13, hf⟩ := bd_some hf
        obtain ⟨hk14, hf⟩ := gd_some hf
        obtain ⟨z15, hz15, hf⟩ := bd_some hf
        have hle := eqz_rt (mX2_insert hz15) hle
        obtain ⟨c0, cf⟩ := mX2_fill_b44 hf
        exact ⟨fun z e => eqz_rt (c0 z (e)) hle, fun z e => eqz_rt (cf z (e)) hle⟩
set_option maxRecDepth 100000 in
theorem wX2_fill_c7 {E : PE} {p : Program} {l : Launch} {e : Env} {s : State} {m : MethodId} {args : Array Value} {below : List Frame} {meth : Method} {c : Code} (X : Cx E p l e (rmv 48 0 0) s m args below meth c RX2 cX2_fill 4 (none)) (hG : Gs E l) (hnm : meth.name = yX2_fill.name) {v0 : Nat} {v1 : Option Nat} {v2 : Option Nat} {v3 : Int32} {h : PH} {r : PH} {x : ((Int32 × PH) ⊕ PH)} (hf : fX2_fill_c7 v0 v1 v2 v3 h = some x) (k0 : ∀ z : (Int32 × PH), x = .inl z → PW E p l e (rmv 48 0 0) s m args below meth c 4 0 0 (MQ below (QG E (fun v u => v = none ∧ u = r)) args s 0 0 (pA E)) (z.2) 7 [(0, some (.ref v0)), (1, some (va_rf v1)), (2, some (va_rf v2)), (3, some (.int (z.1)))] []) (kf : ∀ z : PH, x = .inr z → z = r) : PW E p l e (rmv 48 0 0) s m args below meth c 4 0 0 (MQ below (QG E (fun v u => v = none ∧ u = r)) args s 0 0 (pA E)) h 7 [(0, some (.ref v0)), (1, some (va_rf v1)), (2, some (va_rf v2)), (3, some (.int v3))] [] := by
  unfold fX2_fill_c7 at hf
  refine p_iload_n X (dcg dc_X2_fill 5 rfl) rfl rfl ?_
  refine p_aloadq_n X (dcg dc_X2_fill 6 rfl) rfl rfl ?_
  obtain ⟨a3, e4, hf⟩ := gs_some hf
  first | subst e4 | (try rw [e4])
  obtain ⟨hk5, hf⟩ := gd_some hf
  refine p_alen26 X (dcg dc_X2_fill 7 rfl) hk5 ?_
  refine p_icmp_ge (tgt := 50) X (dcg dc_X2_fill 8 rfl) (by decide) (fun q => ?_) (fun q => ?_)
  · have hf := if_t q hf
    obtain ⟨y6, hf, hy7⟩ := mr_some hf
    have hy7f := kf y6 hy7
    subst hy7f
    have er := Option.some.inj hf
    subst er
    exact p_vret X rfl (dcg dc_X2_fill 32 rfl) ⟨rfl, rfl⟩ (Nat.le_refl _) (Nat.le_refl _)
  · have hf := if_f q hf
    refine p_aload_n X (dcg dc_X2_fill 9 rfl) rfl rfl ?_
    refine p_iload_n X (dcg dc_X2_fill 10 rfl) rfl rfl ?_
    obtain ⟨hb8, hf⟩ := gd_some hf
    refine p_aald26 X (dcg dc_X2_fill 11 rfl) hk5 (vp_of_inb hb8) ?_
    refine p_ifnull (tgt := 44) X (dcg dc_X2_fill 12 rfl) (by decide) (fun q => ?_) (fun a9 q => ?_)
    · have hk16 := mq_n q hf
      first | subst q | (try rw [q])
      have hf := hk16
      refine p_pick [0, 1, 2, 3] ?_
      exact wX2_fill_b44 X hG hnm hf k0 kf
    · have hk16 := mq_s q hf
      first | subst q | (try rw [q])
      have hf := hk16
      refine p_aloadq_n X (dcg dc_X2_fill 13 rfl) rfl rfl ?_
      refine p_aload_n X (dcg dc_X2_fill 14 rfl) rfl rfl ?_
      refine p_iload_n X (dcg dc_X2_fill 15 rfl) rfl rfl ?_
      obtain ⟨hb10, hf⟩ := gd_some hf
      refine p_aald26 X (dcg dc_X2_fill 16 rfl) hk5 (vp_of_inb hb10) ?_
      refine p_iconst (v := 0) X (dcg dc_X2_fill 17 rfl) (by decide) ?_
      obtain ⟨z11, hz11, hf⟩ := bd_some hf
      refine p_callSn (As := [va_rf _, va_rf _, _]) X ml_X2_25 (dcg dc_X2_fill 18 rfl) rfl rfl  (wX4_isMet hG hz11) (by decide) (room4 (Nat.le_of_ble_eq_true rfl)) (Nat.le_refl _) (Nat.le_refl _) ?_
      rintro _ u9 ⟨rfl, e9⟩; have e9 := e9.symm; subst e9
      refine p_if_eq (tgt := 44) X (dcg dc_X2_fill 19 rfl) (by decide) (fun q => ?_) (fun q => ?_)
      · have hf := if_t q hf
        refine p_pick [0, 1, 2, 3] ?_
        exact wX2_fill_b44 X hG hnm hf k0 kf
      · have hf := if_f q hf
        refine p_aload_n X (dcg dc_X2_fill 20 rfl) rfl rfl ?_
        refine p_iload_n X (dcg dc_X2_fill 21 rfl) rfl rfl ?_
        refine p_aloadq_n X (dcg dc_X2_fill 22 rfl) rfl rfl ?_
        refine p_aload_n X (dcg dc_X2_fill 23 rfl) rfl rfl ?_
        refine p_iload_n X (dcg dc_X2_fill 24 rfl) rfl rfl ?_
        obtain ⟨hb12, hf⟩ := gd_some hf
        refine p_aald26 X (dcg dc_X2_fill 25 rfl) hk5 (vp_of_inb hb12) ?_
        refine p_iconst (v := 1) X (dcg dc_X2_fill 26 rfl) (by decide) ?_
        refine p_iconst (v := 0) X (dcg dc_X2_fill 27 rfl) (by decide) ?_
        obtain ⟨z13, hz13, hf⟩ := bd_some hf
        refine p_callSn (As := [va_rf _, va_rf _, _, _]) X ml_X2_31 (dcg dc_X2_fill 28 rfl) rfl rfl  (wX4_score hG hz13) (by decide) (room4 (Nat.le_of_ble_eq_true rfl)) (Nat.le_refl _) (Nat.le_refl _) ?_
        rintro _ u9 ⟨rfl, e9⟩; have e9 := e9.symm; subst e9
        obtain ⟨hk14, hf⟩ := gd_some hf
        obtain ⟨z15, hz15, hf⟩ := bd_some hf
        refine p_callV (As := [_, _]) X ml_X2_35 (dcg dc_X2_fill 29 rfl) rfl rfl hk14 (wX2_insert hG hz15) (by decide) (room4 (Nat.le_of_ble_eq_true rfl)) (Nat.le_refl _) (Nat.le_refl _) ?_
        rintro _ u9 ⟨rfl, e9⟩; have e9 := e9.symm; subst e9
        refine p_pick [0, 1, 2, 3] ?_
        exact wX2_fill_b44 X hG hnm hf k0 kf
noncomputable def fX2_fill_l7 (v0 : Nat) (v1 : Option Nat) (v2 : Option Nat) (v3 : Int32) (h : PH) : Option PH := wh (fun z : (Int32 × PH) => fX2_fill_c7 v0 v1 v2 (z.1) (z.2)) (v3, h)
set_option maxRecDepth 100000 in
theorem mX2_fill_l7 {v0 : Nat} {v1 : Option Nat} {v2 : Option Nat} {v3 : Int32} {h : PH} {r : PH} (hf : fX2_fill_l7 v0 v1 v2 v3 h = some r) : eqz h (hX r) (hV r) := by
  unfold fX2_fill_l7 at hf
  refine wh_ind (P := fun z => eqz (z.2) (hX r) (hV r)) (fun z x0 hs i1 i2 => ?_) _ hf
  obtain ⟨c0, cf⟩ := mX2_fill_c7 (v0 := v0) (v1 := v1) (v2 := v2) (v3 := z.1) (h := z.2) hs
  rcases hxx : x0 with zz | zz
  · exact eqz_tr (c0 zz hxx) (i1 zz hxx)
  · have ee := i2 zz hxx; subst ee; exact cf zz hxx
set_option maxRecDepth 100000 in
theorem wX2_fill_l7 {E : PE} {p : Program} {l : Launch} {e : Env} {s : State} {m : MethodId} {args : Array Value} {below : List Frame} {meth : Method} {c : Code} (X : Cx E p l e (rmv 48 0 0) s m args below meth c RX2 cX2_fill 4 (none)) (hG : Gs E l) (hnm : meth.name = yX2_fill.name) {v0 : Nat} {v1 : Option Nat} {v2 : Option Nat} {v3 : Int32} {h : PH} {r : PH} (hf : fX2_fill_l7 v0 v1 v2 v3 h = some r)  : PW E p l e (rmv 48 0 0) s m args below meth c 4 0 0 (MQ below (QG E (fun v u => v = none ∧ u = r)) args s 0 0 (pA E)) h 7 [(0, some (.ref v0)), (1, some (va_rf v1)), (2, some (va_rf v2)), (3, some (.int v3))] [] := by
  unfold fX2_fill_l7 at hf
  refine wh_ind (P := fun z => PW E p l e (rmv 48 0 0) s m args below meth c 4 0 0 (MQ below (QG E (fun v u => v = none ∧ u = r)) args s 0 0 (pA E)) (z.2) 7 [(0, some (.ref v0)), (1, some (va_rf v1)), (2, some (va_rf v2)), (3, some (.int (z.1)))] []) (fun z x0 hs i1 i2 => ?_) _ hf
  exact wX2_fill_c7 (r := r) (v0 := v0) (v1 := v1) (v2 := v2) (v3 := z.1) (h := z.2) X hG hnm hs i1  i2
noncomputable def fX2_fill (v0 : Nat) (v1 : Option Nat) (v2 : Option Nat) (h : PH) : Option PH :=
  gd (hK h v0 = 2) (lt (sI h 2 v0 3 (0 : Int32)) (fun h2 =>
  fX2_fill_l7 v0 v1 v2 (0 : Int32) h2))
set_option maxRecDepth 100000 in
theorem mX2_fill {v0 : Nat} {v1 : Option Nat} {v2 : Option Nat} {h : PH} {r : PH} (hf : fX2_fill v0 v1 v2 h = some r) : eqz h (hX r) (hV r) := by
  unfold fX2_fill at hf
  have hle := eqz_rf h
  obtain ⟨hk1, hf⟩ := gd_some hf
  obtain ⟨h2, rfl, hf⟩ := lt_some hf
  exact eqz_rt (mX2_fill_l7 hf) hle
set_option maxRecDepth 100000 in
theorem wX2_fill {E : PE} {l : Launch} (hG : Gs E l) {v0 : Nat} {v1 : Option Nat} {v2 : Option Nat} {h : PH} {r : PH} (hf : fX2_fill v0 v1 v2 h = some r) : Ct E l 48 0 0 yX2_fill cX2_fill 4 (none) [.ref v0, va_rf v1, va_rf v2] h (fun v u => v = none ∧ u = r) := by
  refine ct_of hG (by decide) (by simp [lg_sl, cat_rf, cat_r, cat_i, cat_l, cat_d, cat_f]) ?_
  intro p e s m args below meth c X hnm
  rw [show pargs 0 [.ref v0, va_rf v1, va_rf v2] = [(0, some (.ref v0)), (1, some (va_rf v1)), (2, some (va_rf v2))] from by simp [pargs, cat_rf, cat_r, cat_i, cat_l, cat_d, cat_f]]
  unfold fX2_fill at hf
  refine p_aload_n X (dcg dc_X2_fill 0 rfl) rfl rfl ?_
  refine p_iconst (v := 0) X (dcg dc_X2_fill 1 rfl) (by decide) ?_
  obtain ⟨hk1, hf⟩ := gd_some hf
  refine p_putI X fl_X2_21 rfl (by decide) (fun q hq => by cases hq; rfl) rfl rfl (dcg dc_X2_fill 2 rfl) hk1 ?_
  obtain ⟨h2, rfl, hf⟩ := lt_some hf
  refine p_iconst (v := 0) X (dcg dc_X2_fill 3 rfl) (by decide) ?_
  refine p_istore_n X (dcg dc_X2_fill 4 rfl) rfl (by decide) (nwq (k := 2) rfl) ?_
  refine p_pick [0, 1, 2, 3] ?_
  exact wX2_fill_l7 X hG hnm hf 
theorem dc_X2_numberAt : decs cX2_numberAt [(0, .iload_n 1, 1), (1, .ifCond .lt 11, 3), (4, .iload_n 1, 1), (5, .aload_n 0, 1), (6, .getfield 21, 3), (9, .if_icmp .lt 7, 3), (12, .iconst (-1), 1), (13, .goto 9, 3), (16, .aload_n 0, 1), (17, .getfield 9, 3), (20, .iload_n 1, 1), (21, .iaload, 1), (22, .ireturn, 1)] = true := by decide +kernel
noncomputable def fX2_numberAt_b22 (t0 : Int32) (h : PH) : Option Int32 :=
  some (t0)
set_option maxRecDepth 100000 in
theorem wX2_numberAt_b22 {E : PE} {p : Program} {l : Launch} {e : Env} {s : State} {m : MethodId} {args : Array Value} {below : List Frame} {meth : Method} {c : Code} (X : Cx E p l e (rmv 0 0 0) s m args below meth c RX2 cX2_numberAt 2 (some .int)) (hG : Gs E l) (hnm : meth.name = yX2_numberAt.name) {t0 : Int32} {h : PH} {r : Int32} (hf : fX2_numberAt_b22 t0 h = some r)  : PW E p l e (rmv 0 0 0) s m args below meth c 2 0 0 (MQ below (QG E (fun v u => v = some (.int r) ∧ u = h)) args s 0 0 (pA E)) h 22 [] [.int t0] := by
  unfold fX2_numberAt_b22 at hf
  have er := Option.some.inj hf
  subst er
  exact p_iret X rfl (dcg dc_X2_numberAt 12 rfl) ⟨rfl, rfl⟩ (Nat.le_refl _) (Nat.le_refl _)
noncomputable def fX2_numberAt_b12  (h : PH) : Option Int32 :=
  fX2_numberAt_b22 (-1 : Int32) h
set_option maxRecDepth 100000 in
theorem wX2_numberAt_b12 {E : PE} {p : Program} {l : Launch} {e : Env} {s : State} {m : MethodId} {args : Array Value} {below : List Frame} {meth : Method} {c : Code} (X : Cx E p l e (rmv 0 0 0) s m args below meth c RX2 cX2_numberAt 2 (some .int)) (hG : Gs E l) (hnm : meth.name = yX2_numberAt.name)  {h : PH} {r : Int32} (hf : fX2_numberAt_b12  h = some r)  : PW E p l e (rmv 0 0 0) s m args below meth c 2 0 0 (MQ below (QG E (fun v u => v = some (.int r) ∧ u = h)) args s 0 0 (pA E)) h 12 [] [] := by
  unfold fX2_numberAt_b12 at hf
  refine p_iconst (v := -1) X (dcg dc_X2_numberAt 6 rfl) (by decide) ?_
  refine p_goto (tgt := 22) X (dcg dc_X2_numberAt 7 rfl) (by decide) ?_
  refine p_pick [] ?_
  exact wX2_numberAt_b22 X hG hnm hf 
noncomputable def fX2_numberAt (v0 : Nat) (v1 : Int32) (h : PH) : Option Int32 :=
  if (v1 < 0) then (fX2_numberAt_b12  h) else
  gd (hK h v0 = 2) (if (v1 < (hI h 2 v0 3)) then (gs (hR h 2 v0 0) (fun a2 =>
  gd (hK h a2 = 20 ∧ inb v1 (hN h a2)) (fX2_numberAt_b22 (hI h 20 a2 (Int32.toNatClampNeg v1)) h))) else
  fX2_numberAt_b12  h)
set_option maxRecDepth 100000 in
theorem wX2_numberAt {E : PE} {l : Launch} (hG : Gs E l) {v0 : Nat} {v1 : Int32} {h : PH} {r : Int32} (hf : fX2_numberAt v0 v1 h = some r) : Ct E l 0 0 0 yX2_numberAt cX2_numberAt 2 (some .int) [.ref v0, .int v1] h (fun v u => v = some (.int r) ∧ u = h) := by
  refine ct_of hG (by decide) (Nat.le_of_ble_eq_true rfl) ?_
  intro p e s m args below meth c X hnm
  show PW E p l e _ s m args below meth c _ 0 0 _ h 0 [(0, some (.ref v0)), (1, some (.int v1))] []
  unfold fX2_numberAt at hf
  refine p_iload_n X (dcg dc_X2_numberAt 0 rfl) rfl rfl ?_
  refine p_if_lt (tgt := 12) X (dcg dc_X2_numberAt 1 rfl) (by decide) (fun q => ?_) (fun q => ?_)
  · have hf := if_t q hf
    refine p_pick [] ?_
    exact wX2_numberAt_b12 X hG hnm hf 
  · have hf := if_f q hf
    refine p_iload_n X (dcg dc_X2_numberAt 2 rfl) rfl rfl ?_
    refine p_aload_n X (dcg dc_X2_numberAt 3 rfl) rfl rfl ?_
    obtain ⟨hk1, hf⟩ := gd_some hf
    refine p_getI X fl_X2_21 rfl (by decide) (dcg dc_X2_numberAt 4 rfl) hk1 ?_
    refine p_icmp_lt (tgt := 16) X (dcg dc_X2_numberAt 5 rfl) (by decide) (fun q => ?_) (fun q => ?_)
    · have hf := if_t q hf
      refine p_aload_n X (dcg dc_X2_numberAt 8 rfl) rfl rfl ?_
      refine p_getR X fl_X2_9 rfl (by decide) (dcg dc_X2_numberAt 9 rfl) hk1 ?_
      refine p_iload_n X (dcg dc_X2_numberAt 10 rfl) rfl rfl ?_
      obtain ⟨a2, e3, hf⟩ := gs_some hf
      first | subst e3 | (try rw [e3])
      obtain ⟨⟨hk5, hb4⟩, hf⟩ := gd_some hf
      refine p_iald X (dcg dc_X2_numberAt 11 rfl) hk5 (vp_of_inb hb4) ?_
      refine p_pick [] ?_
      exact wX2_numberAt_b22 X hG hnm hf 
    · have hf := if_f q hf
      refine p_pick [] ?_
      exact wX2_numberAt_b12 X hG hnm hf 
theorem dc_X2_rankedAt : decs cX2_rankedAt [(0, .iload_n 1, 1), (1, .ifCond .lt 11, 3), (4, .iload_n 1, 1), (5, .aload_n 0, 1), (6, .getfield 21, 3), (9, .if_icmp .lt 7, 3), (12, .iconst (-1), 1), (13, .goto 9, 3), (16, .aload_n 0, 1), (17, .getfield 15, 3), (20, .iload_n 1, 1), (21, .iaload, 1), (22, .ireturn, 1)] = true := by decide +kernel
noncomputable def fX2_rankedAt_b22 (t0 : Int32) (h : PH) : Option Int32 :=
  some (t0)
set_option maxRecDepth 100000 in
theorem wX2_rankedAt_b22 {E : PE} {p : Program} {l : Launch} {e : Env} {s : State} {m : MethodId} {args : Array Value} {below : List Frame} {meth : Method} {c : Code} (X : Cx E p l e (rmv 0 0 0) s m args below meth c RX2 cX2_rankedAt 2 (some .int)) (hG : Gs E l) (hnm : meth.name = yX2_rankedAt.name) {t0 : Int32} {h : PH} {r : Int32} (hf : fX2_rankedAt_b22 t0 h = some r)  : PW E p l e (rmv 0 0 0) s m args below meth c 2 0 0 (MQ below (QG E (fun v u => v = some (.int r) ∧ u = h)) args s 0 0 (pA E)) h 22 [] [.int t0] := by
  unfold fX2_rankedAt_b22 at hf
  have er := Option.some.inj hf
  subst er
  exact p_iret X rfl (dcg dc_X2_rankedAt 12 rfl) ⟨rfl, rfl⟩ (Nat.le_refl _) (Nat.le_refl _)
noncomputable def fX2_rankedAt_b12  (h : PH) : Option Int32 :=
  fX2_rankedAt_b22 (-1 : Int32) h
set_option maxRecDepth 100000 in
theorem wX2_rankedAt_b12 {E : PE} {p : Program} {l : Launch} {e : Env} {s : State} {m : MethodId} {args : Array Value} {below : List Frame} {meth : Method} {c : Code} (X : Cx E p l e (rmv 0 0 0) s m args below meth c RX2 cX2_rankedAt 2 (some .int)) (hG : Gs E l) (hnm : meth.name = yX2_rankedAt.name)  {h : PH} {r : Int32} (hf : fX2_rankedAt_b12  h = some r)  : PW E p l e (rmv 0 0 0) s m args below meth c 2 0 0 (MQ below (QG E (fun v u => v = some (.int r) ∧ u = h)) args s 0 0 (pA E)) h 12 [] [] := by
  unfold fX2_rankedAt_b12 at hf
  refine p_iconst (v := -1) X (dcg dc_X2_rankedAt 6 rfl) (by decide) ?_
  refine p_goto (tgt := 22) X (dcg dc_X2_rankedAt 7 rfl) (by decide) ?_
  refine p_pick [] ?_
  exact wX2_rankedAt_b22 X hG hnm hf 
noncomputable def fX2_rankedAt (v0 : Nat) (v1 : Int32) (h : PH) : Option Int32 :=
  if (v1 < 0) then (fX2_rankedAt_b12  h) else
  gd (hK h v0 = 2) (if (v1 < (hI h 2 v0 3)) then (gs (hR h 2 v0 1) (fun a2 =>
  gd (hK h a2 = 20 ∧ inb v1 (hN h a2)) (fX2_rankedAt_b22 (hI h 20 a2 (Int32.toNatClampNeg v1)) h))) else
  fX2_rankedAt_b12  h)
set_option maxRecDepth 100000 in
theorem wX2_rankedAt {E : PE} {l : Launch} (hG : Gs E l) {v0 : Nat} {v1 : Int32} {h : PH} {r : Int32} (hf : fX2_rankedAt v0 v1 h = some r) : Ct E l 0 0 0 yX2_rankedAt cX2_rankedAt 2 (some .int) [.ref v0, .int v1] h (fun v u => v = some (.int r) ∧ u = h) := by
  refine ct_of hG (by decide) (Nat.le_of_ble_eq_true rfl) ?_
  intro p e s m args below meth c X hnm
  show PW E p l e _ s m args below meth c _ 0 0 _ h 0 [(0, some (.ref v0)), (1, some (.int v1))] []
  unfold fX2_rankedAt at hf
  refine p_iload_n X (dcg dc_X2_rankedAt 0 rfl) rfl rfl ?_
  refine p_if_lt (tgt := 12) X (dcg dc_X2_rankedAt 1 rfl) (by decide) (fun q => ?_) (fun q => ?_)
  · have hf := if_t q hf
    refine p_pick [] ?_
    exact wX2_rankedAt_b12 X hG hnm hf 
  · have hf := if_f q hf
    refine p_iload_n X (dcg dc_X2_rankedAt 2 rfl) rfl rfl ?_
    refine p_aload_n X (dcg dc_X2_rankedAt 3 rfl) rfl rfl ?_
    obtain ⟨hk1, hf⟩ := gd_some hf
    refine p_getI X fl_X2_21 rfl (by decide) (dcg dc_X2_rankedAt 4 rfl) hk1 ?_
    refine p_icmp_lt (tgt := 16) X (dcg dc_X2_rankedAt 5 rfl) (by decide) (fun q => ?_) (fun q => ?_)
    · have hf := if_t q hf
      refine p_aload_n X (dcg dc_X2_rankedAt 8 rfl) rfl rfl ?_
      refine p_getR X fl_X2_15 rfl (by decide) (dcg dc_X2_rankedAt 9 rfl) hk1 ?_
      refine p_iload_n X (dcg dc_X2_rankedAt 10 rfl) rfl rfl ?_
      obtain ⟨a2, e3, hf⟩ := gs_some hf
      first | subst e3 | (try rw [e3])
      obtain ⟨⟨hk5, hb4⟩, hf⟩ := gd_some hf
      refine p_iald X (dcg dc_X2_rankedAt 11 rfl) hk5 (vp_of_inb hb4) ?_
      refine p_pick [] ?_
      exact wX2_rankedAt_b22 X hG hnm hf 
    · have hf := if_f q hf
      refine p_pick [] ?_
      exact wX2_rankedAt_b12 X hG hnm hf 
theorem dc_X2_scoreOf : decs cX2_scoreOf [(0, .iload_n 1, 1), (1, .ifCond .lt 11, 3), (4, .iload_n 1, 1), (5, .aload_n 0, 1), (6, .getfield 21, 3), (9, .if_icmp .lt 7, 3), (12, .iconst (-1), 1), (13, .goto 9, 3), (16, .aload_n 0, 1), (17, .getfield 18, 3), (20, .iload_n 1, 1), (21, .iaload, 1), (22, .ireturn, 1)] = true := by decide +kernel
noncomputable def fX2_scoreOf_b22 (t0 : Int32) (h : PH) : Option Int32 :=
  some (t0)
set_option maxRecDepth 100000 in
theorem wX2_scoreOf_b22 {E : PE} {p : Program} {l : Launch} {e : Env} {s : State} {m : MethodId} {args : Array Value} {below : List Frame} {meth : Method} {c : Code} (X : Cx E p l e (rmv 0 0 0) s m args below meth c RX2 cX2_scoreOf 2 (some .int)) (hG : Gs E l) (hnm : meth.name = yX2_scoreOf.name) {t0 : Int32} {h : PH} {r : Int32} (hf : fX2_scoreOf_b22 t0 h = some r)  : PW E p l e (rmv 0 0 0) s m args below meth c 2 0 0 (MQ below (QG E (fun v u => v = some (.int r) ∧ u = h)) args s 0 0 (pA E)) h 22 [] [.int t0] := by
  unfold fX2_scoreOf_b22 at hf
  have er := Option.some.inj hf
  subst er
  exact p_iret X rfl (dcg dc_X2_scoreOf 12 rfl) ⟨rfl, rfl⟩ (Nat.le_refl _) (Nat.le_refl _)
noncomputable def fX2_scoreOf_b12  (h : PH) : Option Int32 :=
  fX2_scoreOf_b22 (-1 : Int32) h
set_option maxRecDepth 100000 in
theorem wX2_scoreOf_b12 {E : PE} {p : Program} {l : Launch} {e : Env} {s : State} {m : MethodId} {args : Array Value} {below : List Frame} {meth : Method} {c : Code} (X : Cx E p l e (rmv 0 0 0) s m args below meth c RX2 cX2_scoreOf 2 (some .int)) (hG : Gs E l) (hnm : meth.name = yX2_scoreOf.name)  {h : PH} {r : Int32} (hf : fX2_scoreOf_b12  h = some r)  : PW E p l e (rmv 0 0 0) s m args below meth c 2 0 0 (MQ below (QG E (fun v u => v = some (.int r) ∧ u = h)) args s 0 0 (pA E)) h 12 [] [] := by
  unfold fX2_scoreOf_b12 at hf
  refine p_iconst (v := -1) X (dcg dc_X2_scoreOf 6 rfl) (by decide) ?_
  refine p_goto (tgt := 22) X (dcg dc_X2_scoreOf 7 rfl) (by decide) ?_
  refine p_pick [] ?_
  exact wX2_scoreOf_b22 X hG hnm hf 
noncomputable def fX2_scoreOf (v0 : Nat) (v1 : Int32) (h : PH) : Option Int32 :=
  if (v1 < 0) then (fX2_scoreOf_b12  h) else
  gd (hK h v0 = 2) (if (v1 < (hI h 2 v0 3)) then (gs (hR h 2 v0 2) (fun a2 =>
  gd (hK h a2 = 20 ∧ inb v1 (hN h a2)) (fX2_scoreOf_b22 (hI h 20 a2 (Int32.toNatClampNeg v1)) h))) else
  fX2_scoreOf_b12  h)
set_option maxRecDepth 100000 in
theorem wX2_scoreOf {E : PE} {l : Launch} (hG : Gs E l) {v0 : Nat} {v1 : Int32} {h : PH} {r : Int32} (hf : fX2_scoreOf v0 v1 h = some r) : Ct E l 0 0 0 yX2_scoreOf cX2_scoreOf 2 (some .int) [.ref v0, .int v1] h (fun v u => v = some (.int r) ∧ u = h) := by
  refine ct_of hG (by decide) (Nat.le_of_ble_eq_true rfl) ?_
  intro p e s m args below meth c X hnm
  show PW E p l e _ s m args below meth c _ 0 0 _ h 0 [(0, some (.ref v0)), (1, some (.int v1))] []
  unfold fX2_scoreOf at hf
  refine p_iload_n X (dcg dc_X2_scoreOf 0 rfl) rfl rfl ?_
  refine p_if_lt (tgt := 12) X (dcg dc_X2_scoreOf 1 rfl) (by decide) (fun q => ?_) (fun q => ?_)
  · have hf := if_t q hf
    refine p_pick [] ?_
    exact wX2_scoreOf_b12 X hG hnm hf 
  · have hf := if_f q hf
    refine p_iload_n X (dcg dc_X2_scoreOf 2 rfl) rfl rfl ?_
    refine p_aload_n X (dcg dc_X2_scoreOf 3 rfl) rfl rfl ?_
    obtain ⟨hk1, hf⟩ := gd_some hf
    refine p_getI X fl_X2_21 rfl (by decide) (dcg dc_X2_scoreOf 4 rfl) hk1 ?_
    refine p_icmp_lt (tgt := 16) X (dcg dc_X2_scoreOf 5 rfl) (by decide) (fun q => ?_) (fun q => ?_)
    · have hf := if_t q hf
      refine p_aload_n X (dcg dc_X2_scoreOf 8 rfl) rfl rfl ?_
      refine p_getR X fl_X2_18 rfl (by decide) (dcg dc_X2_scoreOf 9 rfl) hk1 ?_
      refine p_iload_n X (dcg dc_X2_scoreOf 10 rfl) rfl rfl ?_
      obtain ⟨a2, e3, hf⟩ := gs_some hf
      first | subst e3 | (try rw [e3])
      obtain ⟨⟨hk5, hb4⟩, hf⟩ := gd_some hf
      refine p_iald X (dcg dc_X2_scoreOf 11 rfl) hk5 (vp_of_inb hb4) ?_
      refine p_pick [] ?_
      exact wX2_scoreOf_b22 X hG hnm hf 
    · have hf := if_f q hf
      refine p_pick [] ?_
      exact wX2_scoreOf_b12 X hG hnm hf 
