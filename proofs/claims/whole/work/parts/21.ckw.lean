/-! methods of the program (by program: wip/whole/gen2.py) -/
theorem dc_X11_keep : decs cX11_keep [(0, .iload_n 1, 1), (1, .invokestatic 241, 3), (4, .aload_n 0, 1), (5, .getfield 21, 3), (8, .invokevirtual 232, 3), (11, .astore_n 2, 1), (12, .aload_n 2, 1), (13, .ifnonnull 11, 3), (16, .new 112, 3), (19, .dup, 1), (20, .invokespecial 114, 3), (23, .athrow, 1), (24, .aload_n 0, 1), (25, .iload_n 1, 1), (26, .aload_n 2, 1), (27, .invokevirtual 255, 3), (30, .ireturn, 1)] = true := by decide +kernel
noncomputable def fX11_keep_b11 (v0 : Nat) (v1 : Int32) (t0 : Option Nat) (h : PH) : Option ((Int32 × PH) ⊕ (Nat × PH)) :=
  mq t0 (some (.inr (1, h))) (fun a8 =>
  gd (hK h v0 = 11) (bd (fX11_keepQuery v0 v1 (some a8) h) (fun z10 =>
  some (.inl ((z10.1, z10.2))))))
set_option maxRecDepth 100000 in
theorem mX11_keep_b11 {v0 : Nat} {v1 : Int32} {t0 : Option Nat} {h : PH} {r : ((Int32 × PH) ⊕ (Nat × PH))} (hf : fX11_keep_b11 v0 v1 t0 h = some r) : lez h (xT2 r) (vT2 r) := by
  unfold fX11_keep_b11 at hf
  have hle := lez_rf h
  rcases mq_or hf with ⟨q, hf⟩ | ⟨a8, q, hf⟩
  · have hf := mq_n q hf
    cases hf; exact lez_up hle
  · have hk11 := mq_s q hf
    first | subst q | skip
    have hf := hk11
    obtain ⟨hk9, hf⟩ := gd_some hf
    obtain ⟨z10, hz10, hf⟩ := bd_some hf
    have hle := lez_rt (lez_eq (mX11_keepQuery hz10)) hle
    have ee := Option.some.inj hf; subst ee; exact hle
set_option maxRecDepth 100000 in
theorem wX11_keep_b11 {E : PE} {p : Program} {l : Launch} {e : Env} {s : State} {m : MethodId} {args : Array Value} {below : List Frame} {meth : Method} {c : Code} {X0 V0 MC MS uc us : Nat} (X : Cx E p l e (rmv 140 MC MS) s m args below meth c RX11 cX11_keep 3 (some .int)) (hG : Gs E l) (hex : ∀ x ∈ c.exceptionTable.toList, False) {v0 : Nat} {v1 : Int32} {t0 : Option Nat} {h : PH} {r : ((Int32 × PH) ⊕ (Nat × PH))} (hM : MC + X0 = (xT2 r)) (hN : MS + V0 = (vT2 r)) (hu : uc + X0 = hX h) (hv : us + V0 = hV h) (hf : fX11_keep_b11 v0 v1 t0 h = some r)  : PW E p l e (rmv 140 MC MS) s m args below meth c 3 uc us (vx_MQ below (QG E (fun v u => ∃ z, r = .inl z ∧ v = some (.int z.1) ∧ u = z.2)) (XG E (fun En u => ∃ (z : Nat × PH) (n : Nat), r = .inr z ∧ En = exn z.1 ∧ hX z.2 ≤ n ∧ u = hbump z.2 n)) args s MC MS (pA E)) h 11 [(0, some (.ref v0)), (1, some (.int v1))] [va_rf t0] := by
  have hm1 : lez h (xT2 r) (vT2 r) := mX11_keep_b11 hf
  have hcm : uc ≤ MC := (by have o0 := hm1.1; have o1 := hM; have o2 := hu; (try simp only [hX_sI, hX_sR, hX_sL, hX_sD, hX_sIa, hX_sRa, hV_sI, hV_sR, hV_sL, hV_sD, hV_sIa, hV_sRa, hX_new, hV_new] at o0 o1 o2 ⊢); omega)
  have hsm : us ≤ MS := (by have o0 := hm1.2; have o1 := hN; have o2 := hv; (try simp only [hX_sI, hX_sR, hX_sL, hX_sD, hX_sIa, hX_sRa, hV_sI, hV_sR, hV_sL, hV_sD, hV_sIa, hV_sRa, hX_new, hV_new] at o0 o1 o2 ⊢); omega)
  clear hm1
  unfold fX11_keep_b11 at hf
  refine p_astoreq_n X (dcg dc_X11_keep 5 rfl) rfl (by decide) rfl ?_
  refine p_aloadq_n X (dcg dc_X11_keep 6 rfl) rfl rfl ?_
  refine p_ifnonnull (tgt := 24) X (dcg dc_X11_keep 7 rfl) (by decide) (fun a8 q => ?_) (fun q => ?_)
  · have hk11 := mq_s q hf
    first | subst q | (try rw [q])
    have hf := hk11
    refine p_aload_n X (dcg dc_X11_keep 12 rfl) rfl rfl ?_
    refine p_iload_n X (dcg dc_X11_keep 13 rfl) rfl rfl ?_
    refine p_aload_n X (dcg dc_X11_keep 14 rfl) rfl rfl ?_
    obtain ⟨hk9, hf⟩ := gd_some hf
    obtain ⟨z10, hz10, hf⟩ := bd_some hf
    refine p_callV (As := [_, va_rf (some _)]) X ml_X11_255 (dcg dc_X11_keep 15 rfl) rfl rfl hk9 (wX11_keepQuery hG hz10) (by decide) (room4 (Nat.le_of_ble_eq_true rfl)) hcm hsm ?_
    rintro _ u9 ⟨rfl, e9⟩; have e9 := e9.symm; subst e9
    have hu := hu.trans (mX11_keepQuery hz10).1
    have hv := hv.trans (mX11_keepQuery hz10).2
    have er := Option.some.inj hf
    subst er
    refine p_vx ?_
    exact p_iret X rfl (dcg dc_X11_keep 16 rfl) ⟨_, rfl, rfl, rfl⟩ hcm hsm
  · have hk11 := mq_n q hf
    first | subst q | (try rw [q])
    have hf := hk11
    have er := Option.some.inj hf
    subst er
    exact p_throw0 (cls := "java/lang/IllegalArgumentException") (names := ["java/lang/RuntimeException", "java/lang/Exception"]) X hex (by decide) (by decide) tw_1180 tw_122 th_X11_114a th_X11_114b th_X11_114c th_X11_114d (dcg dc_X11_keep 8 rfl) (dcg dc_X11_keep 9 rfl) (dcg dc_X11_keep 10 rfl) (dcg dc_X11_keep 11 rfl) (Nat.le_of_ble_eq_true rfl) (Nat.le_trans (Nat.add_le_add_right (room4 (Nat.le_of_ble_eq_true rfl)) _) (Nat.le_of_ble_eq_true rfl)) (show uc + 1 ≤ MC from (by have o0 := (show MC + X0 = hX h + 1 from hM); have o1 := hu; (try simp only [hX_sI, hX_sR, hX_sL, hX_sD, hX_sIa, hX_sRa, hV_sI, hV_sR, hV_sL, hV_sD, hV_sIa, hV_sRa, hX_new, hV_new] at o0 o1 ⊢); omega)) (show us + 6 ≤ MS from (by have o0 := (show MS + V0 = hV h + 6 from hN); have o1 := hv; (try simp only [hX_sI, hX_sR, hX_sL, hX_sD, hX_sIa, hX_sRa, hV_sI, hV_sR, hV_sL, hV_sD, hV_sIa, hV_sRa, hX_new, hV_new] at o0 o1 ⊢); omega)) (show uc + 1 ≤ MC from (by have o0 := (show MC + X0 = hX h + 1 from hM); have o1 := hu; (try simp only [hX_sI, hX_sR, hX_sL, hX_sD, hX_sIa, hX_sRa, hV_sI, hV_sR, hV_sL, hV_sD, hV_sIa, hV_sRa, hX_new, hV_new] at o0 o1 ⊢); omega)) (show us + 6 ≤ MS from (by have o0 := (show MS + V0 = hV h + 6 from hN); have o1 := hv; (try simp only [hX_sI, hX_sR, hX_sL, hX_sD, hX_sIa, hX_sRa, hV_sI, hV_sR, hV_sL, hV_sD, hV_sIa, hV_sRa, hX_new, hV_new] at o0 o1 ⊢); omega)) (fun n hn => ⟨_, n, rfl, rfl, hn, rfl⟩)
noncomputable def fX11_keep_b4 (v0 : Nat) (v1 : Int32) (h : PH) : Option ((Int32 × PH) ⊕ (Nat × PH)) :=
  gd (hK h v0 = 11) (gs (hR h 11 v0 1) (fun a4 =>
  gd (hK h a4 = 6) (bd (fX6_takeQuery a4 h) (fun z7 =>
  fX11_keep_b11 v0 v1 z7.1 z7.2))))
set_option maxRecDepth 100000 in
theorem mX11_keep_b4 {v0 : Nat} {v1 : Int32} {h : PH} {r : ((Int32 × PH) ⊕ (Nat × PH))} (hf : fX11_keep_b4 v0 v1 h = some r) : lez h (xT2 r) (vT2 r) := by
  unfold fX11_keep_b4 at hf
  have hle := lez_rf h
  obtain ⟨hk3, hf⟩ := gd_some hf
  obtain ⟨a4, e5, hf⟩ := gs_some hf
  obtain ⟨hk6, hf⟩ := gd_some hf
  obtain ⟨z7, hz7, hf⟩ := bd_some hf
  have hle := lez_rt (mX6_takeQuery hz7) hle
  exact lez_rt (mX11_keep_b11 hf) hle
set_option maxRecDepth 100000 in
theorem wX11_keep_b4 {E : PE} {p : Program} {l : Launch} {e : Env} {s : State} {m : MethodId} {args : Array Value} {below : List Frame} {meth : Method} {c : Code} {X0 V0 MC MS uc us : Nat} (X : Cx E p l e (rmv 140 MC MS) s m args below meth c RX11 cX11_keep 3 (some .int)) (hG : Gs E l) (hex : ∀ x ∈ c.exceptionTable.toList, False) {v0 : Nat} {v1 : Int32} {h : PH} {r : ((Int32 × PH) ⊕ (Nat × PH))} (hM : MC + X0 = (xT2 r)) (hN : MS + V0 = (vT2 r)) (hu : uc + X0 = hX h) (hv : us + V0 = hV h) (hf : fX11_keep_b4 v0 v1 h = some r)  : PW E p l e (rmv 140 MC MS) s m args below meth c 3 uc us (vx_MQ below (QG E (fun v u => ∃ z, r = .inl z ∧ v = some (.int z.1) ∧ u = z.2)) (XG E (fun En u => ∃ (z : Nat × PH) (n : Nat), r = .inr z ∧ En = exn z.1 ∧ hX z.2 ≤ n ∧ u = hbump z.2 n)) args s MC MS (pA E)) h 4 [(0, some (.ref v0)), (1, some (.int v1))] [] := by
  have hm1 : lez h (xT2 r) (vT2 r) := mX11_keep_b4 hf
  have hcm : uc ≤ MC := (by have o0 := hm1.1; have o1 := hM; have o2 := hu; (try simp only [hX_sI, hX_sR, hX_sL, hX_sD, hX_sIa, hX_sRa, hV_sI, hV_sR, hV_sL, hV_sD, hV_sIa, hV_sRa, hX_new, hV_new] at o0 o1 o2 ⊢); omega)
  have hsm : us ≤ MS := (by have o0 := hm1.2; have o1 := hN; have o2 := hv; (try simp only [hX_sI, hX_sR, hX_sL, hX_sD, hX_sIa, hX_sRa, hV_sI, hV_sR, hV_sL, hV_sD, hV_sIa, hV_sRa, hX_new, hV_new] at o0 o1 o2 ⊢); omega)
  clear hm1
  unfold fX11_keep_b4 at hf
  refine p_aload_n X (dcg dc_X11_keep 2 rfl) rfl rfl ?_
  obtain ⟨hk3, hf⟩ := gd_some hf
  refine p_getR X fl_X11_21 rfl (by decide) (dcg dc_X11_keep 3 rfl) hk3 ?_
  obtain ⟨a4, e5, hf⟩ := gs_some hf
  first | subst e5 | (try rw [e5])
  obtain ⟨hk6, hf⟩ := gd_some hf
  obtain ⟨z7, hz7, hf⟩ := bd_some hf
  have hc1 := mX6_takeQuery hz7
  have hm1 : lez _ (xT2 r) (vT2 r) := mX11_keep_b11 hf
  refine p_callV (As := []) X ml_X11_232 (dcg dc_X11_keep 4 rfl) rfl rfl hk6 (wX6_takeQuery hG hz7) (by decide) (room4 (Nat.le_of_ble_eq_true rfl)) (by have o0 := hm1.1; have o1 := hc1.1; have o2 := hM; have o3 := hu; (try simp only [hX_sI, hX_sR, hX_sL, hX_sD, hX_sIa, hX_sRa, hV_sI, hV_sR, hV_sL, hV_sD, hV_sIa, hV_sRa, hX_new, hV_new] at o0 o1 o2 o3 ⊢); omega) (by have o0 := hm1.2; have o1 := hc1.2; have o2 := hN; have o3 := hv; (try simp only [hX_sI, hX_sR, hX_sL, hX_sD, hX_sIa, hX_sRa, hV_sI, hV_sR, hV_sL, hV_sD, hV_sIa, hV_sRa, hX_new, hV_new] at o0 o1 o2 o3 ⊢); omega) ?_
  rintro _ u9 ⟨rfl, e9⟩; have e9 := e9.symm; subst e9
  refine p_pick [0, 1] ?_
  exact wX11_keep_b11 X hG hex hM hN (by have o0 := hc1.1; have o1 := hu; (try simp only [hX_sI, hX_sR, hX_sL, hX_sD, hX_sIa, hX_sRa, hV_sI, hV_sR, hV_sL, hV_sD, hV_sIa, hV_sRa, hX_new, hV_new] at o0 o1 ⊢); omega) (by have o0 := hc1.2; have o1 := hv; (try simp only [hX_sI, hX_sR, hX_sL, hX_sD, hX_sIa, hX_sRa, hV_sI, hV_sR, hV_sL, hV_sD, hV_sIa, hV_sRa, hX_new, hV_new] at o0 o1 ⊢); omega) hf 
noncomputable def fX11_keep_b0 (v0 : Nat) (v1 : Int32) (h : PH) : Option ((Int32 × PH) ⊕ (Nat × PH)) :=
  bx (fX11_demandKeptPlace v1 h) (fun z1 =>
  fX11_keep_b4 v0 v1 z1)
set_option maxRecDepth 100000 in
theorem mX11_keep_b0 {v0 : Nat} {v1 : Int32} {h : PH} {r : ((Int32 × PH) ⊕ (Nat × PH))} (hf : fX11_keep_b0 v0 v1 h = some r) : lez h (xT2 r) (vT2 r) := by
  unfold fX11_keep_b0 at hf
  have hle := lez_rf h
  obtain ⟨y2, hy2, h1y2, h2y2⟩ := bx_some hf
  have hc1 := mX11_demandKeptPlace hy2
  rcases y2 with z1 | z1
  · have hf := h1y2 z1 rfl
    have hle : lez h (hX z1) (hV z1) := lez_rt hc1 hle
    exact lez_rt (mX11_keep_b4 hf) hle
  · have hr9 := h2y2 z1 rfl
    subst hr9
    exact lez_rt hc1 hle
set_option maxRecDepth 100000 in
theorem wX11_keep_b0 {E : PE} {p : Program} {l : Launch} {e : Env} {s : State} {m : MethodId} {args : Array Value} {below : List Frame} {meth : Method} {c : Code} {X0 V0 MC MS uc us : Nat} (X : Cx E p l e (rmv 140 MC MS) s m args below meth c RX11 cX11_keep 3 (some .int)) (hG : Gs E l) (hex : ∀ x ∈ c.exceptionTable.toList, False) {v0 : Nat} {v1 : Int32} {h : PH} {r : ((Int32 × PH) ⊕ (Nat × PH))} (hM : MC + X0 = (xT2 r)) (hN : MS + V0 = (vT2 r)) (hu : uc + X0 = hX h) (hv : us + V0 = hV h) (hf : fX11_keep_b0 v0 v1 h = some r)  : PW E p l e (rmv 140 MC MS) s m args below meth c 3 uc us (vx_MQ below (QG E (fun v u => ∃ z, r = .inl z ∧ v = some (.int z.1) ∧ u = z.2)) (XG E (fun En u => ∃ (z : Nat × PH) (n : Nat), r = .inr z ∧ En = exn z.1 ∧ hX z.2 ≤ n ∧ u = hbump z.2 n)) args s MC MS (pA E)) h 0 [(0, some (.ref v0)), (1, some (.int v1))] [] := by
  have hm1 : lez h (xT2 r) (vT2 r) := mX11_keep_b0 hf
  have hcm : uc ≤ MC := (by have o0 := hm1.1; have o1 := hM; have o2 := hu; (try simp only [hX_sI, hX_sR, hX_sL, hX_sD, hX_sIa, hX_sRa, hV_sI, hV_sR, hV_sL, hV_sD, hV_sIa, hV_sRa, hX_new, hV_new] at o0 o1 o2 ⊢); omega)
  have hsm : us ≤ MS := (by have o0 := hm1.2; have o1 := hN; have o2 := hv; (try simp only [hX_sI, hX_sR, hX_sL, hX_sD, hX_sIa, hX_sRa, hV_sI, hV_sR, hV_sL, hV_sD, hV_sIa, hV_sRa, hX_new, hV_new] at o0 o1 o2 ⊢); omega)
  clear hm1
  unfold fX11_keep_b0 at hf
  refine p_iload_n X (dcg dc_X11_keep 0 rfl) rfl rfl ?_
  obtain ⟨y2, hy2, h1y2, h2y2⟩ := bx_some hf
  have hc1 := mX11_demandKeptPlace hy2
  rcases y2 with z1 | z1
  · have hf := h1y2 z1 rfl
    have hm1 : lez _ (xT2 r) (vT2 r) := mX11_keep_b4 hf
    refine p_callSX (As := [_]) X hex ml_X11_241 (dcg dc_X11_keep 1 rfl) rfl rfl  (wX11_demandKeptPlace hG hy2) (by decide) (room4 (Nat.le_of_ble_eq_true rfl)) (show uc + (hX z1 - hX h) ≤ MC from (by have o0 := hm1.1; have o1 := (show lez h (hX z1) (hV z1) from hc1).1; have o2 := hM; have o3 := hu; (try simp only [hX_sI, hX_sR, hX_sL, hX_sD, hX_sIa, hX_sRa, hV_sI, hV_sR, hV_sL, hV_sD, hV_sIa, hV_sRa, hX_new, hV_new] at o0 o1 o2 o3 ⊢); omega)) (show us + (hV z1 - hV h) ≤ MS from (by have o0 := hm1.2; have o1 := (show lez h (hX z1) (hV z1) from hc1).2; have o2 := hN; have o3 := hv; (try simp only [hX_sI, hX_sR, hX_sL, hX_sD, hX_sIa, hX_sRa, hV_sI, hV_sR, hV_sL, hV_sD, hV_sIa, hV_sRa, hX_new, hV_new] at o0 o1 o2 o3 ⊢); omega)) (show uc + (hX z1 - hX h) ≤ MC from (by have o0 := hm1.1; have o1 := (show lez h (hX z1) (hV z1) from hc1).1; have o2 := hM; have o3 := hu; (try simp only [hX_sI, hX_sR, hX_sL, hX_sD, hX_sIa, hX_sRa, hV_sI, hV_sR, hV_sL, hV_sD, hV_sIa, hV_sRa, hX_new, hV_new] at o0 o1 o2 o3 ⊢); omega)) (show us + (hV z1 - hV h) ≤ MS from (by have o0 := hm1.2; have o1 := (show lez h (hX z1) (hV z1) from hc1).2; have o2 := hN; have o3 := hv; (try simp only [hX_sI, hX_sR, hX_sL, hX_sD, hX_sIa, hX_sRa, hV_sI, hV_sR, hV_sL, hV_sD, hV_sIa, hV_sRa, hX_new, hV_new] at o0 o1 o2 o3 ⊢); omega)) (fun En u q => by obtain ⟨z9, n9, q9, _⟩ := q; cases q9) ?_
    rintro _ _ ⟨z9, hz9, rfl, rfl⟩
    cases hz9
    refine p_pick [0, 1] ?_
    exact wX11_keep_b4 X hG hex hM hN (show uc + (hX z1 - hX h) + X0 = hX z1 from (by have o0 := (show lez h (hX z1) (hV z1) from hc1).1; have o1 := hu; (try simp only [hX_sI, hX_sR, hX_sL, hX_sD, hX_sIa, hX_sRa, hV_sI, hV_sR, hV_sL, hV_sD, hV_sIa, hV_sRa, hX_new, hV_new] at o0 o1 ⊢); omega)) (show us + (hV z1 - hV h) + V0 = hV z1 from (by have o0 := (show lez h (hX z1) (hV z1) from hc1).2; have o1 := hv; (try simp only [hX_sI, hX_sR, hX_sL, hX_sD, hX_sIa, hX_sRa, hV_sI, hV_sR, hV_sL, hV_sD, hV_sIa, hV_sRa, hX_new, hV_new] at o0 o1 ⊢); omega)) hf 
  · have hr9 := h2y2 z1 rfl
    subst hr9
    refine p_callSX (As := [_]) X hex ml_X11_241 (dcg dc_X11_keep 1 rfl) rfl rfl  (wX11_demandKeptPlace hG hy2) (by decide) (room4 (Nat.le_of_ble_eq_true rfl)) (show uc + (hX z1.2 + 1 - hX h) ≤ MC from (by have o0 := (show lez h (hX z1.2 + 1) (hV z1.2 + 6) from hc1).1; have o1 := (show MC + X0 = hX z1.2 + 1 from hM); have o2 := hu; (try simp only [hX_sI, hX_sR, hX_sL, hX_sD, hX_sIa, hX_sRa, hV_sI, hV_sR, hV_sL, hV_sD, hV_sIa, hV_sRa, hX_new, hV_new] at o0 o1 o2 ⊢); omega)) (show us + (hV z1.2 + 6 - hV h) ≤ MS from (by have o0 := (show lez h (hX z1.2 + 1) (hV z1.2 + 6) from hc1).2; have o1 := (show MS + V0 = hV z1.2 + 6 from hN); have o2 := hv; (try simp only [hX_sI, hX_sR, hX_sL, hX_sD, hX_sIa, hX_sRa, hV_sI, hV_sR, hV_sL, hV_sD, hV_sIa, hV_sRa, hX_new, hV_new] at o0 o1 o2 ⊢); omega)) (show uc + (hX z1.2 + 1 - hX h) ≤ MC from (by have o0 := (show lez h (hX z1.2 + 1) (hV z1.2 + 6) from hc1).1; have o1 := (show MC + X0 = hX z1.2 + 1 from hM); have o2 := hu; (try simp only [hX_sI, hX_sR, hX_sL, hX_sD, hX_sIa, hX_sRa, hV_sI, hV_sR, hV_sL, hV_sD, hV_sIa, hV_sRa, hX_new, hV_new] at o0 o1 o2 ⊢); omega)) (show us + (hV z1.2 + 6 - hV h) ≤ MS from (by have o0 := (show lez h (hX z1.2 + 1) (hV z1.2 + 6) from hc1).2; have o1 := (show MS + V0 = hV z1.2 + 6 from hN); have o2 := hv; (try simp only [hX_sI, hX_sR, hX_sL, hX_sD, hX_sIa, hX_sRa, hV_sI, hV_sR, hV_sL, hV_sD, hV_sIa, hV_sRa, hX_new, hV_new] at o0 o1 o2 ⊢); omega)) (fun En u q => by obtain ⟨z9, n9, q9, q8⟩ := q; cases q9; exact ⟨_, n9, rfl, q8⟩) ?_
    rintro _ _ ⟨z9, hz9, _⟩
    cases hz9
noncomputable def fX11_keep (v0 : Nat) (v1 : Int32) (h : PH) : Option ((Int32 × PH) ⊕ (Nat × PH)) :=
  fX11_keep_b0 v0 v1 h
set_option maxRecDepth 100000 in
theorem mX11_keep {v0 : Nat} {v1 : Int32} {h : PH} {r : ((Int32 × PH) ⊕ (Nat × PH))} (hf : fX11_keep v0 v1 h = some r) : lez h (xT2 r) (vT2 r) := by
  unfold fX11_keep at hf
  have hle := lez_rf h
  exact lez_rt (mX11_keep_b0 hf) hle
set_option maxRecDepth 100000 in
theorem wX11_keep {E : PE} {l : Launch} (hG : Gs E l) {v0 : Nat} {v1 : Int32} {h : PH} {r : ((Int32 × PH) ⊕ (Nat × PH))} (hf : fX11_keep v0 v1 h = some r) : CtX E l 140 ((xT2 r) - hX h) ((vT2 r) - hV h) yX11_keep cX11_keep 3 (some .int) [.ref v0, .int v1] h (fun v u => ∃ z, r = .inl z ∧ v = some (.int z.1) ∧ u = z.2) (fun En u => ∃ (z : Nat × PH) (n : Nat), r = .inr z ∧ En = exn z.1 ∧ hX z.2 ≤ n ∧ u = hbump z.2 n) := by
  have hmm := mX11_keep hf
  refine ctx_of hG (by decide) (Nat.le_of_ble_eq_true rfl) ?_
  intro p e s m args below meth c X hex
  show PW E p l e _ s m args below meth c _ 0 0 _ h 0 [(0, some (.ref v0)), (1, some (.int v1))] []
  unfold fX11_keep at hf
  have hM := Nat.sub_add_cancel hmm.1
  have hN := Nat.sub_add_cancel hmm.2
  refine p_pick [0, 1] ?_
  exact wX11_keep_b0 X hG hex hM hN (Nat.zero_add _) (Nat.zero_add _) hf
theorem dc_X11_keepNot : decs cX11_keepNot [(0, .iload_n 1, 1), (1, .invokestatic 241, 3), (4, .iload_n 2, 1), (5, .invokestatic 241, 3), (8, .aload_n 0, 1), (9, .iload_n 1, 1), (10, .aload_n 0, 1), (11, .iload_n 2, 1), (12, .invokevirtual 244, 3), (15, .iconst 0, 1), (16, .invokestatic 259, 3), (19, .invokevirtual 255, 3), (22, .ireturn, 1)] = true := by decide +kernel
noncomputable def fX11_keepNot_b19 (t0 : Nat) (t1 : Int32) (t2 : Option Nat) (h : PH) : Option ((Int32 × PH) ⊕ (Nat × PH)) :=
  gd (hK h t0 = 11) (bd (fX11_keepQuery t0 t1 t2 h) (fun z10 =>
  some (.inl ((z10.1, z10.2)))))
set_option maxRecDepth 100000 in
theorem mX11_keepNot_b19 {t0 : Nat} {t1 : Int32} {t2 : Option Nat} {h : PH} {r : ((Int32 × PH) ⊕ (Nat × PH))} (hf : fX11_keepNot_b19 t0 t1 t2 h = some r) : lez h (xT2 r) (vT2 r) := by
  unfold fX11_keepNot_b19 at hf
  have hle := lez_rf h
  obtain ⟨hk9, hf⟩ := gd_some hf
  obtain ⟨z10, hz10, hf⟩ := bd_some hf
  have hle := lez_rt (lez_eq (mX11_keepQuery hz10)) hle
  have ee := Option.some.inj hf; subst ee; exact hle
set_option maxRecDepth 100000 in
theorem wX11_keepNot_b19 {E : PE} {p : Program} {l : Launch} {e : Env} {s : State} {m : MethodId} {args : Array Value} {below : List Frame} {meth : Method} {c : Code} {X0 V0 MC MS uc us : Nat} (X : Cx E p l e (rmv 53 MC MS) s m args below meth c RX11 cX11_keepNot 3 (some .int)) (hG : Gs E l) (hex : ∀ x ∈ c.exceptionTable.toList, False) {t0 : Nat} {t1 : Int32} {t2 : Option Nat} {h : PH} {r : ((Int32 × PH) ⊕ (Nat × PH))} (hM : MC + X0 = (xT2 r)) (hN : MS + V0 = (vT2 r)) (hu : uc + X0 = hX h) (hv : us + V0 = hV h) (hf : fX11_keepNot_b19 t0 t1 t2 h = some r)  : PW E p l e (rmv 53 MC MS) s m args below meth c 3 uc us (vx_MQ below (QG E (fun v u => ∃ z, r = .inl z ∧ v = some (.int z.1) ∧ u = z.2)) (XG E (fun En u => ∃ (z : Nat × PH) (n : Nat), r = .inr z ∧ En = exn z.1 ∧ hX z.2 ≤ n ∧ u = hbump z.2 n)) args s MC MS (pA E)) h 19 [] [va_rf t2, .int t1, .ref t0] := by
  have hm1 : lez h (xT2 r) (vT2 r) := mX11_keepNot_b19 hf
  have hcm : uc ≤ MC := (by have o0 := hm1.1; have o1 := hM; have o2 := hu; (try simp only [hX_sI, hX_sR, hX_sL, hX_sD, hX_sIa, hX_sRa, hV_sI, hV_sR, hV_sL, hV_sD, hV_sIa, hV_sRa, hX_new, hV_new] at o0 o1 o2 ⊢); omega)
  have hsm : us ≤ MS := (by have o0 := hm1.2; have o1 := hN; have o2 := hv; (try simp only [hX_sI, hX_sR, hX_sL, hX_sD, hX_sIa, hX_sRa, hV_sI, hV_sR, hV_sL, hV_sD, hV_sIa, hV_sRa, hX_new, hV_new] at o0 o1 o2 ⊢); omega)
  clear hm1
  unfold fX11_keepNot_b19 at hf
  obtain ⟨hk9, hf⟩ := gd_some hf
  obtain ⟨z10, hz10, hf⟩ := bd_some hf
  refine p_callV (As := [_, va_rf _]) X ml_X11_255 (dcg dc_X11_keepNot 11 rfl) rfl rfl hk9 (wX11_keepQuery hG hz10) (by decide) (room4 (Nat.le_of_ble_eq_true rfl)) hcm hsm ?_
  rintro _ u9 ⟨rfl, e9⟩; have e9 := e9.symm; subst e9
  have hu := hu.trans (mX11_keepQuery hz10).1
  have hv := hv.trans (mX11_keepQuery hz10).2
  have er := Option.some.inj hf
  subst er
  refine p_vx ?_
  exact p_iret X rfl (dcg dc_X11_keepNot 12 rfl) ⟨_, rfl, rfl, rfl⟩ hcm hsm
noncomputable def fX11_keepNot_b15 (t0 : Nat) (t1 : Int32) (t2 : Option Nat) (h : PH) : Option ((Int32 × PH) ⊕ (Nat × PH)) :=
  bd (fX4_negated t2 (0 : Int32) h) (fun z8 =>
  fX11_keepNot_b19 t0 t1 z8.1 z8.2)
set_option maxRecDepth 100000 in
theorem mX11_keepNot_b15 {t0 : Nat} {t1 : Int32} {t2 : Option Nat} {h : PH} {r : ((Int32 × PH) ⊕ (Nat × PH))} (hf : fX11_keepNot_b15 t0 t1 t2 h = some r) : lez h (xT2 r) (vT2 r) := by
  unfold fX11_keepNot_b15 at hf
  have hle := lez_rf h
  obtain ⟨z8, hz8, hf⟩ := bd_some hf
  have hle := lez_rt (mX4_negated hz8) hle
  exact lez_rt (mX11_keepNot_b19 hf) hle
set_option maxRecDepth 100000 in
theorem wX11_keepNot_b15 {E : PE} {p : Program} {l : Launch} {e : Env} {s : State} {m : MethodId} {args : Array Value} {below : List Frame} {meth : Method} {c : Code} {X0 V0 MC MS uc us : Nat} (X : Cx E p l e (rmv 53 MC MS) s m args below meth c RX11 cX11_keepNot 3 (some .int)) (hG : Gs E l) (hex : ∀ x ∈ c.exceptionTable.toList, False) {t0 : Nat} {t1 : Int32} {t2 : Option Nat} {h : PH} {r : ((Int32 × PH) ⊕ (Nat × PH))} (hM : MC + X0 = (xT2 r)) (hN : MS + V0 = (vT2 r)) (hu : uc + X0 = hX h) (hv : us + V0 = hV h) (hf : fX11_keepNot_b15 t0 t1 t2 h = some r)  : PW E p l e (rmv 53 MC MS) s m args below meth c 3 uc us (vx_MQ below (QG E (fun v u => ∃ z, r = .inl z ∧ v = some (.int z.1) ∧ u = z.2)) (XG E (fun En u => ∃ (z : Nat × PH) (n : Nat), r = .inr z ∧ En = exn z.1 ∧ hX z.2 ≤ n ∧ u = hbump z.2 n)) args s MC MS (pA E)) h 15 [] [va_rf t2, .int t1, .ref t0] := by
  have hm1 : lez h (xT2 r) (vT2 r) := mX11_keepNot_b15 hf
  have hcm : uc ≤ MC := (by have o0 := hm1.1; have o1 := hM; have o2 := hu; (try simp only [hX_sI, hX_sR, hX_sL, hX_sD, hX_sIa, hX_sRa, hV_sI, hV_sR, hV_sL, hV_sD, hV_sIa, hV_sRa, hX_new, hV_new] at o0 o1 o2 ⊢); omega)
  have hsm : us ≤ MS := (by have o0 := hm1.2; have o1 := hN; have o2 := hv; (try simp only [hX_sI, hX_sR, hX_sL, hX_sD, hX_sIa, hX_sRa, hV_sI, hV_sR, hV_sL, hV_sD, hV_sIa, hV_sRa, hX_new, hV_new] at o0 o1 o2 ⊢); omega)
  clear hm1
  unfold fX11_keepNot_b15 at hf
  refine p_iconst (v := 0) X (dcg dc_X11_keepNot 9 rfl) (by decide) ?_
  obtain ⟨z8, hz8, hf⟩ := bd_some hf
  have hc1 := mX4_negated hz8
  have hm1 : lez _ (xT2 r) (vT2 r) := mX11_keepNot_b19 hf
  refine p_callSn (As := [va_rf _, _]) X ml_X11_259 (dcg dc_X11_keepNot 10 rfl) rfl rfl  (wX4_negated hG hz8) (by decide) (room4 (Nat.le_of_ble_eq_true rfl)) (by have o0 := hm1.1; have o1 := hc1.1; have o2 := hM; have o3 := hu; (try simp only [hX_sI, hX_sR, hX_sL, hX_sD, hX_sIa, hX_sRa, hV_sI, hV_sR, hV_sL, hV_sD, hV_sIa, hV_sRa, hX_new, hV_new] at o0 o1 o2 o3 ⊢); omega) (by have o0 := hm1.2; have o1 := hc1.2; have o2 := hN; have o3 := hv; (try simp only [hX_sI, hX_sR, hX_sL, hX_sD, hX_sIa, hX_sRa, hV_sI, hV_sR, hV_sL, hV_sD, hV_sIa, hV_sRa, hX_new, hV_new] at o0 o1 o2 o3 ⊢); omega) ?_
  rintro _ u9 ⟨rfl, e9⟩; have e9 := e9.symm; subst e9
  refine p_pick [] ?_
  exact wX11_keepNot_b19 X hG hex hM hN (by have o0 := hc1.1; have o1 := hu; (try simp only [hX_sI, hX_sR, hX_sL, hX_sD, hX_sIa, hX_sRa, hV_sI, hV_sR, hV_sL, hV_sD, hV_sIa, hV_sRa, hX_new, hV_new] at o0 o1 ⊢); omega) (by have o0 := hc1.2; have o1 := hv; (try simp only [hX_sI, hX_sR, hX_sL, hX_sD, hX_sIa, hX_sRa, hV_sI, hV_sR, hV_sL, hV_sD, hV_sIa, hV_sRa, hX_new, hV_new] at o0 o1 ⊢); omega) hf 
noncomputable def fX11_keepNot_b8 (v0 : Nat) (v1 : Int32) (v2 : Int32) (h : PH) : Option ((Int32 × PH) ⊕ (Nat × PH)) :=
  gd (hK h v0 = 11) (bx (fX11_demandKept v0 v2 h) (fun z6 =>
  fX11_keepNot_b15 v0 v1 z6.1 z6.2))
set_option maxRecDepth 100000 in
theorem mX11_keepNot_b8 {v0 : Nat} {v1 : Int32} {v2 : Int32} {h : PH} {r : ((Int32 × PH) ⊕ (Nat × PH))} (hf : fX11_keepNot_b8 v0 v1 v2 h = some r) : lez h (xT2 r) (vT2 r) := by
  unfold fX11_keepNot_b8 at hf
  have hle := lez_rf h
  obtain ⟨hk5, hf⟩ := gd_some hf
  obtain ⟨y7, hy7, h1y7, h2y7⟩ := bx_some hf
  have hc1 := mX11_demandKept hy7
  rcases y7 with z6 | z6
  · have hf := h1y7 z6 rfl
    have hle : lez h (hX z6.2) (hV z6.2) := lez_rt hc1 hle
    exact lez_rt (mX11_keepNot_b15 hf) hle
  · have hr9 := h2y7 z6 rfl
    subst hr9
    exact lez_rt hc1 hle
set_option maxRecDepth 100000 in
theorem wX11_keepNot_b8 {E : PE} {p : Program} {l : Launch} {e : Env} {s : State} {m : MethodId} {args : Array Value} {below : List Frame} {meth : Method} {c : Code} {X0 V0 MC MS uc us : Nat} (X : Cx E p l e (rmv 53 MC MS) s m args below meth c RX11 cX11_keepNot 3 (some .int)) (hG : Gs E l) (hex : ∀ x ∈ c.exceptionTable.toList, False) {v0 : Nat} {v1 : Int32} {v2 : Int32} {h : PH} {r : ((Int32 × PH) ⊕ (Nat × PH))} (hM : MC + X0 = (xT2 r)) (hN : MS + V0 = (vT2 r)) (hu : uc + X0 = hX h) (hv : us + V0 = hV h) (hf : fX11_keepNot_b8 v0 v1 v2 h = some r)  : PW E p l e (rmv 53 MC MS) s m args below meth c 3 uc us (vx_MQ below (QG E (fun v u => ∃ z, r = .inl z ∧ v = some (.int z.1) ∧ u = z.2)) (XG E (fun En u => ∃ (z : Nat × PH) (n : Nat), r = .inr z ∧ En = exn z.1 ∧ hX z.2 ≤ n ∧ u = hbump z.2 n)) args s MC MS (pA E)) h 8 [(0, some (.ref v0)), (1, some (.int v1)), (2, some (.int v2))] [] := by
  have hm1 : lez h (xT2 r) (vT2 r) := mX11_keepNot_b8 hf
  have hcm : uc ≤ MC := (by have o0 := hm1.1; have o1 := hM; have o2 := hu; (try simp only [hX_sI, hX_sR, hX_sL, hX_sD, hX_sIa, hX_sRa, hV_sI, hV_sR, hV_sL, hV_sD, hV_sIa, hV_sRa, hX_new, hV_new] at o0 o1 o2 ⊢); omega)
  have hsm : us ≤ MS := (by have o0 := hm1.2; have o1 := hN; have o2 := hv; (try simp only [hX_sI, hX_sR, hX_sL, hX_sD, hX_sIa, hX_sRa, hV_sI, hV_sR, hV_sL, hV_sD, hV_sIa, hV_sRa, hX_new, hV_new] at o0 o1 o2 ⊢); omega)
  clear hm1
  unfold fX11_keepNot_b8 at hf
  refine p_aload_n X (dcg dc_X11_keepNot 4 rfl) rfl rfl ?_
  refine p_iload_n X (dcg dc_X11_keepNot 5 rfl) rfl rfl ?_
  refine p_aload_n X (dcg dc_X11_keepNot 6 rfl) rfl rfl ?_
  refine p_iload_n X (dcg dc_X11_keepNot 7 rfl) rfl rfl ?_
  obtain ⟨hk5, hf⟩ := gd_some hf
  obtain ⟨y7, hy7, h1y7, h2y7⟩ := bx_some hf
  have hc1 := mX11_demandKept hy7
  rcases y7 with z6 | z6
  · have hf := h1y7 z6 rfl
    have hm1 : lez _ (xT2 r) (vT2 r) := mX11_keepNot_b15 hf
    refine p_callVX (As := [_]) X hex ml_X11_244 (dcg dc_X11_keepNot 8 rfl) rfl rfl hk5 (wX11_demandKept hG hy7) (by decide) (room4 (Nat.le_of_ble_eq_true rfl)) (show uc + (hX z6.2 - hX h) ≤ MC from (by have o0 := hm1.1; have o1 := (show lez h (hX z6.2) (hV z6.2) from hc1).1; have o2 := hM; have o3 := hu; (try simp only [hX_sI, hX_sR, hX_sL, hX_sD, hX_sIa, hX_sRa, hV_sI, hV_sR, hV_sL, hV_sD, hV_sIa, hV_sRa, hX_new, hV_new] at o0 o1 o2 o3 ⊢); omega)) (show us + (hV z6.2 - hV h) ≤ MS from (by have o0 := hm1.2; have o1 := (show lez h (hX z6.2) (hV z6.2) from hc1).2; have o2 := hN; have o3 := hv; (try simp only [hX_sI, hX_sR, hX_sL, hX_sD, hX_sIa, hX_sRa, hV_sI, hV_sR, hV_sL, hV_sD, hV_sIa, hV_sRa, hX_new, hV_new] at o0 o1 o2 o3 ⊢); omega)) (show uc + (hX z6.2 - hX h) ≤ MC from (by have o0 := hm1.1; have o1 := (show lez h (hX z6.2) (hV z6.2) from hc1).1; have o2 := hM; have o3 := hu; (try simp only [hX_sI, hX_sR, hX_sL, hX_sD, hX_sIa, hX_sRa, hV_sI, hV_sR, hV_sL, hV_sD, hV_sIa, hV_sRa, hX_new, hV_new] at o0 o1 o2 o3 ⊢); omega)) (show us + (hV z6.2 - hV h) ≤ MS from (by have o0 := hm1.2; have o1 := (show lez h (hX z6.2) (hV z6.2) from hc1).2; have o2 := hN; have o3 := hv; (try simp only [hX_sI, hX_sR, hX_sL, hX_sD, hX_sIa, hX_sRa, hV_sI, hV_sR, hV_sL, hV_sD, hV_sIa, hV_sRa, hX_new, hV_new] at o0 o1 o2 o3 ⊢); omega)) (fun En u q => by obtain ⟨z9, n9, q9, _⟩ := q; cases q9) ?_
    rintro _ _ ⟨z9, hz9, rfl, rfl⟩
    cases hz9
    refine p_pick [] ?_
    exact wX11_keepNot_b15 X hG hex hM hN (show uc + (hX z6.2 - hX h) + X0 = hX z6.2 from (by have o0 := (show lez h (hX z6.2) (hV z6.2) from hc1).1; have o1 := hu; (try simp only [hX_sI, hX_sR, hX_sL, hX_sD, hX_sIa, hX_sRa, hV_sI, hV_sR, hV_sL, hV_sD, hV_sIa, hV_sRa, hX_new, hV_new] at o0 o1 ⊢); omega)) (show us + (hV z6.2 - hV h) + V0 = hV z6.2 from (by have o0 := (show lez h (hX z6.2) (hV z6.2) from hc1).2; have o1 := hv; (try simp only [hX_sI, hX_sR, hX_sL, hX_sD, hX_sIa, hX_sRa, hV_sI, hV_sR, hV_sL, hV_sD, hV_sIa, hV_sRa, hX_new, hV_new] at o0 o1 ⊢); omega)) hf 
  · have hr9 := h2y7 z6 rfl
    subst hr9
    refine p_callVX (As := [_]) X hex ml_X11_244 (dcg dc_X11_keepNot 8 rfl) rfl rfl hk5 (wX11_demandKept hG hy7) (by decide) (room4 (Nat.le_of_ble_eq_true rfl)) (show uc + (hX z6.2 + 1 - hX h) ≤ MC from (by have o0 := (show lez h (hX z6.2 + 1) (hV z6.2 + 6) from hc1).1; have o1 := (show MC + X0 = hX z6.2 + 1 from hM); have o2 := hu; (try simp only [hX_sI, hX_sR, hX_sL, hX_sD, hX_sIa, hX_sRa, hV_sI, hV_sR, hV_sL, hV_sD, hV_sIa, hV_sRa, hX_new, hV_new] at o0 o1 o2 ⊢); omega)) (show us + (hV z6.2 + 6 - hV h) ≤ MS from (by have o0 := (show lez h (hX z6.2 + 1) (hV z6.2 + 6) from hc1).2; have o1 := (show MS + V0 = hV z6.2 + 6 from hN); have o2 := hv; (try simp only [hX_sI, hX_sR, hX_sL, hX_sD, hX_sIa, hX_sRa, hV_sI, hV_sR, hV_sL, hV_sD, hV_sIa, hV_sRa, hX_new, hV_new] at o0 o1 o2 ⊢); omega)) (show uc + (hX z6.2 + 1 - hX h) ≤ MC from (by have o0 := (show lez h (hX z6.2 + 1) (hV z6.2 + 6) from hc1).1; have o1 := (show MC + X0 = hX z6.2 + 1 from hM); have o2 := hu; (try simp only [hX_sI, hX_sR, hX_sL, hX_sD, hX_sIa, hX_sRa, hV_sI, hV_sR, hV_sL, hV_sD, hV_sIa, hV_sRa, hX_new, hV_new] at o0 o1 o2 ⊢); omega)) (show us + (hV z6.2 + 6 - hV h) ≤ MS from (by have o0 := (show lez h (hX z6.2 + 1) (hV z6.2 + 6) from hc1).2; have o1 := (show MS + V0 = hV z6.2 + 6 from hN); have o2 := hv; (try simp only [hX_sI, hX_sR, hX_sL, hX_sD, hX_sIa, hX_sRa, hV_sI, hV_sR, hV_sL, hV_sD, hV_sIa, hV_sRa, hX_new, hV_new] at o0 o1 o2 ⊢); omega)) (fun En u q => by obtain ⟨z9, n9, q9, q8⟩ := q; cases q9; exact ⟨_, n9, rfl, q8⟩) ?_
    rintro _ _ ⟨z9, hz9, _⟩
    cases hz9
noncomputable def fX11_keepNot_b4 (v0 : Nat) (v1 : Int32) (v2 : Int32) (h : PH) : Option ((Int32 × PH) ⊕ (Nat × PH)) :=
  bx (fX11_demandKeptPlace v2 h) (fun z3 =>
  fX11_keepNot_b8 v0 v1 v2 z3)
set_option maxRecDepth 100000 in
theorem mX11_keepNot_b4 {v0 : Nat} {v1 : Int32} {v2 : Int32} {h : PH} {r : ((Int32 × PH) ⊕ (Nat × PH))} (hf : fX11_keepNot_b4 v0 v1 v2 h = some r) : lez h (xT2 r) (vT2 r) := by
  unfold fX11_keepNot_b4 at hf
  have hle := lez_rf h
  obtain ⟨y4, hy4, h1y4, h2y4⟩ := bx_some hf
  have hc1 := mX11_demandKeptPlace hy4
  rcases y4 with z3 | z3
  · have hf := h1y4 z3 rfl
    have hle : lez h (hX z3) (hV z3) := lez_rt hc1 hle
    exact lez_rt (mX11_keepNot_b8 hf) hle
  · have hr9 := h2y4 z3 rfl
    subst hr9
    exact lez_rt hc1 hle
set_option maxRecDepth 100000 in
theorem wX11_keepNot_b4 {E : PE} {p : Program} {l : Launch} {e : Env} {s : State} {m : MethodId} {args : Array Value} {below : List Frame} {meth : Method} {c : Code} {X0 V0 MC MS uc us : Nat} (X : Cx E p l e (rmv 53 MC MS) s m args below meth c RX11 cX11_keepNot 3 (some .int)) (hG : Gs E l) (hex : ∀ x ∈ c.exceptionTable.toList, False) {v0 : Nat} {v1 : Int32} {v2 : Int32} {h : PH} {r : ((Int32 × PH) ⊕ (Nat × PH))} (hM : MC + X0 = (xT2 r)) (hN : MS + V0 = (vT2 r)) (hu : uc + X0 = hX h) (hv : us + V0 = hV h) (hf : fX11_keepNot_b4 v0 v1 v2 h = some r)  : PW E p l e (rmv 53 MC MS) s m args below meth c 3 uc us (vx_MQ below (QG E (fun v u => ∃ z, r = .inl z ∧ v = some (.int z.1) ∧ u = z.2)) (XG E (fun En u => ∃ (z : Nat × PH) (n : Nat), r = .inr z ∧ En = exn z.1 ∧ hX z.2 ≤ n ∧ u = hbump z.2 n)) args s MC MS (pA E)) h 4 [(0, some (.ref v0)), (1, some (.int v1)), (2, some (.int v2))] [] := by
  have hm1 : lez h (xT2 r) (vT2 r) := mX11_keepNot_b4 hf
  have hcm : uc ≤ MC := (by have o0 := hm1.1; have o1 := hM; have o2 := hu; (try simp only [hX_sI, hX_sR, hX_sL, hX_sD, hX_sIa, hX_sRa, hV_sI, hV_sR, hV_sL, hV_sD, hV_sIa, hV_sRa, hX_new, hV_new] at o0 o1 o2 ⊢); omega)
  have hsm : us ≤ MS := (by have o0 := hm1.2; have o1 := hN; have o2 := hv; (try simp only [hX_sI, hX_sR, hX_sL, hX_sD, hX_sIa, hX_sRa, hV_sI, hV_sR, hV_sL, hV_sD, hV_sIa, hV_sRa, hX_new, hV_new] at o0 o1 o2 ⊢); omega)
  clear hm1
  unfold fX11_keepNot_b4 at hf
  refine p_iload_n X (dcg dc_X11_keepNot 2 rfl) rfl rfl ?_
  obtain ⟨y4, hy4, h1y4, h2y4⟩ := bx_some hf
  have hc1 := mX11_demandKeptPlace hy4
  rcases y4 with z3 | z3
  · have hf := h1y4 z3 rfl
    have hm1 : lez _ (xT2 r) (vT2 r) := mX11_keepNot_b8 hf
    refine p_callSX (As := [_]) X hex ml_X11_241 (dcg dc_X11_keepNot 3 rfl) rfl rfl  (wX11_demandKeptPlace hG hy4) (by decide) (room4 (Nat.le_of_ble_eq_true rfl)) (show uc + (hX z3 - hX h) ≤ MC from (by have o0 := hm1.1; have o1 := (show lez h (hX z3) (hV z3) from hc1).1; have o2 := hM; have o3 := hu; (try simp only [hX_sI, hX_sR, hX_sL, hX_sD, hX_sIa, hX_sRa, hV_sI, hV_sR, hV_sL, hV_sD, hV_sIa, hV_sRa, hX_new, hV_new] at o0 o1 o2 o3 ⊢); omega)) (show us + (hV z3 - hV h) ≤ MS from (by have o0 := hm1.2; have o1 := (show lez h (hX z3) (hV z3) from hc1).2; have o2 := hN; have o3 := hv; (try simp only [hX_sI, hX_sR, hX_sL, hX_sD, hX_sIa, hX_sRa, hV_sI, hV_sR, hV_sL, hV_sD, hV_sIa, hV_sRa, hX_new, hV_new] at o0 o1 o2 o3 ⊢); omega)) (show uc + (hX z3 - hX h) ≤ MC from (by have o0 := hm1.1; have o1 := (show lez h (hX z3) (hV z3) from hc1).1; have o2 := hM; have o3 := hu; (try simp only [hX_sI, hX_sR, hX_sL, hX_sD, hX_sIa, hX_sRa, hV_sI, hV_sR, hV_sL, hV_sD, hV_sIa, hV_sRa, hX_new, hV_new] at o0 o1 o2 o3 ⊢); omega)) (show us + (hV z3 - hV h) ≤ MS from (by have o0 := hm1.2; have o1 := (show lez h (hX z3) (hV z3) from hc1).2; have o2 := hN; have o3 := hv; (try simp only [hX_sI, hX_sR, hX_sL, hX_sD, hX_sIa, hX_sRa, hV_sI, hV_sR, hV_sL, hV_sD, hV_sIa, hV_sRa, hX_new, hV_new] at o0 o1 o2 o3 ⊢); omega)) (fun En u q => by obtain ⟨z9, n9, q9, _⟩ := q; cases q9) ?_
    rintro _ _ ⟨z9, hz9, rfl, rfl⟩
    cases hz9
    refine p_pick [0, 1, 2] ?_
    exact wX11_keepNot_b8 X hG hex hM hN (show uc + (hX z3 - hX h) + X0 = hX z3 from (by have o0 := (show lez h (hX z3) (hV z3) from hc1).1; have o1 := hu; (try simp only [hX_sI, hX_sR, hX_sL, hX_sD, hX_sIa, hX_sRa, hV_sI, hV_sR, hV_sL, hV_sD, hV_sIa, hV_sRa, hX_new, hV_new] at o0 o1 ⊢); omega)) (show us + (hV z3 - hV h) + V0 = hV z3 from (by have o0 := (show lez h (hX z3) (hV z3) from hc1).2; have o1 := hv; (try simp only [hX_sI, hX_sR, hX_sL, hX_sD, hX_sIa, hX_sRa, hV_sI, hV_sR, hV_sL, hV_sD, hV_sIa, hV_sRa, hX_new, hV_new] at o0 o1 ⊢); omega)) hf 
  · have hr9 := h2y4 z3 rfl
    subst hr9
    refine p_callSX (As := [_]) X hex ml_X11_241 (dcg dc_X11_keepNot 3 rfl) rfl rfl  (wX11_demandKeptPlace hG hy4) (by decide) (room4 (Nat.le_of_ble_eq_true rfl)) (show uc + (hX z3.2 + 1 - hX h) ≤ MC from (by have o0 := (show lez h (hX z3.2 + 1) (hV z3.2 + 6) from hc1).1; have o1 := (show MC + X0 = hX z3.2 + 1 from hM); have o2 := hu; (try simp only [hX_sI, hX_sR, hX_sL, hX_sD, hX_sIa, hX_sRa, hV_sI, hV_sR, hV_sL, hV_sD, hV_sIa, hV_sRa, hX_new, hV_new] at o0 o1 o2 ⊢); omega)) (show us + (hV z3.2 + 6 - hV h) ≤ MS from (by have o0 := (show lez h (hX z3.2 + 1) (hV z3.2 + 6) from hc1).2; have o1 := (show MS + V0 = hV z3.2 + 6 from hN); have o2 := hv; (try simp only [hX_sI, hX_sR, hX_sL, hX_sD, hX_sIa, hX_sRa, hV_sI, hV_sR, hV_sL, hV_sD, hV_sIa, hV_sRa, hX_new, hV_new] at o0 o1 o2 ⊢); omega)) (show uc + (hX z3.2 + 1 - hX h) ≤ MC from (by have o0 := (show lez h (hX z3.2 + 1) (hV z3.2 + 6) from hc1).1; have o1 := (show MC + X0 = hX z3.2 + 1 from hM); have o2 := hu; (try simp only [hX_sI, hX_sR, hX_sL, hX_sD, hX_sIa, hX_sRa, hV_sI, hV_sR, hV_sL, hV_sD, hV_sIa, hV_sRa, hX_new, hV_new] at o0 o1 o2 ⊢); omega)) (show us + (hV z3.2 + 6 - hV h) ≤ MS from (by have o0 := (show lez h (hX z3.2 + 1) (hV z3.2 + 6) from hc1).2; have o1 := (show MS + V0 = hV z3.2 + 6 from hN); have o2 := hv; (try simp only [hX_sI, hX_sR, hX_sL, hX_sD, hX_sIa, hX_sRa, hV_sI, hV_sR, hV_sL, hV_sD, hV_sIa, hV_sRa, hX_new, hV_new] at o0 o1 o2 ⊢); omega)) (fun En u q => by obtain ⟨z9, n9, q9, q8⟩ := q; cases q9; exact ⟨_, n9, rfl, q8⟩) ?_
    rintro _ _ ⟨z9, hz9, _⟩
    cases hz9
noncomputable def fX11_keepNot_b0 (v0 : Nat) (v1 : Int32) (v2 : Int32) (h : PH) : Option ((Int32 × PH) ⊕ (Nat × PH)) :=
  bx (fX11_demandKeptPlace v1 h) (fun z1 =>
  fX11_keepNot_b4 v0 v1 v2 z1)
set_option maxRecDepth 100000 in
theorem mX11_keepNot_b0 {v0 : Nat} {v1 : Int32} {v2 : Int32} {h : PH} {r : ((Int32 × PH) ⊕ (Nat × PH))} (hf : fX11_keepNot_b0 v0 v1 v2 h = some r) : lez h (xT2 r) (vT2 r) := by
  unfold fX11_keepNot_b0 at hf
  have hle := lez_rf h
  obtain ⟨y2, hy2, h1y2, h2y2⟩ := bx_some hf
  have hc1 := mX11_demandKeptPlace hy2
  rcases y2 with z1 | z1
  · have hf := h1y2 z1 rfl
    have hle : lez h (hX z1) (hV z1) := lez_rt hc1 hle
    exact lez_rt (mX11_keepNot_b4 hf) hle
  · have hr9 := h2y2 z1 rfl
    subst hr9
    exact lez_rt hc1 hle
set_option maxRecDepth 100000 in
theorem wX11_keepNot_b0 {E : PE} {p : Program} {l : Launch} {e : Env} {s : State} {m : MethodId} {args : Array Value} {below : List Frame} {meth : Method} {c : Code} {X0 V0 MC MS uc us : Nat} (X : Cx E p l e (rmv 53 MC MS) s m args below meth c RX11 cX11_keepNot 3 (some .int)) (hG : Gs E l) (hex : ∀ x ∈ c.exceptionTable.toList, False) {v0 : Nat} {v1 : Int32} {v2 : Int32} {h : PH} {r : ((Int32 × PH) ⊕ (Nat × PH))} (hM : MC + X0 = (xT2 r)) (hN : MS + V0 = (vT2 r)) (hu : uc + X0 = hX h) (hv : us + V0 = hV h) (hf : fX11_keepNot_b0 v0 v1 v2 h = some r)  : PW E p l e (rmv 53 MC MS) s m args below meth c 3 uc us (vx_MQ below (QG E (fun v u => ∃ z, r = .inl z ∧ v = some (.int z.1) ∧ u = z.2)) (XG E (fun En u => ∃ (z : Nat × PH) (n : Nat), r = .inr z ∧ En = exn z.1 ∧ hX z.2 ≤ n ∧ u = hbump z.2 n)) args s MC MS (pA E)) h 0 [(0, some (.ref v0)), (1, some (.int v1)), (2, some (.int v2))] [] := by
  have hm1 : lez h (xT2 r) (vT2 r) := mX11_keepNot_b0 hf
  have hcm : uc ≤ MC := (by have o0 := hm1.1; have o1 := hM; have o2 := hu; (try simp only [hX_sI, hX_sR, hX_sL, hX_sD, hX_sIa, hX_sRa, hV_sI, hV_sR, hV_sL, hV_sD, hV_sIa, hV_sRa, hX_new, hV_new] at o0 o1 o2 ⊢); omega)
  have hsm : us ≤ MS := (by have o0 := hm1.2; have o1 := hN; have o2 := hv; (try simp only [hX_sI, hX_sR, hX_sL, hX_sD, hX_sIa, hX_sRa, hV_sI, hV_sR, hV_sL, hV_sD, hV_sIa, hV_sRa, hX_new, hV_new] at o0 o1 o2 ⊢); omega)
  clear hm1
  unfold fX11_keepNot_b0 at hf
  refine p_iload_n X (dcg dc_X11_keepNot 0 rfl) rfl rfl ?_
  obtain ⟨y2, hy2, h1y2, h2y2⟩ := bx_some hf
  have hc1 := mX11_demandKeptPlace hy2
  rcases y2 with z1 | z1
  · have hf := h1y2 z1 rfl
    have hm1 : lez _ (xT2 r) (vT2 r) := mX11_keepNot_b4 hf
    refine p_callSX (As := [_]) X hex ml_X11_241 (dcg dc_X11_keepNot 1 rfl) rfl rfl  (wX11_demandKeptPlace hG hy2) (by decide) (room4 (Nat.le_of_ble_eq_true rfl)) (show uc + (hX z1 - hX h) ≤ MC from (by have o0 := hm1.1; have o1 := (show lez h (hX z1) (hV z1) from hc1).1; have o2 := hM; have o3 := hu; (try simp only [hX_sI, hX_sR, hX_sL, hX_sD, hX_sIa, hX_sRa, hV_sI, hV_sR, hV_sL, hV_sD, hV_sIa, hV_sRa, hX_new, hV_new] at o0 o1 o2 o3 ⊢); omega)) (show us + (hV z1 - hV h) ≤ MS from (by have o0 := hm1.2; have o1 := (show lez h (hX z1) (hV z1) from hc1).2; have o2 := hN; have o3 := hv; (try simp only [hX_sI, hX_sR, hX_sL, hX_sD, hX_sIa, hX_sRa, hV_sI, hV_sR, hV_sL, hV_sD, hV_sIa, hV_sRa, hX_new, hV_new] at o0 o1 o2 o3 ⊢); omega)) (show uc + (hX z1 - hX h) ≤ MC from (by have o0 := hm1.1; have o1 := (show lez h (hX z1) (hV z1) from hc1).1; have o2 := hM; have o3 := hu; (try simp only [hX_sI, hX_sR, hX_sL, hX_sD, hX_sIa, hX_sRa, hV_sI, hV_sR, hV_sL, hV_sD, hV_sIa, hV_sRa, hX_new, hV_new] at o0 o1 o2 o3 ⊢); omega)) (show us + (hV z1 - hV h) ≤ MS from (by have o0 := hm1.2; have o1 := (show lez h (hX z1) (hV z1) from hc1).2; have o2 := hN; have o3 := hv; (try simp only [hX_sI, hX_sR, hX_sL, hX_sD, hX_sIa, hX_sRa, hV_sI, hV_sR, hV_sL, hV_sD, hV_sIa, hV_sRa, hX_new, hV_new] at o0 o1 o2 o3 ⊢); omega)) (fun En u q => by obtain ⟨z9, n9, q9, _⟩ := q; cases q9) ?_
    rintro _ _ ⟨z9, hz9, rfl, rfl⟩
    cases hz9
    refine p_pick [0, 1, 2] ?_
    exact wX11_keepNot_b4 X hG hex hM hN (show uc + (hX z1 - hX h) + X0 = hX z1 from (by have o0 := (show lez h (hX z1) (hV z1) from hc1).1; have o1 := hu; (try simp only [hX_sI, hX_sR, hX_sL, hX_sD, hX_sIa, hX_sRa, hV_sI, hV_sR, hV_sL, hV_sD, hV_sIa, hV_sRa, hX_new, hV_new] at o0 o1 ⊢); omega)) (show us + (hV z1 - hV h) + V0 = hV z1 from (by have o0 := (show lez h (hX z1) (hV z1) from hc1).2; have o1 := hv; (try simp only [hX_sI, hX_sR, hX_sL, hX_sD, hX_sIa, hX_sRa, hV_sI, hV_sR, hV_sL, hV_sD, hV_sIa, hV_sRa, hX_new, hV_new] at o0 o1 ⊢); omega)) hf 
  · have hr9 := h2y2 z1 rfl
    subst hr9
    refine p_callSX (As := [_]) X hex ml_X11_241 (dcg dc_X11_keepNot 1 rfl) rfl rfl  (wX11_demandKeptPlace hG hy2) (by decide) (room4 (Nat.le_of_ble_eq_true rfl)) (show uc + (hX z1.2 + 1 - hX h) ≤ MC from (by have o0 := (show lez h (hX z1.2 + 1) (hV z1.2 + 6) from hc1).1; have o1 := (show MC + X0 = hX z1.2 + 1 from hM); have o2 := hu; (try simp only [hX_sI, hX_sR, hX_sL, hX_sD, hX_sIa, hX_sRa, hV_sI, hV_sR, hV_sL, hV_sD, hV_sIa, hV_sRa, hX_new, hV_new] at o0 o1 o2 ⊢); omega)) (show us + (hV z1.2 + 6 - hV h) ≤ MS from (by have o0 := (show lez h (hX z1.2 + 1) (hV z1.2 + 6) from hc1).2; have o1 := (show MS + V0 = hV z1.2 + 6 from hN); have o2 := hv; (try simp only [hX_sI, hX_sR, hX_sL, hX_sD, hX_sIa, hX_sRa, hV_sI, hV_sR, hV_sL, hV_sD, hV_sIa, hV_sRa, hX_new, hV_new] at o0 o1 o2 ⊢); omega)) (show uc + (hX z1.2 + 1 - hX h) ≤ MC from (by have o0 := (show lez h (hX z1.2 + 1) (hV z1.2 + 6) from hc1).1; have o1 := (show MC + X0 = hX z1.2 + 1 from hM); have o2 := hu; (try simp only [hX_sI, hX_sR, hX_sL, hX_sD, hX_sIa, hX_sRa, hV_sI, hV_sR, hV_sL, hV_sD, hV_sIa, hV_sRa, hX_new, hV_new] at o0 o1 o2 ⊢); omega)) (show us + (hV z1.2 + 6 - hV h) ≤ MS from (by have o0 := (show lez h (hX z1.2 + 1) (hV z1.2 + 6) from hc1).2; have o1 := (show MS + V0 = hV z1.2 + 6 from hN); have o2 := hv; (try simp only [hX_sI, hX_sR, hX_sL, hX_sD, hX_sIa, hX_sRa, hV_sI, hV_sR, hV_sL, hV_sD, hV_sIa, hV_sRa, hX_new, hV_new] at o0 o1 o2 ⊢); omega)) (fun En u q => by obtain ⟨z9, n9, q9, q8⟩ := q; cases q9; exact ⟨_, n9, rfl, q8⟩) ?_
    rintro _ _ ⟨z9, hz9, _⟩
    cases hz9
noncomputable def fX11_keepNot (v0 : Nat) (v1 : Int32) (v2 : Int32) (h : PH) : Option ((Int32 × PH) ⊕ (Nat × PH)) :=
  fX11_keepNot_b0 v0 v1 v2 h
set_option maxRecDepth 100000 in
theorem mX11_keepNot {v0 : Nat} {v1 : Int32} {v2 : Int32} {h : PH} {r : ((Int32 × PH) ⊕ (Nat × PH))} (hf : fX11_keepNot v0 v1 v2 h = some r) : lez h (xT2 r) (vT2 r) := by
  unfold fX11_keepNot at hf
  have hle := lez_rf h
  exact lez_rt (mX11_keepNot_b0 hf) hle
set_option maxRecDepth 100000 in
theorem wX11_keepNot {E : PE} {l : Launch} (hG : Gs E l) {v0 : Nat} {v1 : Int32} {v2 : Int32} {h : PH} {r : ((Int32 × PH) ⊕ (Nat × PH))} (hf : fX11_keepNot v0 v1 v2 h = some r) : CtX E l 53 ((xT2 r) - hX h) ((vT2 r) - hV h) yX11_keepNot cX11_keepNot 3 (some .int) [.ref v0, .int v1, .int v2] h (fun v u => ∃ z, r = .inl z ∧ v = some (.int z.1) ∧ u = z.2) (fun En u => ∃ (z : Nat × PH) (n : Nat), r = .inr z ∧ En = exn z.1 ∧ hX z.2 ≤ n ∧ u = hbump z.2 n) := by
  have hmm := mX11_keepNot hf
  refine ctx_of hG (by decide) (Nat.le_of_ble_eq_true rfl) ?_
  intro p e s m args below meth c X hex
  show PW E p l e _ s m args below meth c _ 0 0 _ h 0 [(0, some (.ref v0)), (1, some (.int v1)), (2, some (.int v2))] []
  unfold fX11_keepNot at hf
  have hM := Nat.sub_add_cancel hmm.1
  have hN := Nat.sub_add_cancel hmm.2
  refine p_pick [0, 1, 2] ?_
  exact wX11_keepNot_b0 X hG hex hM hN (Nat.zero_add _) (Nat.zero_add _) hf
theorem dc_X11_drop : decs cX11_drop [(0, .iload_n 1, 1), (1, .invokestatic 241, 3), (4, .aload_n 0, 1), (5, .getfield 47, 3), (8, .iload_n 1, 1), (9, .aaload, 1), (10, .ifnull 7, 3), (13, .iconst 1, 1), (14, .goto 4, 3), (17, .iconst 0, 1), (18, .istore_n 2, 1), (19, .aload_n 0, 1), (20, .getfield 47, 3), (23, .iload_n 1, 1), (24, .aconst_null, 1), (25, .aastore, 1), (26, .iload_n 2, 1), (27, .ireturn, 1)] = true := by decide +kernel
noncomputable def fX11_drop_b18 (v0 : Nat) (v1 : Int32) (t0 : Int32) (h : PH) : Option ((Int32 × PH) ⊕ (Nat × PH)) :=
  gd (hK h v0 = 11) (gs (hR h 11 v0 5) (fun a10 =>
  gd (hK h a10 = 25 ∧ inb v1 (hN h a10)) (gd (okq h 4 none = true) (lt (sR h 25 a10 (Int32.toNatClampNeg v1) none) (fun h14 =>
  gd (t0 &&& 1 = t0) (some (.inl ((t0, h14)))))))))
set_option maxRecDepth 100000 in
theorem mX11_drop_b18 {v0 : Nat} {v1 : Int32} {t0 : Int32} {h : PH} {r : ((Int32 × PH) ⊕ (Nat × PH))} (hf : fX11_drop_b18 v0 v1 t0 h = some r) : lez h (xT2 r) (vT2 r) := by
  unfold fX11_drop_b18 at hf
  have hle := lez_rf h
  obtain ⟨hk9, hf⟩ := gd_some hf
  obtain ⟨a10, e11, hf⟩ := gs_some hf
  obtain ⟨⟨hk13, hb12⟩, hf⟩ := gd_some hf
  obtain ⟨hg15, hf⟩ := gd_some hf
  obtain ⟨h14, rfl, hf⟩ := lt_some hf
  obtain ⟨hg16, hf⟩ := gd_some hf
  have ee := Option.some.inj hf; subst ee; exact hle
set_option maxRecDepth 100000 in
theorem wX11_drop_b18 {E : PE} {p : Program} {l : Launch} {e : Env} {s : State} {m : MethodId} {args : Array Value} {below : List Frame} {meth : Method} {c : Code} {X0 V0 MC MS uc us : Nat} (X : Cx E p l e (rmv 9 MC MS) s m args below meth c RX11 cX11_drop 3 (some .boolean)) (hG : Gs E l) (hex : ∀ x ∈ c.exceptionTable.toList, False) {v0 : Nat} {v1 : Int32} {t0 : Int32} {h : PH} {r : ((Int32 × PH) ⊕ (Nat × PH))} (hM : MC + X0 = (xT2 r)) (hN : MS + V0 = (vT2 r)) (hu : uc + X0 = hX h) (hv : us + V0 = hV h) (hf : fX11_drop_b18 v0 v1 t0 h = some r)  : PW E p l e (rmv 9 MC MS) s m args below meth c 3 uc us (vx_MQ below (QG E (fun v u => ∃ z, r = .inl z ∧ v = some (.int z.1) ∧ u = z.2)) (XG E (fun En u => ∃ (z : Nat × PH) (n : Nat), r = .inr z ∧ En = exn z.1 ∧ hX z.2 ≤ n ∧ u = hbump z.2 n)) args s MC MS (pA E)) h 18 [(0, some (.ref v0)), (1, some (.int v1))] [.int t0] := by
  have hm1 : lez h (xT2 r) (vT2 r) := mX11_drop_b18 hf
  have hcm : uc ≤ MC := (by have o0 := hm1.1; have o1 := hM; have o2 := hu; (try simp only [hX_sI, hX_sR, hX_sL, hX_sD, hX_sIa, hX_sRa, hV_sI, hV_sR, hV_sL, hV_sD, hV_sIa, hV_sRa, hX_new, hV_new] at o0 o1 o2 ⊢); omega)
  have hsm : us ≤ MS := (by have o0 := hm1.2; have o1 := hN; have o2 := hv; (try simp only [hX_sI, hX_sR, hX_sL, hX_sD, hX_sIa, hX_sRa, hV_sI, hV_sR, hV_sL, hV_sD, hV_sIa, hV_sRa, hX_new, hV_new] at o0 o1 o2 ⊢); omega)
  clear hm1
  unfold fX11_drop_b18 at hf
  refine p_istore_n X (dcg dc_X11_drop 10 rfl) rfl (by decide) rfl ?_
  refine p_aload_n X (dcg dc_X11_drop 11 rfl) rfl rfl ?_
  obtain ⟨hk9, hf⟩ := gd_some hf
  refine p_getR X fl_X11_47 rfl (by decide) (dcg dc_X11_drop 12 rfl) hk9 ?_
  refine p_iload_n X (dcg dc_X11_drop 13 rfl) rfl rfl ?_
  refine p_null X (dcg dc_X11_drop 14 rfl) ?_
  obtain ⟨a10, e11, hf⟩ := gs_some hf
  first | subst e11 | (try rw [e11])
  obtain ⟨⟨hk13, hb12⟩, hf⟩ := gd_some hf
  obtain ⟨hg15, hf⟩ := gd_some hf
  refine p_aast25 X (dcg dc_X11_drop 15 rfl) hk13 (vp_of_inb hb12) (okq_of hg15) ?_
  obtain ⟨h14, rfl, hf⟩ := lt_some hf
  refine p_iload_n X (dcg dc_X11_drop 16 rfl) rfl rfl ?_
  obtain ⟨hg16, hf⟩ := gd_some hf
  have er := Option.some.inj hf
  subst er
  refine p_vx ?_
  exact p_zret X rfl (congrArg Value.int hg16) (dcg dc_X11_drop 17 rfl) ⟨_, rfl, rfl, rfl⟩ hcm hsm
noncomputable def fX11_drop_b4 (v0 : Nat) (v1 : Int32) (h : PH) : Option ((Int32 × PH) ⊕ (Nat × PH)) :=
  gd (hK h v0 = 11) (gs (hR h 11 v0 5) (fun a4 =>
  gd (hK h a4 = 25 ∧ inb v1 (hN h a4)) (mq (hR h 25 a4 (Int32.toNatClampNeg v1)) (fX11_drop_b18 v0 v1 (0 : Int32) h) (fun a8 =>
  fX11_drop_b18 v0 v1 (1 : Int32) h))))
set_option maxRecDepth 100000 in
theorem mX11_drop_b4 {v0 : Nat} {v1 : Int32} {h : PH} {r : ((Int32 × PH) ⊕ (Nat × PH))} (hf : fX11_drop_b4 v0 v1 h = some r) : lez h (xT2 r) (vT2 r) := by
  unfold fX11_drop_b4 at hf
  have hle := lez_rf h
  obtain ⟨hk3, hf⟩ := gd_some hf
  obtain ⟨a4, e5, hf⟩ := gs_some hf
  obtain ⟨⟨hk7, hb6⟩, hf⟩ := gd_some hf
  rcases mq_or hf with ⟨q, hf⟩ | ⟨a8, q, hf⟩
  · have hf := mq_n q hf
    exact lez_rt (mX11_drop_b18 hf) hle
  · have hk17 := mq_s q hf
    first | subst q | skip
    have hf := hk17
    exact lez_rt (mX11_drop_b18 hf) hle
set_option maxRecDepth 100000 in
theorem wX11_drop_b4 {E : PE} {p : Program} {l : Launch} {e : Env} {s : State} {m : MethodId} {args : Array Value} {below : List Frame} {meth : Method} {c : Code} {X0 V0 MC MS uc us : Nat} (X : Cx E p l e (rmv 9 MC MS) s m args below meth c RX11 cX11_drop 3 (some .boolean)) (hG : Gs E l) (hex : ∀ x ∈ c.exceptionTable.toList, False) {v0 : Nat} {v1 : Int32} {h : PH} {r : ((Int32 × PH) ⊕ (Nat × PH))} (hM : MC + X0 = (xT2 r)) (hN : MS + V0 = (vT2 r)) (hu : uc + X0 = hX h) (hv : us + V0 = hV h) (hf : fX11_drop_b4 v0 v1 h = some r)  : PW E p l e (rmv 9 MC MS) s m args below meth c 3 uc us (vx_MQ below (QG E (fun v u => ∃ z, r = .inl z ∧ v = some (.int z.1) ∧ u = z.2)) (XG E (fun En u => ∃ (z : Nat × PH) (n : Nat), r = .inr z ∧ En = exn z.1 ∧ hX z.2 ≤ n ∧ u = hbump z.2 n)) args s MC MS (pA E)) h 4 [(0, some (.ref v0)), (1, some (.int v1))] [] := by
  have hm1 : lez h (xT2 r) (vT2 r) := mX11_drop_b4 hf
  have hcm : uc ≤ MC := (by have o0 := hm1.1; have o1 := hM; have o2 := hu; (try simp only [hX_sI, hX_sR, hX_sL, hX_sD, hX_sIa, hX_sRa, hV_sI, hV_sR, hV_sL, hV_sD, hV_sIa, hV_sRa, hX_new, hV_new] at o0 o1 o2 ⊢); omega)
  have hsm : us ≤ MS := (by have o0 := hm1.2; have o1 := hN; have o2 := hv; (try simp only [hX_sI, hX_sR, hX_sL, hX_sD, hX_sIa, hX_sRa, hV_sI, hV_sR, hV_sL, hV_sD, hV_sIa, hV_sRa, hX_new, hV_new] at o0 o1 o2 ⊢); omega)
  clear hm1
  unfold fX11_drop_b4 at hf
  refine p_aload_n X (dcg dc_X11_drop 2 rfl) rfl rfl ?_
  obtain ⟨hk3, hf⟩ := gd_some hf
  refine p_getR X fl_X11_47 rfl (by decide) (dcg dc_X11_drop 3 rfl) hk3 ?_
  refine p_iload_n X (dcg dc_X11_drop 4 rfl) rfl rfl ?_
  obtain ⟨a4, e5, hf⟩ := gs_some hf
  first | subst e5 | (try rw [e5])
  obtain ⟨⟨hk7, hb6⟩, hf⟩ := gd_some hf
  refine p_aald25 X (dcg dc_X11_drop 5 rfl) hk7 (vp_of_inb hb6) ?_
  refine p_ifnull (tgt := 17) X (dcg dc_X11_drop 6 rfl) (by decide) (fun q => ?_) (fun a8 q => ?_)
  · have hk17 := mq_n q hf
    first | subst q | (try rw [q])
    have hf := hk17
    refine p_iconst (v := 0) X (dcg dc_X11_drop 9 rfl) (by decide) ?_
    refine p_pick [0, 1] ?_
    exact wX11_drop_b18 X hG hex hM hN hu hv hf 
  · have hk17 := mq_s q hf
    first | subst q | (try rw [q])
    have hf := hk17
    refine p_iconst (v := 1) X (dcg dc_X11_drop 7 rfl) (by decide) ?_
    refine p_goto (tgt := 18) X (dcg dc_X11_drop 8 rfl) (by decide) ?_
    refine p_pick [0, 1] ?_
    exact wX11_drop_b18 X hG hex hM hN hu hv hf 
noncomputable def fX11_drop_b0 (v0 : Nat) (v1 : Int32) (h : PH) : Option ((Int32 × PH) ⊕ (Nat × PH)) :=
  bx (fX11_demandKeptPlace v1 h) (fun z1 =>
  fX11_drop_b4 v0 v1 z1)
set_option maxRecDepth 100000 in
theorem mX11_drop_b0 {v0 : Nat} {v1 : Int32} {h : PH} {r : ((Int32 × PH) ⊕ (Nat × PH))} (hf : fX11_drop_b0 v0 v1 h = some r) : lez h (xT2 r) (vT2 r) := by
  unfold fX11_drop_b0 at hf
  have hle := lez_rf h
  obtain ⟨y2, hy2, h1y2, h2y2⟩ := bx_some hf
  have hc1 := mX11_demandKeptPlace hy2
  rcases y2 with z1 | z1
  · have hf := h1y2 z1 rfl
    have hle : lez h (hX z1) (hV z1) := lez_rt hc1 hle
    exact lez_rt (mX11_drop_b4 hf) hle
  · have hr9 := h2y2 z1 rfl
    subst hr9
    exact lez_rt hc1 hle
set_option maxRecDepth 100000 in
theorem wX11_drop_b0 {E : PE} {p : Program} {l : Launch} {e : Env} {s : State} {m : MethodId} {args : Array Value} {below : List Frame} {meth : Method} {c : Code} {X0 V0 MC MS uc us : Nat} (X : Cx E p l e (rmv 9 MC MS) s m args below meth c RX11 cX11_drop 3 (some .boolean)) (hG : Gs E l) (hex : ∀ x ∈ c.exceptionTable.toList, False) {v0 : Nat} {v1 : Int32} {h : PH} {r : ((Int32 × PH) ⊕ (Nat × PH))} (hM : MC + X0 = (xT2 r)) (hN : MS + V0 = (vT2 r)) (hu : uc + X0 = hX h) (hv : us + V0 = hV h) (hf : fX11_drop_b0 v0 v1 h = some r)  : PW E p l e (rmv 9 MC MS) s m args below meth c 3 uc us (vx_MQ below (QG E (fun v u => ∃ z, r = .inl z ∧ v = some (.int z.1) ∧ u = z.2)) (XG E (fun En u => ∃ (z : Nat × PH) (n : Nat), r = .inr z ∧ En = exn z.1 ∧ hX z.2 ≤ n ∧ u = hbump z.2 n)) args s MC MS (pA E)) h 0 [(0, some (.ref v0)), (1, some (.int v1))] [] := by
  have hm1 : lez h (xT2 r) (vT2 r) := mX11_drop_b0 hf
  have hcm : uc ≤ MC := (by have o0 := hm1.1; have o1 := hM; have o2 := hu; (try simp only [hX_sI, hX_sR, hX_sL, hX_sD, hX_sIa, hX_sRa, hV_sI, hV_sR, hV_sL, hV_sD, hV_sIa, hV_sRa, hX_new, hV_new] at o0 o1 o2 ⊢); omega)
  have hsm : us ≤ MS := (by have o0 := hm1.2; have o1 := hN; have o2 := hv; (try simp only [hX_sI, hX_sR, hX_sL, hX_sD, hX_sIa, hX_sRa, hV_sI, hV_sR, hV_sL, hV_sD, hV_sIa, hV_sRa, hX_new, hV_new] at o0 o1 o2 ⊢); omega)
  clear hm1
  unfold fX11_drop_b0 at hf
  refine p_iload_n X (dcg dc_X11_drop 0 rfl) rfl rfl ?_
  obtain ⟨y2, hy2, h1y2, h2y2⟩ := bx_some hf
  have hc1 := mX11_demandKeptPlace hy2
  rcases y2 with z1 | z1
  · have hf := h1y2 z1 rfl
    have hm1 : lez _ (xT2 r) (vT2 r) := mX11_drop_b4 hf
    refine p_callSX (As := [_]) X hex ml_X11_241 (dcg dc_X11_drop 1 rfl) rfl rfl  (wX11_demandKeptPlace hG hy2) (by decide) (room4 (Nat.le_of_ble_eq_true rfl)) (show uc + (hX z1 - hX h) ≤ MC from (by have o0 := hm1.1; have o1 := (show lez h (hX z1) (hV z1) from hc1).1; have o2 := hM; have o3 := hu; (try simp only [hX_sI, hX_sR, hX_sL, hX_sD, hX_sIa, hX_sRa, hV_sI, hV_sR, hV_sL, hV_sD, hV_sIa, hV_sRa, hX_new, hV_new] at o0 o1 o2 o3 ⊢); omega)) (show us + (hV z1 - hV h) ≤ MS from (by have o0 := hm1.2; have o1 := (show lez h (hX z1) (hV z1) from hc1).2; have o2 := hN; have o3 := hv; (try simp only [hX_sI, hX_sR, hX_sL, hX_sD, hX_sIa, hX_sRa, hV_sI, hV_sR, hV_sL, hV_sD, hV_sIa, hV_sRa, hX_new, hV_new] at o0 o1 o2 o3 ⊢); omega)) (show uc + (hX z1 - hX h) ≤ MC from (by have o0 := hm1.1; have o1 := (show lez h (hX z1) (hV z1) from hc1).1; have o2 := hM; have o3 := hu; (try simp only [hX_sI, hX_sR, hX_sL, hX_sD, hX_sIa, hX_sRa, hV_sI, hV_sR, hV_sL, hV_sD, hV_sIa, hV_sRa, hX_new, hV_new] at o0 o1 o2 o3 ⊢); omega)) (show us + (hV z1 - hV h) ≤ MS from (by have o0 := hm1.2; have o1 := (show lez h (hX z1) (hV z1) from hc1).2; have o2 := hN; have o3 := hv; (try simp only [hX_sI, hX_sR, hX_sL, hX_sD, hX_sIa, hX_sRa, hV_sI, hV_sR, hV_sL, hV_sD, hV_sIa, hV_sRa, hX_new, hV_new] at o0 o1 o2 o3 ⊢); omega)) (fun En u q => by obtain ⟨z9, n9, q9, _⟩ := q; cases q9) ?_
    rintro _ _ ⟨z9, hz9, rfl, rfl⟩
    cases hz9
    refine p_pick [0, 1] ?_
    exact wX11_drop_b4 X hG hex hM hN (show uc + (hX z1 - hX h) + X0 = hX z1 from (by have o0 := (show lez h (hX z1) (hV z1) from hc1).1; have o1 := hu; (try simp only [hX_sI, hX_sR, hX_sL, hX_sD, hX_sIa, hX_sRa, hV_sI, hV_sR, hV_sL, hV_sD, hV_sIa, hV_sRa, hX_new, hV_new] at o0 o1 ⊢); omega)) (show us + (hV z1 - hV h) + V0 = hV z1 from (by have o0 := (show lez h (hX z1) (hV z1) from hc1).2; have o1 := hv; (try simp only [hX_sI, hX_sR, hX_sL, hX_sD, hX_sIa, hX_sRa, hV_sI, hV_sR, hV_sL, hV_sD, hV_sIa, hV_sRa, hX_new, hV_new] at o0 o1 ⊢); omega)) hf 
  · have hr9 := h2y2 z1 rfl
    subst hr9
    refine p_callSX (As := [_]) X hex ml_X11_241 (dcg dc_X11_drop 1 rfl) rfl rfl  (wX11_demandKeptPlace hG hy2) (by decide) (room4 (Nat.le_of_ble_eq_true rfl)) (show uc + (hX z1.2 + 1 - hX h) ≤ MC from (by have o0 := (show lez h (hX z1.2 + 1) (hV z1.2 + 6) from hc1).1; have o1 := (show MC + X0 = hX z1.2 + 1 from hM); have o2 := hu; (try simp only [hX_sI, hX_sR, hX_sL, hX_sD, hX_sIa, hX_sRa, hV_sI, hV_sR, hV_sL, hV_sD, hV_sIa, hV_sRa, hX_new, hV_new] at o0 o1 o2 ⊢); omega)) (show us + (hV z1.2 + 6 - hV h) ≤ MS from (by have o0 := (show lez h (hX z1.2 + 1) (hV z1.2 + 6) from hc1).2; have o1 := (show MS + V0 = hV z1.2 + 6 from hN); have o2 := hv; (try simp only [hX_sI, hX_sR, hX_sL, hX_sD, hX_sIa, hX_sRa, hV_sI, hV_sR, hV_sL, hV_sD, hV_sIa, hV_sRa, hX_new, hV_new] at o0 o1 o2 ⊢); omega)) (show uc + (hX z1.2 + 1 - hX h) ≤ MC from (by have o0 := (show lez h (hX z1.2 + 1) (hV z1.2 + 6) from hc1).1; have o1 := (show MC + X0 = hX z1.2 + 1 from hM); have o2 := hu; (try simp only [hX_sI, hX_sR, hX_sL, hX_sD, hX_sIa, hX_sRa, hV_sI, hV_sR, hV_sL, hV_sD, hV_sIa, hV_sRa, hX_new, hV_new] at o0 o1 o2 ⊢); omega)) (show us + (hV z1.2 + 6 - hV h) ≤ MS from (by have o0 := (show lez h (hX z1.2 + 1) (hV z1.2 + 6) from hc1).2; have o1 := (show MS + V0 = hV z1.2 + 6 from hN); have o2 := hv; (try simp only [hX_sI, hX_sR, hX_sL, hX_sD, hX_sIa, hX_sRa, hV_sI, hV_sR, hV_sL, hV_sD, hV_sIa, hV_sRa, hX_new, hV_new] at o0 o1 o2 ⊢); omega)) (fun En u q => by obtain ⟨z9, n9, q9, q8⟩ := q; cases q9; exact ⟨_, n9, rfl, q8⟩) ?_
    rintro _ _ ⟨z9, hz9, _⟩
    cases hz9
noncomputable def fX11_drop (v0 : Nat) (v1 : Int32) (h : PH) : Option ((Int32 × PH) ⊕ (Nat × PH)) :=
  fX11_drop_b0 v0 v1 h
set_option maxRecDepth 100000 in
theorem mX11_drop {v0 : Nat} {v1 : Int32} {h : PH} {r : ((Int32 × PH) ⊕ (Nat × PH))} (hf : fX11_drop v0 v1 h = some r) : lez h (xT2 r) (vT2 r) := by
  unfold fX11_drop at hf
  have hle := lez_rf h
  exact lez_rt (mX11_drop_b0 hf) hle
set_option maxRecDepth 100000 in
theorem wX11_drop {E : PE} {l : Launch} (hG : Gs E l) {v0 : Nat} {v1 : Int32} {h : PH} {r : ((Int32 × PH) ⊕ (Nat × PH))} (hf : fX11_drop v0 v1 h = some r) : CtX E l 9 ((xT2 r) - hX h) ((vT2 r) - hV h) yX11_drop cX11_drop 3 (some .boolean) [.ref v0, .int v1] h (fun v u => ∃ z, r = .inl z ∧ v = some (.int z.1) ∧ u = z.2) (fun En u => ∃ (z : Nat × PH) (n : Nat), r = .inr z ∧ En = exn z.1 ∧ hX z.2 ≤ n ∧ u = hbump z.2 n) := by
  have hmm := mX11_drop hf
  refine ctx_of hG (by decide) (Nat.le_of_ble_eq_true rfl) ?_
  intro p e s m args below meth c X hex
  show PW E p l e _ s m args below meth c _ 0 0 _ h 0 [(0, some (.ref v0)), (1, some (.int v1))] []
  unfold fX11_drop at hf
  have hM := Nat.sub_add_cancel hmm.1
  have hN := Nat.sub_add_cancel hmm.2
  refine p_pick [0, 1] ?_
  exact wX11_drop_b0 X hG hex hM hN (Nat.zero_add _) (Nat.zero_add _) hf
theorem dc_X11_simplePartsOf : decs cX11_simplePartsOf [(0, .new 268, 3), (3, .dup, 1), (4, .invokespecial 365, 3), (7, .astore_n 1, 1), (8, .aload_n 0, 1), (9, .aload_n 1, 1), (10, .iconst 0, 1), (11, .invokestatic 366, 3), (14, .aload_n 1, 1), (15, .areturn, 1)] = true := by decide +kernel
noncomputable def fX11_simplePartsOf_b14 (v1 : Option Nat) (h : PH) : Option (Option Nat × PH) :=
  some ((v1, h))
set_option maxRecDepth 100000 in
theorem mX11_simplePartsOf_b14 {v1 : Option Nat} {h : PH} {r : (Option Nat × PH)} (hf : fX11_simplePartsOf_b14 v1 h = some r) : lez h (hX r.2) (hV r.2) := by
  unfold fX11_simplePartsOf_b14 at hf
  have hle := lez_rf h
  have ee := Option.some.inj hf; subst ee; exact hle
set_option maxRecDepth 100000 in
theorem wX11_simplePartsOf_b14 {E : PE} {p : Program} {l : Launch} {e : Env} {s : State} {m : MethodId} {args : Array Value} {below : List Frame} {meth : Method} {c : Code} {X0 V0 MC MS uc us : Nat} (X : Cx E p l e (rmv 52 MC MS) s m args below meth c RX11 cX11_simplePartsOf 2 (some (.object "java/util/ArrayList"))) (hG : Gs E l) (hnm : meth.name = yX11_simplePartsOf.name) {v1 : Option Nat} {h : PH} {r : (Option Nat × PH)} (hM : MC + X0 = (hX r.2)) (hN : MS + V0 = (hV r.2)) (hu : uc + X0 = hX h) (hv : us + V0 = hV h) (hf : fX11_simplePartsOf_b14 v1 h = some r)  : PW E p l e (rmv 52 MC MS) s m args below meth c 2 uc us (MQ below (QG E (fun v u => v = some (va_rf r.1) ∧ u = r.2)) args s MC MS (pA E)) h 14 [(1, some (va_rf v1))] [] := by
  have hm1 : lez h (hX r.2) (hV r.2) := mX11_simplePartsOf_b14 hf
  have hcm : uc ≤ MC := (by have o0 := hm1.1; have o1 := hM; have o2 := hu; (try simp only [hX_sI, hX_sR, hX_sL, hX_sD, hX_sIa, hX_sRa, hV_sI, hV_sR, hV_sL, hV_sD, hV_sIa, hV_sRa, hX_new, hV_new] at o0 o1 o2 ⊢); omega)
  have hsm : us ≤ MS := (by have o0 := hm1.2; have o1 := hN; have o2 := hv; (try simp only [hX_sI, hX_sR, hX_sL, hX_sD, hX_sIa, hX_sRa, hV_sI, hV_sR, hV_sL, hV_sD, hV_sIa, hV_sRa, hX_new, hV_new] at o0 o1 o2 ⊢); omega)
  clear hm1
  unfold fX11_simplePartsOf_b14 at hf
  refine p_aloadq_n X (dcg dc_X11_simplePartsOf 8 rfl) rfl rfl ?_
  have er := Option.some.inj hf
  subst er
  exact p_aret X rfl (Or.inl ⟨_, rfl⟩) (dcg dc_X11_simplePartsOf 9 rfl) ⟨rfl, rfl⟩ hcm hsm
noncomputable def fX11_simplePartsOf_b3 (v0 : Option Nat) (t0 : Nat) (h : PH) : Option (Option Nat × PH) :=
  bd (fJx4a65c_init_da8c8 t0 h) (fun z1 =>
  bd (fX4_gatherSimple v0 (some t0) (0 : Int32) z1) (fun z2 =>
  fX11_simplePartsOf_b14 (some t0) z2))
set_option maxRecDepth 100000 in
theorem mX11_simplePartsOf_b3 {v0 : Option Nat} {t0 : Nat} {h : PH} {r : (Option Nat × PH)} (hf : fX11_simplePartsOf_b3 v0 t0 h = some r) : lez h (hX r.2) (hV r.2) := by
  unfold fX11_simplePartsOf_b3 at hf
  have hle := lez_rf h
  obtain ⟨z1, hz1, hf⟩ := bd_some hf
  have hle := lez_rt (lez_eq (mJx4a65c_init_da8c8 hz1)) hle
  obtain ⟨z2, hz2, hf⟩ := bd_some hf
  have hle := lez_rt (mX4_gatherSimple hz2) hle
  exact lez_rt (mX11_simplePartsOf_b14 hf) hle
set_option maxRecDepth 100000 in
theorem wX11_simplePartsOf_b3 {E : PE} {p : Program} {l : Launch} {e : Env} {s : State} {m : MethodId} {args : Array Value} {below : List Frame} {meth : Method} {c : Code} {X0 V0 MC MS uc us : Nat} (X : Cx E p l e (rmv 52 MC MS) s m args below meth c RX11 cX11_simplePartsOf 2 (some (.object "java/util/ArrayList"))) (hG : Gs E l) (hnm : meth.name = yX11_simplePartsOf.name) {v0 : Option Nat} {t0 : Nat} {h : PH} {r : (Option Nat × PH)} (hM : MC + X0 = (hX r.2)) (hN : MS + V0 = (hV r.2)) (hu : uc + X0 = hX h) (hv : us + V0 = hV h) (hf : fX11_simplePartsOf_b3 v0 t0 h = some r)  : PW E p l e (rmv 52 MC MS) s m args below meth c 2 uc us (MQ below (QG E (fun v u => v = some (va_rf r.1) ∧ u = r.2)) args s MC MS (pA E)) h 3 [(0, some (va_rf v0))] [.ref t0] := by
  have hm1 : lez h (hX r.2) (hV r.2) := mX11_simplePartsOf_b3 hf
  have hcm : uc ≤ MC := (by have o0 := hm1.1; have o1 := hM; have o2 := hu; (try simp only [hX_sI, hX_sR, hX_sL, hX_sD, hX_sIa, hX_sRa, hV_sI, hV_sR, hV_sL, hV_sD, hV_sIa, hV_sRa, hX_new, hV_new] at o0 o1 o2 ⊢); omega)
  have hsm : us ≤ MS := (by have o0 := hm1.2; have o1 := hN; have o2 := hv; (try simp only [hX_sI, hX_sR, hX_sL, hX_sD, hX_sIa, hX_sRa, hV_sI, hV_sR, hV_sL, hV_sD, hV_sIa, hV_sRa, hX_new, hV_new] at o0 o1 o2 ⊢); omega)
  clear hm1
  unfold fX11_simplePartsOf_b3 at hf
  refine p_dup X (dcg dc_X11_simplePartsOf 1 rfl) rfl ?_
  obtain ⟨z1, hz1, hf⟩ := bd_some hf
  refine p_callI (As := []) (ret1 := none) X ml_X11_365 (dcg dc_X11_simplePartsOf 2 rfl) rfl rfl  (wJx4a65c_init_da8c8 hG hz1) (by decide) (room4 (Nat.le_of_ble_eq_true rfl)) hcm hsm ?_
  rintro _ u9 ⟨rfl, e9⟩; have e9 := e9.symm; subst e9
  have hu := hu.trans (mJx4a65c_init_da8c8 hz1).1
  have hv := hv.trans (mJx4a65c_init_da8c8 hz1).2
  refine p_astore_n X (dcg dc_X11_simplePartsOf 3 rfl) rfl (by decide) (nwq (k := 0) rfl) ?_
  refine p_aloadq_n X (dcg dc_X11_simplePartsOf 4 rfl) rfl rfl ?_
  refine p_aload_n X (dcg dc_X11_simplePartsOf 5 rfl) rfl rfl ?_
  refine p_iconst (v := 0) X (dcg dc_X11_simplePartsOf 6 rfl) (by decide) ?_
  obtain ⟨z2, hz2, hf⟩ := bd_some hf
  have hc1 := mX4_gatherSimple hz2
  have hm1 : lez _ (hX r.2) (hV r.2) := mX11_simplePartsOf_b14 hf
  refine p_callSn (As := [va_rf _, va_rf (some _), _]) X ml_X11_366 (dcg dc_X11_simplePartsOf 7 rfl) rfl rfl  (wX4_gatherSimple hG hz2) (by decide) (room4 (Nat.le_of_ble_eq_true rfl)) (by have o0 := hm1.1; have o1 := hc1.1; have o2 := hM; have o3 := hu; (try simp only [hX_sI, hX_sR, hX_sL, hX_sD, hX_sIa, hX_sRa, hV_sI, hV_sR, hV_sL, hV_sD, hV_sIa, hV_sRa, hX_new, hV_new] at o0 o1 o2 o3 ⊢); omega) (by have o0 := hm1.2; have o1 := hc1.2; have o2 := hN; have o3 := hv; (try simp only [hX_sI, hX_sR, hX_sL, hX_sD, hX_sIa, hX_sRa, hV_sI, hV_sR, hV_sL, hV_sD, hV_sIa, hV_sRa, hX_new, hV_new] at o0 o1 o2 o3 ⊢); omega) ?_
  rintro _ u9 ⟨rfl, e9⟩; have e9 := e9.symm; subst e9
  refine p_pick [1] ?_
  exact wX11_simplePartsOf_b14 X hG hnm hM hN (by have o0 := hc1.1; have o1 := hu; (try simp only [hX_sI, hX_sR, hX_sL, hX_sD, hX_sIa, hX_sRa, hV_sI, hV_sR, hV_sL, hV_sD, hV_sIa, hV_sRa, hX_new, hV_new] at o0 o1 ⊢); omega) (by have o0 := hc1.2; have o1 := hv; (try simp only [hX_sI, hX_sR, hX_sL, hX_sD, hX_sIa, hX_sRa, hV_sI, hV_sR, hV_sL, hV_sD, hV_sIa, hV_sRa, hX_new, hV_new] at o0 o1 ⊢); omega) hf 
noncomputable def fX11_simplePartsOf_b0 (v0 : Option Nat) (h : PH) : Option (Option Nat × PH) :=
  fX11_simplePartsOf_b3 v0 (hX h) (hnew h 14 3)
set_option maxRecDepth 100000 in
theorem mX11_simplePartsOf_b0 {v0 : Option Nat} {h : PH} {r : (Option Nat × PH)} (hf : fX11_simplePartsOf_b0 v0 h = some r) : lez h (hX r.2) (hV r.2) := by
  unfold fX11_simplePartsOf_b0 at hf
  have hle := lez_rf h
  have hle := lez_nw (c := 14) (n := 3) hle
  exact lez_rt (mX11_simplePartsOf_b3 hf) hle
set_option maxRecDepth 100000 in
theorem wX11_simplePartsOf_b0 {E : PE} {p : Program} {l : Launch} {e : Env} {s : State} {m : MethodId} {args : Array Value} {below : List Frame} {meth : Method} {c : Code} {X0 V0 MC MS uc us : Nat} (X : Cx E p l e (rmv 52 MC MS) s m args below meth c RX11 cX11_simplePartsOf 2 (some (.object "java/util/ArrayList"))) (hG : Gs E l) (hnm : meth.name = yX11_simplePartsOf.name) {v0 : Option Nat} {h : PH} {r : (Option Nat × PH)} (hM : MC + X0 = (hX r.2)) (hN : MS + V0 = (hV r.2)) (hu : uc + X0 = hX h) (hv : us + V0 = hV h) (hf : fX11_simplePartsOf_b0 v0 h = some r)  : PW E p l e (rmv 52 MC MS) s m args below meth c 2 uc us (MQ below (QG E (fun v u => v = some (va_rf r.1) ∧ u = r.2)) args s MC MS (pA E)) h 0 [(0, some (va_rf v0))] [] := by
  have hm1 : lez h (hX r.2) (hV r.2) := mX11_simplePartsOf_b0 hf
  have hcm : uc ≤ MC := (by have o0 := hm1.1; have o1 := hM; have o2 := hu; (try simp only [hX_sI, hX_sR, hX_sL, hX_sD, hX_sIa, hX_sRa, hV_sI, hV_sR, hV_sL, hV_sD, hV_sIa, hV_sRa, hX_new, hV_new] at o0 o1 o2 ⊢); omega)
  have hsm : us ≤ MS := (by have o0 := hm1.2; have o1 := hN; have o2 := hv; (try simp only [hX_sI, hX_sR, hX_sL, hX_sD, hX_sIa, hX_sRa, hV_sI, hV_sR, hV_sL, hV_sD, hV_sIa, hV_sRa, hX_new, hV_new] at o0 o1 o2 ⊢); omega)
  clear hm1
  unfold fX11_simplePartsOf_b0 at hf
  have hm1 : lez _ (hX r.2) (hV r.2) := mX11_simplePartsOf_b3 hf
  have hm2 := lez_new hm1
  refine p_newN (ci := 14) (q := (RJx4a65c, TJx4a65c, 3)) (n := 3) X rfl rfl (by decide) tw_1626 tw_209 tw_106 (dcg dc_X11_simplePartsOf 0 rfl) (show uc + 1 ≤ MC from (by have o0 := hm2.1; have o1 := hM; have o2 := hu; (try simp only [hX_sI, hX_sR, hX_sL, hX_sD, hX_sIa, hX_sRa, hV_sI, hV_sR, hV_sL, hV_sD, hV_sIa, hV_sRa, hX_new, hV_new] at o0 o1 o2 ⊢); omega)) (show us + 3 ≤ MS from (by have o0 := hm2.2; have o1 := hN; have o2 := hv; (try simp only [hX_sI, hX_sR, hX_sL, hX_sD, hX_sIa, hX_sRa, hV_sI, hV_sR, hV_sL, hV_sD, hV_sIa, hV_sRa, hX_new, hV_new] at o0 o1 o2 ⊢); omega)) ?_
  refine p_pick [0] ?_
  exact wX11_simplePartsOf_b3 X hG hnm hM hN (by have o0 := hu; (try simp only [hX_sI, hX_sR, hX_sL, hX_sD, hX_sIa, hX_sRa, hV_sI, hV_sR, hV_sL, hV_sD, hV_sIa, hV_sRa, hX_new, hV_new] at o0 ⊢); omega) (by have o0 := hv; (try simp only [hX_sI, hX_sR, hX_sL, hX_sD, hX_sIa, hX_sRa, hV_sI, hV_sR, hV_sL, hV_sD, hV_sIa, hV_sRa, hX_new, hV_new] at o0 ⊢); omega) hf 
noncomputable def fX11_simplePartsOf (v0 : Option Nat) (h : PH) : Option (Option Nat × PH) :=
  fX11_simplePartsOf_b0 v0 h
set_option maxRecDepth 100000 in
theorem mX11_simplePartsOf {v0 : Option Nat} {h : PH} {r : (Option Nat × PH)} (hf : fX11_simplePartsOf v0 h = some r) : lez h (hX r.2) (hV r.2) := by
  unfold fX11_simplePartsOf at hf
  have hle := lez_rf h
  exact lez_rt (mX11_simplePartsOf_b0 hf) hle
set_option maxRecDepth 100000 in
theorem wX11_simplePartsOf {E : PE} {l : Launch} (hG : Gs E l) {v0 : Option Nat} {h : PH} {r : (Option Nat × PH)} (hf : fX11_simplePartsOf v0 h = some r) : Ct E l 52 ((hX r.2) - hX h) ((hV r.2) - hV h) yX11_simplePartsOf cX11_simplePartsOf 2 (some (.object "java/util/ArrayList")) [va_rf v0] h (fun v u => v = some (va_rf r.1) ∧ u = r.2) := by
  have hmm := mX11_simplePartsOf hf
  refine ct_of hG (by decide) (by simp [lg_sl, cat_rf, cat_r, cat_i, cat_l, cat_d, cat_f]) ?_
  intro p e s m args below meth c X hnm
  rw [show pargs 0 [va_rf v0] = [(0, some (va_rf v0))] from by simp [pargs, cat_rf, cat_r, cat_i, cat_l, cat_d, cat_f]]
  unfold fX11_simplePartsOf at hf
  have hM := Nat.sub_add_cancel hmm.1
  have hN := Nat.sub_add_cancel hmm.2
  refine p_pick [0] ?_
  exact wX11_simplePartsOf_b0 X hG hnm hM hN (Nat.zero_add _) (Nat.zero_add _) hf
theorem dc_X11_parts : decs cX11_parts [(0, .iload_n 1, 1), (1, .invokestatic 241, 3), (4, .aload_n 0, 1), (5, .iload_n 1, 1), (6, .invokevirtual 244, 3), (9, .invokestatic 263, 3), (12, .invokevirtual 267, 3), (15, .ireturn, 1)] = true := by decide +kernel
noncomputable def fX11_parts_b12 (t0 : Option Nat) (h : PH) : Option ((Int32 × PH) ⊕ (Nat × PH)) :=
  gs t0 (fun a7 =>
  gd (hK h a7 = 14) (bd (fJx4a65c_size_8abf5 a7 h) (fun z10 =>
  some (.inl ((z10, h))))))
set_option maxRecDepth 100000 in
theorem mX11_parts_b12 {t0 : Option Nat} {h : PH} {r : ((Int32 × PH) ⊕ (Nat × PH))} (hf : fX11_parts_b12 t0 h = some r) : lez h (xT2 r) (vT2 r) := by
  unfold fX11_parts_b12 at hf
  have hle := lez_rf h
  obtain ⟨a7, e8, hf⟩ := gs_some hf
  obtain ⟨hk9, hf⟩ := gd_some hf
  obtain ⟨z10, hz10, hf⟩ := bd_some hf
  have ee := Option.some.inj hf; subst ee; exact hle
set_option maxRecDepth 100000 in
theorem wX11_parts_b12 {E : PE} {p : Program} {l : Launch} {e : Env} {s : State} {m : MethodId} {args : Array Value} {below : List Frame} {meth : Method} {c : Code} {X0 V0 MC MS uc us : Nat} (X : Cx E p l e (rmv 53 MC MS) s m args below meth c RX11 cX11_parts 2 (some .int)) (hG : Gs E l) (hex : ∀ x ∈ c.exceptionTable.toList, False) {t0 : Option Nat} {h : PH} {r : ((Int32 × PH) ⊕ (Nat × PH))} (hM : MC + X0 = (xT2 r)) (hN : MS + V0 = (vT2 r)) (hu : uc + X0 = hX h) (hv : us + V0 = hV h) (hf : fX11_parts_b12 t0 h = some r)  : PW E p l e (rmv 53 MC MS) s m args below meth c 2 uc us (vx_MQ below (QG E (fun v u => ∃ z, r = .inl z ∧ v = some (.int z.1) ∧ u = z.2)) (XG E (fun En u => ∃ (z : Nat × PH) (n : Nat), r = .inr z ∧ En = exn z.1 ∧ hX z.2 ≤ n ∧ u = hbump z.2 n)) args s MC MS (pA E)) h 12 [] [va_rf t0] := by
  have hm1 : lez h (xT2 r) (vT2 r) := mX11_parts_b12 hf
  have hcm : uc ≤ MC := (by have o0 := hm1.1; have o1 := hM; have o2 := hu; (try simp only [hX_sI, hX_sR, hX_sL, hX_sD, hX_sIa, hX_sRa, hV_sI, hV_sR, hV_sL, hV_sD, hV_sIa, hV_sRa, hX_new, hV_new] at o0 o1 o2 ⊢); omega)
  have hsm : us ≤ MS := (by have o0 := hm1.2; have o1 := hN; have o2 := hv; (try simp only [hX_sI, hX_sR, hX_sL, hX_sD, hX_sIa, hX_sRa, hV_sI, hV_sR, hV_sL, hV_sD, hV_sIa, hV_sRa, hX_new, hV_new] at o0 o1 o2 ⊢); omega)
  clear hm1
  unfold fX11_parts_b12 at hf
  obtain ⟨a7, e8, hf⟩ := gs_some hf
  first | subst e8 | (try rw [e8])
  obtain ⟨hk9, hf⟩ := gd_some hf
  obtain ⟨z10, hz10, hf⟩ := bd_some hf
  refine p_callV (As := []) X ml_X11_267 (dcg dc_X11_parts 6 rfl) rfl rfl hk9 (wJx4a65c_size_8abf5 hG hz10) (by decide) (room4 (Nat.le_of_ble_eq_true rfl)) hcm hsm ?_
  rintro _ u9 ⟨rfl, e9⟩; have e9 := e9.symm; subst e9
  have er := Option.some.inj hf
  subst er
  refine p_vx ?_
  exact p_iret X rfl (dcg dc_X11_parts 7 rfl) ⟨_, rfl, rfl, rfl⟩ hcm hsm
noncomputable def fX11_parts_b9 (t0 : Option Nat) (h : PH) : Option ((Int32 × PH) ⊕ (Nat × PH)) :=
  bd (fX11_simplePartsOf t0 h) (fun z6 =>
  fX11_parts_b12 z6.1 z6.2)
set_option maxRecDepth 100000 in
theorem mX11_parts_b9 {t0 : Option Nat} {h : PH} {r : ((Int32 × PH) ⊕ (Nat × PH))} (hf : fX11_parts_b9 t0 h = some r) : lez h (xT2 r) (vT2 r) := by
  unfold fX11_parts_b9 at hf
  have hle := lez_rf h
  obtain ⟨z6, hz6, hf⟩ := bd_some hf
  have hle := lez_rt (mX11_simplePartsOf hz6) hle
  exact lez_rt (mX11_parts_b12 hf) hle
set_option maxRecDepth 100000 in
theorem wX11_parts_b9 {E : PE} {p : Program} {l : Launch} {e : Env} {s : State} {m : MethodId} {args : Array Value} {below : List Frame} {meth : Method} {c : Code} {X0 V0 MC MS uc us : Nat} (X : Cx E p l e (rmv 53 MC MS) s m args below meth c RX11 cX11_parts 2 (some .int)) (hG : Gs E l) (hex : ∀ x ∈ c.exceptionTable.toList, False) {t0 : Option Nat} {h : PH} {r : ((Int32 × PH) ⊕ (Nat × PH))} (hM : MC + X0 = (xT2 r)) (hN : MS + V0 = (vT2 r)) (hu : uc + X0 = hX h) (hv : us + V0 = hV h) (hf : fX11_parts_b9 t0 h = some r)  : PW E p l e (rmv 53 MC MS) s m args below meth c 2 uc us (vx_MQ below (QG E (fun v u => ∃ z, r = .inl z ∧ v = some (.int z.1) ∧ u = z.2)) (XG E (fun En u => ∃ (z : Nat × PH) (n : Nat), r = .inr z ∧ En = exn z.1 ∧ hX z.2 ≤ n ∧ u = hbump z.2 n)) args s MC MS (pA E)) h 9 [] [va_rf t0] := by
  have hm1 : lez h (xT2 r) (vT2 r) := mX11_parts_b9 hf
  have hcm : uc ≤ MC := (by have o0 := hm1.1; have o1 := hM; have o2 := hu; (try simp only [hX_sI, hX_sR, hX_sL, hX_sD, hX_sIa, hX_sRa, hV_sI, hV_sR, hV_sL, hV_sD, hV_sIa, hV_sRa, hX_new, hV_new] at o0 o1 o2 ⊢); omega)
  have hsm : us ≤ MS := (by have o0 := hm1.2; have o1 := hN; have o2 := hv; (try simp only [hX_sI, hX_sR, hX_sL, hX_sD, hX_sIa, hX_sRa, hV_sI, hV_sR, hV_sL, hV_sD, hV_sIa, hV_sRa, hX_new, hV_new] at o0 o1 o2 ⊢); omega)
  clear hm1
  unfold fX11_parts_b9 at hf
  obtain ⟨z6, hz6, hf⟩ := bd_some hf
  have hc1 := mX11_simplePartsOf hz6
  have hm1 : lez _ (xT2 r) (vT2 r) := mX11_parts_b12 hf
  refine p_callS (As := [va_rf _]) X ml_X11_263 (dcg dc_X11_parts 5 rfl) rfl rfl  (wX11_simplePartsOf hG hz6) (by decide) (room4 (Nat.le_of_ble_eq_true rfl)) (by have o0 := hm1.1; have o1 := hc1.1; have o2 := hM; have o3 := hu; (try simp only [hX_sI, hX_sR, hX_sL, hX_sD, hX_sIa, hX_sRa, hV_sI, hV_sR, hV_sL, hV_sD, hV_sIa, hV_sRa, hX_new, hV_new] at o0 o1 o2 o3 ⊢); omega) (by have o0 := hm1.2; have o1 := hc1.2; have o2 := hN; have o3 := hv; (try simp only [hX_sI, hX_sR, hX_sL, hX_sD, hX_sIa, hX_sRa, hV_sI, hV_sR, hV_sL, hV_sD, hV_sIa, hV_sRa, hX_new, hV_new] at o0 o1 o2 o3 ⊢); omega) ?_
  rintro _ u9 ⟨rfl, e9⟩; have e9 := e9.symm; subst e9
  refine p_pick [] ?_
  exact wX11_parts_b12 X hG hex hM hN (by have o0 := hc1.1; have o1 := hu; (try simp only [hX_sI, hX_sR, hX_sL, hX_sD, hX_sIa, hX_sRa, hV_sI, hV_sR, hV_sL, hV_sD, hV_sIa, hV_sRa, hX_new, hV_new] at o0 o1 ⊢); omega) (by have o0 := hc1.2; have o1 := hv; (try simp only [hX_sI, hX_sR, hX_sL, hX_sD, hX_sIa, hX_sRa, hV_sI, hV_sR, hV_sL, hV_sD, hV_sIa, hV_sRa, hX_new, hV_new] at o0 o1 ⊢); omega) hf 
noncomputable def fX11_parts_b4 (v0 : Nat) (v1 : Int32) (h : PH) : Option ((Int32 × PH) ⊕ (Nat × PH)) :=
  gd (hK h v0 = 11) (bx (fX11_demandKept v0 v1 h) (fun z4 =>
  fX11_parts_b9 z4.1 z4.2))
set_option maxRecDepth 100000 in
theorem mX11_parts_b4 {v0 : Nat} {v1 : Int32} {h : PH} {r : ((Int32 × PH) ⊕ (Nat × PH))} (hf : fX11_parts_b4 v0 v1 h = some r) : lez h (xT2 r) (vT2 r) := by
  unfold fX11_parts_b4 at hf
  have hle := lez_rf h
  obtain ⟨hk3, hf⟩ := gd_some hf
  obtain ⟨y5, hy5, h1y5, h2y5⟩ := bx_some hf
  have hc1 := mX11_demandKept hy5
  rcases y5 with z4 | z4
  · have hf := h1y5 z4 rfl
    have hle : lez h (hX z4.2) (hV z4.2) := lez_rt hc1 hle
    exact lez_rt (mX11_parts_b9 hf) hle
  · have hr9 := h2y5 z4 rfl
    subst hr9
    exact lez_rt hc1 hle
set_option maxRecDepth 100000 in
theorem wX11_parts_b4 {E : PE} {p : Program} {l : Launch} {e : Env} {s : State} {m : MethodId} {args : Array Value} {below : List Frame} {meth : Method} {c : Code} {X0 V0 MC MS uc us : Nat} (X : Cx E p l e (rmv 53 MC MS) s m args below meth c RX11 cX11_parts 2 (some .int)) (hG : Gs E l) (hex : ∀ x ∈ c.exceptionTable.toList, False) {v0 : Nat} {v1 : Int32} {h : PH} {r : ((Int32 × PH) ⊕ (Nat × PH))} (hM : MC + X0 = (xT2 r)) (hN : MS + V0 = (vT2 r)) (hu : uc + X0 = hX h) (hv : us + V0 = hV h) (hf : fX11_parts_b4 v0 v1 h = some r)  : PW E p l e (rmv 53 MC MS) s m args below meth c 2 uc us (vx_MQ below (QG E (fun v u => ∃ z, r = .inl z ∧ v = some (.int z.1) ∧ u = z.2)) (XG E (fun En u => ∃ (z : Nat × PH) (n : Nat), r = .inr z ∧ En = exn z.1 ∧ hX z.2 ≤ n ∧ u = hbump z.2 n)) args s MC MS (pA E)) h 4 [(0, some (.ref v0)), (1, some (.int v1))] [] := by
  have hm1 : lez h (xT2 r) (vT2 r) := mX11_parts_b4 hf
  have hcm : uc ≤ MC := (by have o0 := hm1.1; have o1 := hM; have o2 := hu; (try simp only [hX_sI, hX_sR, hX_sL, hX_sD, hX_sIa, hX_sRa, hV_sI, hV_sR, hV_sL, hV_sD, hV_sIa, hV_sRa, hX_new, hV_new] at o0 o1 o2 ⊢); omega)
  have hsm : us ≤ MS := (by have o0 := hm1.2; have o1 := hN; have o2 := hv; (try simp only [hX_sI, hX_sR, hX_sL, hX_sD, hX_sIa, hX_sRa, hV_sI, hV_sR, hV_sL, hV_sD, hV_sIa, hV_sRa, hX_new, hV_new] at o0 o1 o2 ⊢); omega)
  clear hm1
  unfold fX11_parts_b4 at hf
  refine p_aload_n X (dcg dc_X11_parts 2 rfl) rfl rfl ?_
  refine p_iload_n X (dcg dc_X11_parts 3 rfl) rfl rfl ?_
  obtain ⟨hk3, hf⟩ := gd_some hf
  obtain ⟨y5, hy5, h1y5, h2y5⟩ := bx_some hf
  have hc1 := mX11_demandKept hy5
  rcases y5 with z4 | z4
  · have hf := h1y5 z4 rfl
    have hm1 : lez _ (xT2 r) (vT2 r) := mX11_parts_b9 hf
    refine p_callVX (As := [_]) X hex ml_X11_244 (dcg dc_X11_parts 4 rfl) rfl rfl hk3 (wX11_demandKept hG hy5) (by decide) (room4 (Nat.le_of_ble_eq_true rfl)) (show uc + (hX z4.2 - hX h) ≤ MC from (by have o0 := hm1.1; have o1 := (show lez h (hX z4.2) (hV z4.2) from hc1).1; have o2 := hM; have o3 := hu; (try simp only [hX_sI, hX_sR, hX_sL, hX_sD, hX_sIa, hX_sRa, hV_sI, hV_sR, hV_sL, hV_sD, hV_sIa, hV_sRa, hX_new, hV_new] at o0 o1 o2 o3 ⊢); omega)) (show us + (hV z4.2 - hV h) ≤ MS from (by have o0 := hm1.2; have o1 := (show lez h (hX z4.2) (hV z4.2) from hc1).2; have o2 := hN; have o3 := hv; (try simp only [hX_sI, hX_sR, hX_sL, hX_sD, hX_sIa, hX_sRa, hV_sI, hV_sR, hV_sL, hV_sD, hV_sIa, hV_sRa, hX_new, hV_new] at o0 o1 o2 o3 ⊢); omega)) (show uc + (hX z4.2 - hX h) ≤ MC from (by have o0 := hm1.1; have o1 := (show lez h (hX z4.2) (hV z4.2) from hc1).1; have o2 := hM; have o3 := hu; (try simp only [hX_sI, hX_sR, hX_sL, hX_sD, hX_sIa, hX_sRa, hV_sI, hV_sR, hV_sL, hV_sD, hV_sIa, hV_sRa, hX_new, hV_new] at o0 o1 o2 o3 ⊢); omega)) (show us + (hV z4.2 - hV h) ≤ MS from (by have o0 := hm1.2; have o1 := (show lez h (hX z4.2) (hV z4.2) from hc1).2; have o2 := hN; have o3 := hv; (try simp only [hX_sI, hX_sR, hX_sL, hX_sD, hX_sIa, hX_sRa, hV_sI, hV_sR, hV_sL, hV_sD, hV_sIa, hV_sRa, hX_new, hV_new] at o0 o1 o2 o3 ⊢); omega)) (fun En u q => by obtain ⟨z9, n9, q9, _⟩ := q; cases q9) ?_
    rintro _ _ ⟨z9, hz9, rfl, rfl⟩
    cases hz9
    refine p_pick [] ?_
    exact wX11_parts_b9 X hG hex hM hN (show uc + (hX z4.2 - hX h) + X0 = hX z4.2 from (by have o0 := (show lez h (hX z4.2) (hV z4.2) from hc1).1; have o1 := hu; (try simp only [hX_sI, hX_sR, hX_sL, hX_sD, hX_sIa, hX_sRa, hV_sI, hV_sR, hV_sL, hV_sD, hV_sIa, hV_sRa, hX_new, hV_new] at o0 o1 ⊢); omega)) (show us + (hV z4.2 - hV h) + V0 = hV z4.2 from (by have o0 := (show lez h (hX z4.2) (hV z4.2) from hc1).2; have o1 := hv; (try simp only [hX_sI, hX_sR, hX_sL, hX_sD, hX_sIa, hX_sRa, hV_sI, hV_sR, hV_sL, hV_sD, hV_sIa, hV_sRa, hX_new, hV_new] at o0 o1 ⊢); omega)) hf 
  · have hr9 := h2y5 z4 rfl
    subst hr9
    refine p_callVX (As := [_]) X hex ml_X11_244 (dcg dc_X11_parts 4 rfl) rfl rfl hk3 (wX11_demandKept hG hy5) (by decide) (room4 (Nat.le_of_ble_eq_true rfl)) (show uc + (hX z4.2 + 1 - hX h) ≤ MC from (by have o0 := (show lez h (hX z4.2 + 1) (hV z4.2 + 6) from hc1).1; have o1 := (show MC + X0 = hX z4.2 + 1 from hM); have o2 := hu; (try simp only [hX_sI, hX_sR, hX_sL, hX_sD, hX_sIa, hX_sRa, hV_sI, hV_sR, hV_sL, hV_sD, hV_sIa, hV_sRa, hX_new, hV_new] at o0 o1 o2 ⊢); omega)) (show us + (hV z4.2 + 6 - hV h) ≤ MS from (by have o0 := (show lez h (hX z4.2 + 1) (hV z4.2 + 6) from hc1).2; have o1 := (show MS + V0 = hV z4.2 + 6 from hN); have o2 := hv; (try simp only [hX_sI, hX_sR, hX_sL, hX_sD, hX_sIa, hX_sRa, hV_sI, hV_sR, hV_sL, hV_sD, hV_sIa, hV_sRa, hX_new, hV_new] at o0 o1 o2 ⊢); omega)) (show uc + (hX z4.2 + 1 - hX h) ≤ MC from (by have o0 := (show lez h (hX z4.2 + 1) (hV z4.2 + 6) from hc1).1; have o1 := (show MC + X0 = hX z4.2 + 1 from hM); have o2 := hu; (try simp only [hX_sI, hX_sR, hX_sL, hX_sD, hX_sIa, hX_sRa, hV_sI, hV_sR, hV_sL, hV_sD, hV_sIa, hV_sRa, hX_new, hV_new] at o0 o1 o2 ⊢); omega)) (show us + (hV z4.2 + 6 - hV h) ≤ MS from (by have o0 := (show lez h (hX z4.2 + 1) (hV z4.2 + 6) from hc1).2; have o1 := (show MS + V0 = hV z4.2 + 6 from hN); have o2 := hv; (try simp only [hX_sI, hX_sR, hX_sL, hX_sD, hX_sIa, hX_sRa, hV_sI, hV_sR, hV_sL, hV_sD, hV_sIa, hV_sRa, hX_new, hV_new] at o0 o1 o2 ⊢); omega)) (fun En u q => by obtain ⟨z9, n9, q9, q8⟩ := q; cases q9; exact ⟨_, n9, rfl, q8⟩) ?_
    rintro _ _ ⟨z9, hz9, _⟩
    cases hz9
noncomputable def fX11_parts_b0 (v0 : Nat) (v1 : Int32) (h : PH) : Option ((Int32 × PH) ⊕ (Nat × PH)) :=
  bx (fX11_demandKeptPlace v1 h) (fun z1 =>
  fX11_parts_b4 v0 v1 z1)
set_option maxRecDepth 100000 in
theorem mX11_parts_b0 {v0 : Nat} {v1 : Int32} {h : PH} {r : ((Int32 × PH) ⊕ (Nat × PH))} (hf : fX11_parts_b0 v0 v1 h = some r) : lez h (xT2 r) (vT2 r) := by
  unfold fX11_parts_b0 at hf
  have hle := lez_rf h
  obtain ⟨y2, hy2, h1y2, h2y2⟩ := bx_some hf
  have hc1 := mX11_demandKeptPlace hy2
  rcases y2 with z1 | z1
  · have hf := h1y2 z1 rfl
    have hle : lez h (hX z1) (hV z1) := lez_rt hc1 hle
    exact lez_rt (mX11_parts_b4 hf) hle
  · have hr9 := h2y2 z1 rfl
    subst hr9
    exact lez_rt hc1 hle
set_option maxRecDepth 100000 in
theorem wX11_parts_b0 {E : PE} {p : Program} {l : Launch} {e : Env} {s : State} {m : MethodId} {args : Array Value} {below : List Frame} {meth : Method} {c : Code} {X0 V0 MC MS uc us : Nat} (X : Cx E p l e (rmv 53 MC MS) s m args below meth c RX11 cX11_parts 2 (some .int)) (hG : Gs E l) (hex : ∀ x ∈ c.exceptionTable.toList, False) {v0 : Nat} {v1 : Int32} {h : PH} {r : ((Int32 × PH) ⊕ (Nat × PH))} (hM : MC + X0 = (xT2 r)) (hN : MS + V0 = (vT2 r)) (hu : uc + X0 = hX h) (hv : us + V0 = hV h) (hf : fX11_parts_b0 v0 v1 h = some r)  : PW E p l e (rmv 53 MC MS) s m args below meth c 2 uc us (vx_MQ below (QG E (fun v u => ∃ z, r = .inl z ∧ v = some (.int z.1) ∧ u = z.2)) (XG E (fun En u => ∃ (z : Nat × PH) (n : Nat), r = .inr z ∧ En = exn z.1 ∧ hX z.2 ≤ n ∧ u = hbump z.2 n)) args s MC MS (pA E)) h 0 [(0, some (.ref v0)), (1, some (.int v1))] [] := by
  have hm1 : lez h (xT2 r) (vT2 r) := mX11_parts_b0 hf
  have hcm : uc ≤ MC := (by have o0 := hm1.1; have o1 := hM; have o2 := hu; (try simp only [hX_sI, hX_sR, hX_sL, hX_sD, hX_sIa, hX_sRa, hV_sI, hV_sR, hV_sL, hV_sD, hV_sIa, hV_sRa, hX_new, hV_new] at o0 o1 o2 ⊢); omega)
  have hsm : us ≤ MS := (by have o0 := hm1.2; have o1 := hN; have o2 := hv; (try simp only [hX_sI, hX_sR, hX_sL, hX_sD, hX_sIa, hX_sRa, hV_sI, hV_sR, hV_sL, hV_sD, hV_sIa, hV_sRa, hX_new, hV_new] at o0 o1 o2 ⊢); omega)
  clear hm1
  unfold fX11_parts_b0 at hf
  refine p_iload_n X (dcg dc_X11_parts 0 rfl) rfl rfl ?_
  obtain ⟨y2, hy2, h1y2, h2y2⟩ := bx_some hf
  have hc1 := mX11_demandKeptPlace hy2
  rcases y2 with z1 | z1
  · have hf := h1y2 z1 rfl
    have hm1 : lez _ (xT2 r) (vT2 r) := mX11_parts_b4 hf
    refine p_callSX (As := [_]) X hex ml_X11_241 (dcg dc_X11_parts 1 rfl) rfl rfl  (wX11_demandKeptPlace hG hy2) (by decide) (room4 (Nat.le_of_ble_eq_true rfl)) (show uc + (hX z1 - hX h) ≤ MC from (by have o0 := hm1.1; have o1 := (show lez h (hX z1) (hV z1) from hc1).1; have o2 := hM; have o3 := hu; (try simp only [hX_sI, hX_sR, hX_sL, hX_sD, hX_sIa, hX_sRa, hV_sI, hV_sR, hV_sL, hV_sD, hV_sIa, hV_sRa, hX_new, hV_new] at o0 o1 o2 o3 ⊢); omega)) (show us + (hV z1 - hV h) ≤ MS from (by have o0 := hm1.2; have o1 := (show lez h (hX z1) (hV z1) from hc1).2; have o2 := hN; have o3 := hv; (try simp only [hX_sI, hX_sR, hX_sL, hX_sD, hX_sIa, hX_sRa, hV_sI, hV_sR, hV_sL, hV_sD, hV_sIa, hV_sRa, hX_new, hV_new] at o0 o1 o2 o3 ⊢); omega)) (show uc + (hX z1 - hX h) ≤ MC from (by have o0 := hm1.1; have o1 := (show lez h (hX z1) (hV z1) from hc1).1; have o2 := hM; have o3 := hu; (try simp only [hX_sI, hX_sR, hX_sL, hX_sD, hX_sIa, hX_sRa, hV_sI, hV_sR, hV_sL, hV_sD, hV_sIa, hV_sRa, hX_new, hV_new] at o0 o1 o2 o3 ⊢); omega)) (show us + (hV z1 - hV h) ≤ MS from (by have o0 := hm1.2; have o1 := (show lez h (hX z1) (hV z1) from hc1).2; have o2 := hN; have o3 := hv; (try simp only [hX_sI, hX_sR, hX_sL, hX_sD, hX_sIa, hX_sRa, hV_sI, hV_sR, hV_sL, hV_sD, hV_sIa, hV_sRa, hX_new, hV_new] at o0 o1 o2 o3 ⊢); omega)) (fun En u q => by obtain ⟨z9, n9, q9, _⟩ := q; cases q9) ?_
    rintro _ _ ⟨z9, hz9, rfl, rfl⟩
    cases hz9
    refine p_pick [0, 1] ?_
    exact wX11_parts_b4 X hG hex hM hN (show uc + (hX z1 - hX h) + X0 = hX z1 from (by have o0 := (show lez h (hX z1) (hV z1) from hc1).1; have o1 := hu; (try simp only [hX_sI, hX_sR, hX_sL, hX_sD, hX_sIa, hX_sRa, hV_sI, hV_sR, hV_sL, hV_sD, hV_sIa, hV_sRa, hX_new, hV_new] at o0 o1 ⊢); omega)) (show us + (hV z1 - hV h) + V0 = hV z1 from (by have o0 := (show lez h (hX z1) (hV z1) from hc1).2; have o1 := hv; (try simp only [hX_sI, hX_sR, hX_sL, hX_sD, hX_sIa, hX_sRa, hV_sI, hV_sR, hV_sL, hV_sD, hV_sIa, hV_sRa, hX_new, hV_new] at o0 o1 ⊢); omega)) hf 
  · have hr9 := h2y2 z1 rfl
    subst hr9
    refine p_callSX (As := [_]) X hex ml_X11_241 (dcg dc_X11_parts 1 rfl) rfl rfl  (wX11_demandKeptPlace hG hy2) (by decide) (room4 (Nat.le_of_ble_eq_true rfl)) (show uc + (hX z1.2 + 1 - hX h) ≤ MC from (by have o0 := (show lez h (hX z1.2 + 1) (hV z1.2 + 6) from hc1).1; have o1 := (show MC + X0 = hX z1.2 + 1 from hM); have o2 := hu; (try simp only [hX_sI, hX_sR, hX_sL, hX_sD, hX_sIa, hX_sRa, hV_sI, hV_sR, hV_sL, hV_sD, hV_sIa, hV_sRa, hX_new, hV_new] at o0 o1 o2 ⊢); omega)) (show us + (hV z1.2 + 6 - hV h) ≤ MS from (by have o0 := (show lez h (hX z1.2 + 1) (hV z1.2 + 6) from hc1).2; have o1 := (show MS + V0 = hV z1.2 + 6 from hN); have o2 := hv; (try simp only [hX_sI, hX_sR, hX_sL, hX_sD, hX_sIa, hX_sRa, hV_sI, hV_sR, hV_sL, hV_sD, hV_sIa, hV_sRa, hX_new, hV_new] at o0 o1 o2 ⊢); omega)) (show uc + (hX z1.2 + 1 - hX h) ≤ MC from (by have o0 := (show lez h (hX z1.2 + 1) (hV z1.2 + 6) from hc1).1; have o1 := (show MC + X0 = hX z1.2 + 1 from hM); have o2 := hu; (try simp only [hX_sI, hX_sR, hX_sL, hX_sD, hX_sIa, hX_sRa, hV_sI, hV_sR, hV_sL, hV_sD, hV_sIa, hV_sRa, hX_new, hV_new] at o0 o1 o2 ⊢); omega)) (show us + (hV z1.2 + 6 - hV h) ≤ MS from (by have o0 := (show lez h (hX z1.2 + 1) (hV z1.2 + 6) from hc1).2; have o1 := (show MS + V0 = hV z1.2 + 6 from hN); have o2 := hv; (try simp only [hX_sI, hX_sR, hX_sL, hX_sD, hX_sIa, hX_sRa, hV_sI, hV_sR, hV_sL, hV_sD, hV_sIa, hV_sRa, hX_new, hV_new] at o0 o1 o2 ⊢); omega)) (fun En u q => by obtain ⟨z9, n9, q9, q8⟩ := q; cases q9; exact ⟨_, n9, rfl, q8⟩) ?_
    rintro _ _ ⟨z9, hz9, _⟩
    cases hz9
noncomputable def fX11_parts (v0 : Nat) (v1 : Int32) (h : PH) : Option ((Int32 × PH) ⊕ (Nat × PH)) :=
  fX11_parts_b0 v0 v1 h
set_option maxRecDepth 100000 in
theorem mX11_parts {v0 : Nat} {v1 : Int32} {h : PH} {r : ((Int32 × PH) ⊕ (Nat × PH))} (hf : fX11_parts v0 v1 h = some r) : lez h (xT2 r) (vT2 r) := by
  unfold fX11_parts at hf
  have hle := lez_rf h
  exact lez_rt (mX11_parts_b0 hf) hle
set_option maxRecDepth 100000 in
theorem wX11_parts {E : PE} {l : Launch} (hG : Gs E l) {v0 : Nat} {v1 : Int32} {h : PH} {r : ((Int32 × PH) ⊕ (Nat × PH))} (hf : fX11_parts v0 v1 h = some r) : CtX E l 53 ((xT2 r) - hX h) ((vT2 r) - hV h) yX11_parts cX11_parts 2 (some .int) [.ref v0, .int v1] h (fun v u => ∃ z, r = .inl z ∧ v = some (.int z.1) ∧ u = z.2) (fun En u => ∃ (z : Nat × PH) (n : Nat), r = .inr z ∧ En = exn z.1 ∧ hX z.2 ≤ n ∧ u = hbump z.2 n) := by
  have hmm := mX11_parts hf
  refine ctx_of hG (by decide) (Nat.le_of_ble_eq_true rfl) ?_
  intro p e s m args below meth c X hex
  show PW E p l e _ s m args below meth c _ 0 0 _ h 0 [(0, some (.ref v0)), (1, some (.int v1))] []
  unfold fX11_parts at hf
  have hM := Nat.sub_add_cancel hmm.1
  have hN := Nat.sub_add_cancel hmm.2
  refine p_pick [0, 1] ?_
  exact wX11_parts_b0 X hG hex hM hN (Nat.zero_add _) (Nat.zero_add _) hf
theorem dc_X11_countFound : decs cX11_countFound [(0, .iconst 0, 1), (1, .istore_n 2, 1), (2, .iconst 0, 1), (3, .istore_n 3, 1), (4, .iload_n 3, 1), (5, .bipush 100, 2), (7, .if_icmp .ge 21, 3), (10, .aload_n 0, 1), (11, .aload_n 1, 1), (12, .iload_n 3, 1), (13, .invokevirtual 343, 3), (16, .ifCond .eq 6, 3), (19, .iinc 2 1, 3), (22, .iinc 3 1, 3), (25, .goto (-21), 3), (28, .iload_n 2, 1), (29, .ireturn, 1)] = true := by decide +kernel
noncomputable def fX11_countFound_b22 (v0 : Nat) (v1 : Option Nat) (v2 : Int32) (v3 : Int32) (h : PH) : Option ((Int32 × Int32) ⊕ Int32) :=
  some (.inl (v2, (v3 + 1)))
set_option maxRecDepth 100000 in
theorem wX11_countFound_b22 {E : PE} {p : Program} {l : Launch} {e : Env} {s : State} {m : MethodId} {args : Array Value} {below : List Frame} {meth : Method} {c : Code} (X : Cx E p l e (rmv 49 0 0) s m args below meth c RX11 cX11_countFound 4 (some .int)) (hG : Gs E l) (hnm : meth.name = yX11_countFound.name) {v0 : Nat} {v1 : Option Nat} {v2 : Int32} {v3 : Int32} {h : PH} {r : Int32} {x : ((Int32 × Int32) ⊕ Int32)} (hf : fX11_countFound_b22 v0 v1 v2 v3 h = some x) (k0 : ∀ z : (Int32 × Int32), x = .inl z → PW E p l e (rmv 49 0 0) s m args below meth c 4 0 0 (MQ below (QG E (fun v u => v = some (.int r) ∧ u = h)) args s 0 0 (pA E)) h 4 [(0, some (.ref v0)), (1, some (va_rf v1)), (2, some (.int (z.1))), (3, some (.int (z.2)))] []) (kf : ∀ z : Int32, x = .inr z → z = r) : PW E p l e (rmv 49 0 0) s m args below meth c 4 0 0 (MQ below (QG E (fun v u => v = some (.int r) ∧ u = h)) args s 0 0 (pA E)) h 22 [(0, some (.ref v0)), (1, some (va_rf v1)), (2, some (.int v2)), (3, some (.int v3))] [] := by
  unfold fX11_countFound_b22 at hf
  refine p_iinc (v := 1) X (dcg dc_X11_countFound 13 rfl) rfl (by decide) (by decide) rfl ?_
  refine p_goto (tgt := 4) X (dcg dc_X11_countFound 14 rfl) (by decide) ?_
  refine p_pick [0, 1, 2, 3] ?_
  exact k0 _ (Option.some.inj hf).symm
noncomputable def fX11_countFound_c4 (v0 : Nat) (v1 : Option Nat) (v2 : Int32) (v3 : Int32) (h : PH) : Option ((Int32 × Int32) ⊕ Int32) :=
  if ((100 : Int32) ≤ v3) then (mr (some (v2))) else
  gd (hK h v0 = 11) (bd (fX11_isSatisfied v0 v1 v3 h) (fun z4 =>
  if (z4 = 0) then (fX11_countFound_b22 v0 v1 v2 v3 h) else
  fX11_countFound_b22 v0 v1 (v2 + 1) v3 h))
set_option maxRecDepth 100000 in
theorem wX11_countFound_c4 {E : PE} {p : Program} {l : Launch} {e : Env} {s : State} {m : MethodId} {args : Array Value} {below : List Frame} {meth : Method} {c : Code} (X : Cx E p l e (rmv 49 0 0) s m args below meth c RX11 cX11_countFound 4 (some .int)) (hG : Gs E l) (hnm : meth.name = yX11_countFound.name) {v0 : Nat} {v1 : Option Nat} {v2 : Int32} {v3 : Int32} {h : PH} {r : Int32} {x : ((Int32 × Int32) ⊕ Int32)} (hf : fX11_countFound_c4 v0 v1 v2 v3 h = some x) (k0 : ∀ z : (Int32 × Int32), x = .inl z → PW E p l e (rmv 49 0 0) s m args below meth c 4 0 0 (MQ below (QG E (fun v u => v = some (.int r) ∧ u = h)) args s 0 0 (pA E)) h 4 [(0, some (.ref v0)), (1, some (va_rf v1)), (2, some (.int (z.1))), (3, some (.int (z.2)))] []) (kf : ∀ z : Int32, x = .inr z → z = r) : PW E p l e (rmv 49 0 0) s m args below meth c 4 0 0 (MQ below (QG E (fun v u => v = some (.int r) ∧ u = h)) args s 0 0 (pA E)) h 4 [(0, some (.ref v0)), (1, some (va_rf v1)), (2, some (.int v2)), (3, some (.int v3))] [] := by
  unfold fX11_countFound_c4 at hf
  refine p_iload_n X (dcg dc_X11_countFound 4 rfl) rfl rfl ?_
  refine p_bipush (v := 100) X (dcg dc_X11_countFound 5 rfl) (by decide) ?_
  refine p_icmp_ge (tgt := 28) X (dcg dc_X11_countFound 6 rfl) (by decide) (fun q => ?_) (fun q => ?_)
  · have hf := if_t q hf
    obtain ⟨y1, hf, hy2⟩ := mr_some hf
    have hy2f := kf y1 hy2
    subst hy2f
    refine p_iload_n X (dcg dc_X11_countFound 15 rfl) rfl rfl ?_
    have er := Option.some.inj hf
    subst er
    exact p_iret X rfl (dcg dc_X11_countFound 16 rfl) ⟨rfl, rfl⟩ (Nat.le_refl _) (Nat.le_refl _)
  · have hf := if_f q hf
    refine p_aload_n X (dcg dc_X11_countFound 7 rfl) rfl rfl ?_
    refine p_aloadq_n X (dcg dc_X11_countFound 8 rfl) rfl rfl ?_
    refine p_iload_n X (dcg dc_X11_countFound 9 rfl) rfl rfl ?_
    obtain ⟨hk3, hf⟩ := gd_some hf
    obtain ⟨z4, hz4, hf⟩ := bd_some hf
    refine p_callV (As := [va_rf _, _]) X ml_X11_343 (dcg dc_X11_countFound 10 rfl) rfl rfl hk3 (wX11_isSatisfied hG hz4) (by decide) (room4 (Nat.le_of_ble_eq_true rfl)) (Nat.le_refl _) (Nat.le_refl _) ?_
    rintro _ u9 ⟨rfl, e9⟩; have e9 := e9.symm; subst e9
    refine p_if_eq (tgt := 22) X (dcg dc_X11_countFound 11 rfl) (by decide) (fun q => ?_) (fun q => ?_)
    · have hf := if_t q hf
      refine p_pick [0, 1, 2, 3] ?_
      exact wX11_countFound_b22 X hG hnm hf k0 kf
    · have hf := if_f q hf
      refine p_iinc (v := 1) X (dcg dc_X11_countFound 12 rfl) rfl (by decide) (by decide) (nwq (k := 1) rfl) ?_
      refine p_pick [0, 1, 2, 3] ?_
      exact wX11_countFound_b22 X hG hnm hf k0 kf
noncomputable def fX11_countFound_l4 (v0 : Nat) (v1 : Option Nat) (v2 : Int32) (v3 : Int32) (h : PH) : Option Int32 := wh (fun z : (Int32 × Int32) => fX11_countFound_c4 v0 v1 (z.1) (z.2) h) (v2, v3)
set_option maxRecDepth 100000 in
theorem wX11_countFound_l4 {E : PE} {p : Program} {l : Launch} {e : Env} {s : State} {m : MethodId} {args : Array Value} {below : List Frame} {meth : Method} {c : Code} (X : Cx E p l e (rmv 49 0 0) s m args below meth c RX11 cX11_countFound 4 (some .int)) (hG : Gs E l) (hnm : meth.name = yX11_countFound.name) {v0 : Nat} {v1 : Option Nat} {v2 : Int32} {v3 : Int32} {h : PH} {r : Int32} (hf : fX11_countFound_l4 v0 v1 v2 v3 h = some r)  : PW E p l e (rmv 49 0 0) s m args below meth c 4 0 0 (MQ below (QG E (fun v u => v = some (.int r) ∧ u = h)) args s 0 0 (pA E)) h 4 [(0, some (.ref v0)), (1, some (va_rf v1)), (2, some (.int v2)), (3, some (.int v3))] [] := by
  unfold fX11_countFound_l4 at hf
  refine wh_ind (P := fun z => PW E p l e (rmv 49 0 0) s m args below meth c 4 0 0 (MQ below (QG E (fun v u => v = some (.int r) ∧ u = h)) args s 0 0 (pA E)) h 4 [(0, some (.ref v0)), (1, some (va_rf v1)), (2, some (.int (z.1))), (3, some (.int (z.2)))] []) (fun z x0 hs i1 i2 => ?_) _ hf
  exact wX11_countFound_c4 (r := r) (v0 := v0) (v1 := v1) (v2 := z.1) (v3 := z.2) (h := h) X hG hnm hs i1  i2
noncomputable def fX11_countFound (v0 : Nat) (v1 : Option Nat) (h : PH) : Option Int32 :=
  fX11_countFound_l4 v0 v1 (0 : Int32) (0 : Int32) h
set_option maxRecDepth 100000 in
theorem wX11_countFound {E : PE} {l : Launch} (hG : Gs E l) {v0 : Nat} {v1 : Option Nat} {h : PH} {r : Int32} (hf : fX11_countFound v0 v1 h = some r) : Ct E l 49 0 0 yX11_countFound cX11_countFound 4 (some .int) [.ref v0, va_rf v1] h (fun v u => v = some (.int r) ∧ u = h) := by
  refine ct_of hG (by decide) (by simp [lg_sl, cat_rf, cat_r, cat_i, cat_l, cat_d, cat_f]) ?_
  intro p e s m args below meth c X hnm
  rw [show pargs 0 [.ref v0, va_rf v1] = [(0, some (.ref v0)), (1, some (va_rf v1))] from by simp [pargs, cat_rf, cat_r, cat_i, cat_l, cat_d, cat_f]]
  unfold fX11_countFound at hf
  refine p_iconst (v := 0) X (dcg dc_X11_countFound 0 rfl) (by decide) ?_
  refine p_istore_n X (dcg dc_X11_countFound 1 rfl) rfl (by decide) (nwq (k := 1) rfl) ?_
  refine p_iconst (v := 0) X (dcg dc_X11_countFound 2 rfl) (by decide) ?_
  refine p_istore_n X (dcg dc_X11_countFound 3 rfl) rfl (by decide) rfl ?_
  refine p_pick [0, 1, 2, 3] ?_
  exact wX11_countFound_l4 X hG hnm hf 
theorem dc_X11_partFound : decs cX11_partFound [(0, .iload_n 1, 1), (1, .invokestatic 241, 3), (4, .aload_n 0, 1), (5, .iload_n 1, 1), (6, .invokevirtual 244, 3), (9, .invokestatic 263, 3), (12, .astore_n 3, 1), (13, .iload_n 2, 1), (14, .ifCond .lt 11, 3), (17, .iload_n 2, 1), (18, .aload_n 3, 1), (19, .invokevirtual 267, 3), (22, .if_icmp .lt 11, 3), (25, .new 125, 3), (28, .dup, 1), (29, .invokespecial 127, 3), (32, .athrow, 1), (33, .aload_n 0, 1), (34, .aload_n 3, 1), (35, .iload_n 2, 1), (36, .invokevirtual 270, 3), (39, .checkcast 45, 3), (42, .invokevirtual 274, 3), (45, .ireturn, 1)] = true := by decide +kernel
noncomputable def fX11_partFound_b25  (h : PH) : Option ((Int32 × PH) ⊕ (Nat × PH)) :=
  some (.inr (2, h))
set_option maxRecDepth 100000 in
theorem mX11_partFound_b25  {h : PH} {r : ((Int32 × PH) ⊕ (Nat × PH))} (hf : fX11_partFound_b25  h = some r) : lez h (xT2 r) (vT2 r) := by
  unfold fX11_partFound_b25 at hf
  have hle := lez_rf h
  cases hf; exact lez_up hle
set_option maxRecDepth 100000 in
theorem wX11_partFound_b25 {E : PE} {p : Program} {l : Launch} {e : Env} {s : State} {m : MethodId} {args : Array Value} {below : List Frame} {meth : Method} {c : Code} {X0 V0 MC MS uc us : Nat} (X : Cx E p l e (rmv 53 MC MS) s m args below meth c RX11 cX11_partFound 4 (some .int)) (hG : Gs E l) (hex : ∀ x ∈ c.exceptionTable.toList, False)  {h : PH} {r : ((Int32 × PH) ⊕ (Nat × PH))} (hM : MC + X0 = (xT2 r)) (hN : MS + V0 = (vT2 r)) (hu : uc + X0 = hX h) (hv : us + V0 = hV h) (hf : fX11_partFound_b25  h = some r)  : PW E p l e (rmv 53 MC MS) s m args below meth c 4 uc us (vx_MQ below (QG E (fun v u => ∃ z, r = .inl z ∧ v = some (.int z.1) ∧ u = z.2)) (XG E (fun En u => ∃ (z : Nat × PH) (n : Nat), r = .inr z ∧ En = exn z.1 ∧ hX z.2 ≤ n ∧ u = hbump z.2 n)) args s MC MS (pA E)) h 25 [] [] := by
  have hm1 : lez h (xT2 r) (vT2 r) := mX11_partFound_b25 hf
  have hcm : uc ≤ MC := (by have o0 := hm1.1; have o1 := hM; have o2 := hu; (try simp only [hX_sI, hX_sR, hX_sL, hX_sD, hX_sIa, hX_sRa, hV_sI, hV_sR, hV_sL, hV_sD, hV_sIa, hV_sRa, hX_new, hV_new] at o0 o1 o2 ⊢); omega)
  have hsm : us ≤ MS := (by have o0 := hm1.2; have o1 := hN; have o2 := hv; (try simp only [hX_sI, hX_sR, hX_sL, hX_sD, hX_sIa, hX_sRa, hV_sI, hV_sR, hV_sL, hV_sD, hV_sIa, hV_sRa, hX_new, hV_new] at o0 o1 o2 ⊢); omega)
  clear hm1
  unfold fX11_partFound_b25 at hf
  have er := Option.some.inj hf
  subst er
  exact p_throw0 (cls := "java/lang/IndexOutOfBoundsException") (names := ["java/lang/RuntimeException", "java/lang/Exception"]) X hex (by decide) (by decide) tw_1205 tw_127 th_X11_127a th_X11_127b th_X11_127c th_X11_127d (dcg dc_X11_partFound 13 rfl) (dcg dc_X11_partFound 14 rfl) (dcg dc_X11_partFound 15 rfl) (dcg dc_X11_partFound 16 rfl) (Nat.le_of_ble_eq_true rfl) (Nat.le_trans (Nat.add_le_add_right (room4 (Nat.le_of_ble_eq_true rfl)) _) (Nat.le_of_ble_eq_true rfl)) (show uc + 1 ≤ MC from (by have o0 := (show MC + X0 = hX h + 1 from hM); have o1 := hu; (try simp only [hX_sI, hX_sR, hX_sL, hX_sD, hX_sIa, hX_sRa, hV_sI, hV_sR, hV_sL, hV_sD, hV_sIa, hV_sRa, hX_new, hV_new] at o0 o1 ⊢); omega)) (show us + 6 ≤ MS from (by have o0 := (show MS + V0 = hV h + 6 from hN); have o1 := hv; (try simp only [hX_sI, hX_sR, hX_sL, hX_sD, hX_sIa, hX_sRa, hV_sI, hV_sR, hV_sL, hV_sD, hV_sIa, hV_sRa, hX_new, hV_new] at o0 o1 ⊢); omega)) (show uc + 1 ≤ MC from (by have o0 := (show MC + X0 = hX h + 1 from hM); have o1 := hu; (try simp only [hX_sI, hX_sR, hX_sL, hX_sD, hX_sIa, hX_sRa, hV_sI, hV_sR, hV_sL, hV_sD, hV_sIa, hV_sRa, hX_new, hV_new] at o0 o1 ⊢); omega)) (show us + 6 ≤ MS from (by have o0 := (show MS + V0 = hV h + 6 from hN); have o1 := hv; (try simp only [hX_sI, hX_sR, hX_sL, hX_sD, hX_sIa, hX_sRa, hV_sI, hV_sR, hV_sL, hV_sD, hV_sIa, hV_sRa, hX_new, hV_new] at o0 o1 ⊢); omega)) (fun n hn => ⟨_, n, rfl, rfl, hn, rfl⟩)
noncomputable def fX11_partFound_b12 (v0 : Nat) (v2 : Int32) (t0 : Option Nat) (h : PH) : Option ((Int32 × PH) ⊕ (Nat × PH)) :=
  if (v2 < 0) then (fX11_partFound_b25  h) else
  gs t0 (fun a7 =>
  gd (hK h a7 = 14) (bd (fJx4a65c_size_8abf5 a7 h) (fun z10 =>
  if (v2 < z10) then (bd (fJx4a65c_get_915e3 a7 v2 h) (fun z11 =>
  gs z11 (fun a12 =>
  gd (hK h a12 = 4) (gd (hK h v0 = 11) (bd (fX11_countFound v0 (some a12) h) (fun z16 =>
  some (.inl ((z16, h))))))))) else
  fX11_partFound_b25  h)))
set_option maxRecDepth 100000 in
theorem mX11_partFound_b12 {v0 : Nat} {v2 : Int32} {t0 : Option Nat} {h : PH} {r : ((Int32 × PH) ⊕ (Nat × PH))} (hf : fX11_partFound_b12 v0 v2 t0 h = some r) : lez h (xT2 r) (vT2 r) := by
  unfold fX11_partFound_b12 at hf
  have hle := lez_rf h
  rcases ite_or hf with ⟨q, hf⟩ | ⟨q, hf⟩
  · have hf := if_t q hf
    exact lez_rt (mX11_partFound_b25 hf) hle
  · have hf := if_f q hf
    obtain ⟨a7, e8, hf⟩ := gs_some hf
    obtain ⟨hk9, hf⟩ := gd_some hf
    obtain ⟨z10, hz10, hf⟩ := bd_some hf
    rcases ite_or hf with ⟨q, hf⟩ | ⟨q, hf⟩
    · have hf := if_t q hf
      obtain ⟨z11, hz11, hf⟩ := bd_some hf
      obtain ⟨a12, e13, hf⟩ := gs_some hf
      obtain ⟨hk14, hf⟩ := gd_some hf
      obtain ⟨hk15, hf⟩ := gd_some hf
      obtain ⟨z16, hz16, hf⟩ := bd_some hf
      have ee := Option.some.inj hf; subst ee; exact hle
    · have hf := if_f q hf
      exact lez_rt (mX11_partFound_b25 hf) hle
set_option maxRecDepth 100000 in
theorem wX11_partFound_b12 {E : PE} {p : Program} {l : Launch} {e : Env} {s : State} {m : MethodId} {args : Array Value} {below : List Frame} {meth : Method} {c : Code} {X0 V0 MC MS uc us : Nat} (X : Cx E p l e (rmv 53 MC MS) s m args below meth c RX11 cX11_partFound 4 (some .int)) (hG : Gs E l) (hex : ∀ x ∈ c.exceptionTable.toList, False) {v0 : Nat} {v2 : Int32} {t0 : Option Nat} {h : PH} {r : ((Int32 × PH) ⊕ (Nat × PH))} (hM : MC + X0 = (xT2 r)) (hN : MS + V0 = (vT2 r)) (hu : uc + X0 = hX h) (hv : us + V0 = hV h) (hf : fX11_partFound_b12 v0 v2 t0 h = some r)  : PW E p l e (rmv 53 MC MS) s m args below meth c 4 uc us (vx_MQ below (QG E (fun v u => ∃ z, r = .inl z ∧ v = some (.int z.1) ∧ u = z.2)) (XG E (fun En u => ∃ (z : Nat × PH) (n : Nat), r = .inr z ∧ En = exn z.1 ∧ hX z.2 ≤ n ∧ u = hbump z.2 n)) args s MC MS (pA E)) h 12 [(0, some (.ref v0)), (2, some (.int v2))] [va_rf t0] := by
  have hm1 : lez h (xT2 r) (vT2 r) := mX11_partFound_b12 hf
  have hcm : uc ≤ MC := (by have o0 := hm1.1; have o1 := hM; have o2 := hu; (try simp only [hX_sI, hX_sR, hX_sL, hX_sD, hX_sIa, hX_sRa, hV_sI, hV_sR, hV_sL, hV_sD, hV_sIa, hV_sRa, hX_new, hV_new] at o0 o1 o2 ⊢); omega)
  have hsm : us ≤ MS := (by have o0 := hm1.2; have o1 := hN; have o2 := hv; (try simp only [hX_sI, hX_sR, hX_sL, hX_sD, hX_sIa, hX_sRa, hV_sI, hV_sR, hV_sL, hV_sD, hV_sIa, hV_sRa, hX_new, hV_new] at o0 o1 o2 ⊢); omega)
  clear hm1
  unfold fX11_partFound_b12 at hf
  refine p_astoreq_n X (dcg dc_X11_partFound 6 rfl) rfl (by decide) rfl ?_
  refine p_iload_n X (dcg dc_X11_partFound 7 rfl) rfl rfl ?_
  refine p_if_lt (tgt := 25) X (dcg dc_X11_partFound 8 rfl) (by decide) (fun q => ?_) (fun q => ?_)
  · have hf := if_t q hf
    refine p_pick [] ?_
    exact wX11_partFound_b25 X hG hex hM hN hu hv hf 
  · have hf := if_f q hf
    refine p_iload_n X (dcg dc_X11_partFound 9 rfl) rfl rfl ?_
    refine p_aloadq_n X (dcg dc_X11_partFound 10 rfl) rfl rfl ?_
    obtain ⟨a7, e8, hf⟩ := gs_some hf
    first | subst e8 | (try rw [e8])
    obtain ⟨hk9, hf⟩ := gd_some hf
    obtain ⟨z10, hz10, hf⟩ := bd_some hf
    refine p_callV (As := []) X ml_X11_267 (dcg dc_X11_partFound 11 rfl) rfl rfl hk9 (wJx4a65c_size_8abf5 hG hz10) (by decide) (room4 (Nat.le_of_ble_eq_true rfl)) hcm hsm ?_
    rintro _ u9 ⟨rfl, e9⟩; have e9 := e9.symm; subst e9
    refine p_icmp_lt (tgt := 33) X (dcg dc_X11_partFound 12 rfl) (by decide) (fun q => ?_) (fun q => ?_)
    · have hf := if_t q hf
      refine p_aload_n X (dcg dc_X11_partFound 17 rfl) rfl rfl ?_
      refine p_aload_n X (dcg dc_X11_partFound 18 rfl) rfl rfl ?_
      refine p_iload_n X (dcg dc_X11_partFound 19 rfl) rfl rfl ?_
      obtain ⟨z11, hz11, hf⟩ := bd_some hf
      refine p_callV (As := [_]) X ml_X11_270 (dcg dc_X11_partFound 20 rfl) rfl rfl hk9 (wJx4a65c_get_915e3 hG hz11) (by decide) (room4 (Nat.le_of_ble_eq_true rfl)) hcm hsm ?_
      rintro _ u9 ⟨rfl, e9⟩; have e9 := e9.symm; subst e9
      obtain ⟨a12, e13, hf⟩ := gs_some hf
      first | subst e13 | (try rw [e13])
      obtain ⟨hk14, hf⟩ := gd_some hf
      refine p_cast (q := (RX4, TX4, 4)) X rfl tw_262 (dcg dc_X11_partFound 21 rfl) hk14 ?_
      obtain ⟨hk15, hf⟩ := gd_some hf
      obtain ⟨z16, hz16, hf⟩ := bd_some hf
      refine p_callV (As := [va_rf (some _)]) X ml_X11_274 (dcg dc_X11_partFound 22 rfl) rfl rfl hk15 (wX11_countFound hG hz16) (by decide) (room4 (Nat.le_of_ble_eq_true rfl)) hcm hsm ?_
      rintro _ u9 ⟨rfl, e9⟩; have e9 := e9.symm; subst e9
      have er := Option.some.inj hf
      subst er
      refine p_vx ?_
      exact p_iret X rfl (dcg dc_X11_partFound 23 rfl) ⟨_, rfl, rfl, rfl⟩ hcm hsm
    · have hf := if_f q hf
      refine p_pick [] ?_
      exact wX11_partFound_b25 X hG hex hM hN hu hv hf 
noncomputable def fX11_partFound_b9 (v0 : Nat) (v2 : Int32) (t0 : Option Nat) (h : PH) : Option ((Int32 × PH) ⊕ (Nat × PH)) :=
  bd (fX11_simplePartsOf t0 h) (fun z6 =>
  fX11_partFound_b12 v0 v2 z6.1 z6.2)
set_option maxRecDepth 100000 in
theorem mX11_partFound_b9 {v0 : Nat} {v2 : Int32} {t0 : Option Nat} {h : PH} {r : ((Int32 × PH) ⊕ (Nat × PH))} (hf : fX11_partFound_b9 v0 v2 t0 h = some r) : lez h (xT2 r) (vT2 r) := by
  unfold fX11_partFound_b9 at hf
  have hle := lez_rf h
  obtain ⟨z6, hz6, hf⟩ := bd_some hf
  have hle := lez_rt (mX11_simplePartsOf hz6) hle
  exact lez_rt (mX11_partFound_b12 hf) hle
set_option maxRecDepth 100000 in
theorem wX11_partFound_b9 {E : PE} {p : Program} {l : Launch} {e : Env} {s : State} {m : MethodId} {args : Array Value} {below : List Frame} {meth : Method} {c : Code} {X0 V0 MC MS uc us : Nat} (X : Cx E p l e (rmv 53 MC MS) s m args below meth c RX11 cX11_partFound 4 (some .int)) (hG : Gs E l) (hex : ∀ x ∈ c.exceptionTable.toList, False) {v0 : Nat} {v2 : Int32} {t0 : Option Nat} {h : PH} {r : ((Int32 × PH) ⊕ (Nat × PH))} (hM : MC + X0 = (xT2 r)) (hN : MS + V0 = (vT2 r)) (hu : uc + X0 = hX h) (hv : us + V0 = hV h) (hf : fX11_partFound_b9 v0 v2 t0 h = some r)  : PW E p l e (rmv 53 MC MS) s m args below meth c 4 uc us (vx_MQ below (QG E (fun v u => ∃ z, r = .inl z ∧ v = some (.int z.1) ∧ u = z.2)) (XG E (fun En u => ∃ (z : Nat × PH) (n : Nat), r = .inr z ∧ En = exn z.1 ∧ hX z.2 ≤ n ∧ u = hbump z.2 n)) args s MC MS (pA E)) h 9 [(0, some (.ref v0)), (2, some (.int v2))] [va_rf t0] := by
  have hm1 : lez h (xT2 r) (vT2 r) := mX11_partFound_b9 hf
  have hcm : uc ≤ MC := (by have o0 := hm1.1; have o1 := hM; have o2 := hu; (try simp only [hX_sI, hX_sR, hX_sL, hX_sD, hX_sIa, hX_sRa, hV_sI, hV_sR, hV_sL, hV_sD, hV_sIa, hV_sRa, hX_new, hV_new] at o0 o1 o2 ⊢); omega)
  have hsm : us ≤ MS := (by have o0 := hm1.2; have o1 := hN; have o2 := hv; (try simp only [hX_sI, hX_sR, hX_sL, hX_sD, hX_sIa, hX_sRa, hV_sI, hV_sR, hV_sL, hV_sD, hV_sIa, hV_sRa, hX_new, hV_new] at o0 o1 o2 ⊢); omega)
  clear hm1
  unfold fX11_partFound_b9 at hf
  obtain ⟨z6, hz6, hf⟩ := bd_some hf
  have hc1 := mX11_simplePartsOf hz6
  have hm1 : lez _ (xT2 r) (vT2 r) := mX11_partFound_b12 hf
  refine p_callS (As := [va_rf _]) X ml_X11_263 (dcg dc_X11_partFound 5 rfl) rfl rfl  (wX11_simplePartsOf hG hz6) (by decide) (room4 (Nat.le_of_ble_eq_true rfl)) (by have o0 := hm1.1; have o1 := hc1.1; have o2 := hM; have o3 := hu; (try simp only [hX_sI, hX_sR, hX_sL, hX_sD, hX_sIa, hX_sRa, hV_sI, hV_sR, hV_sL, hV_sD, hV_sIa, hV_sRa, hX_new, hV_new] at o0 o1 o2 o3 ⊢); omega) (by have o0 := hm1.2; have o1 := hc1.2; have o2 := hN; have o3 := hv; (try simp only [hX_sI, hX_sR, hX_sL, hX_sD, hX_sIa, hX_sRa, hV_sI, hV_sR, hV_sL, hV_sD, hV_sIa, hV_sRa, hX_new, hV_new] at o0 o1 o2 o3 ⊢); omega) ?_
  rintro _ u9 ⟨rfl, e9⟩; have e9 := e9.symm; subst e9
  refine p_pick [0, 2] ?_
  exact wX11_partFound_b12 X hG hex hM hN (by have o0 := hc1.1; have o1 := hu; (try simp only [hX_sI, hX_sR, hX_sL, hX_sD, hX_sIa, hX_sRa, hV_sI, hV_sR, hV_sL, hV_sD, hV_sIa, hV_sRa, hX_new, hV_new] at o0 o1 ⊢); omega) (by have o0 := hc1.2; have o1 := hv; (try simp only [hX_sI, hX_sR, hX_sL, hX_sD, hX_sIa, hX_sRa, hV_sI, hV_sR, hV_sL, hV_sD, hV_sIa, hV_sRa, hX_new, hV_new] at o0 o1 ⊢); omega) hf 
noncomputable def fX11_partFound_b4 (v0 : Nat) (v1 : Int32) (v2 : Int32) (h : PH) : Option ((Int32 × PH) ⊕ (Nat × PH)) :=
  gd (hK h v0 = 11) (bx (fX11_demandKept v0 v1 h) (fun z4 =>
  fX11_partFound_b9 v0 v2 z4.1 z4.2))
set_option maxRecDepth 100000 in
theorem mX11_partFound_b4 {v0 : Nat} {v1 : Int32} {v2 : Int32} {h : PH} {r : ((Int32 × PH) ⊕ (Nat × PH))} (hf : fX11_partFound_b4 v0 v1 v2 h = some r) : lez h (xT2 r) (vT2 r) := by
  unfold fX11_partFound_b4 at hf
  have hle := lez_rf h
  obtain ⟨hk3, hf⟩ := gd_some hf
  obtain ⟨y5, hy5, h1y5, h2y5⟩ := bx_some hf
  have hc1 := mX11_demandKept hy5
  rcases y5 with z4 | z4
  · have hf := h1y5 z4 rfl
    have hle : lez h (hX z4.2) (hV z4.2) := lez_rt hc1 hle
    exact lez_rt (mX11_partFound_b9 hf) hle
  · have hr9 := h2y5 z4 rfl
    subst hr9
    exact lez_rt hc1 hle
set_option maxRecDepth 100000 in
theorem wX11_partFound_b4 {E : PE} {p : Program} {l : Launch} {e : Env} {s : State} {m : MethodId} {args : Array Value} {below : List Frame} {meth : Method} {c : Code} {X0 V0 MC MS uc us : Nat} (X : Cx E p l e (rmv 53 MC MS) s m args below meth c RX11 cX11_partFound 4 (some .int)) (hG : Gs E l) (hex : ∀ x ∈ c.exceptionTable.toList, False) {v0 : Nat} {v1 : Int32} {v2 : Int32} {h : PH} {r : ((Int32 × PH) ⊕ (Nat × PH))} (hM : MC + X0 = (xT2 r)) (hN : MS + V0 = (vT2 r)) (hu : uc + X0 = hX h) (hv : us + V0 = hV h) (hf : fX11_partFound_b4 v0 v1 v2 h = some r)  : PW E p l e (rmv 53 MC MS) s m args below meth c 4 uc us (vx_MQ below (QG E (fun v u => ∃ z, r = .inl z ∧ v = some (.int z.1) ∧ u = z.2)) (XG E (fun En u => ∃ (z : Nat × PH) (n : Nat), r = .inr z ∧ En = exn z.1 ∧ hX z.2 ≤ n ∧ u = hbump z.2 n)) args s MC MS (pA E)) h 4 [(0, some (.ref v0)), (1, some (.int v1)), (2, some (.int v2))] [] := by
  have hm1 : lez h (xT2 r) (vT2 r) := mX11_partFound_b4 hf
  have hcm : uc ≤ MC := (by have o0 := hm1.1; have o1 := hM; have o2 := hu; (try simp only [hX_sI, hX_sR, hX_sL, hX_sD, hX_sIa, hX_sRa, hV_sI, hV_sR, hV_sL, hV_sD, hV_sIa, hV_sRa, hX_new, hV_new] at o0 o1 o2 ⊢); omega)
  have hsm : us ≤ MS := (by have o0 := hm1.2; have o1 := hN; have o2 := hv; (try simp only [hX_sI, hX_sR, hX_sL, hX_sD, hX_sIa, hX_sRa, hV_sI, hV_sR, hV_sL, hV_sD, hV_sIa, hV_sRa, hX_new, hV_new] at o0 o1 o2 ⊢); omega)
  clear hm1
  unfold fX11_partFound_b4 at hf
  refine p_aload_n X (dcg dc_X11_partFound 2 rfl) rfl rfl ?_
  refine p_iload_n X (dcg dc_X11_partFound 3 rfl) rfl rfl ?_
  obtain ⟨hk3, hf⟩ := gd_some hf
  obtain ⟨y5, hy5, h1y5, h2y5⟩ := bx_some hf
  have hc1 := mX11_demandKept hy5
  rcases y5 with z4 | z4
  · have hf := h1y5 z4 rfl
    have hm1 : lez _ (xT2 r) (vT2 r) := mX11_partFound_b9 hf
    refine p_callVX (As := [_]) X hex ml_X11_244 (dcg dc_X11_partFound 4 rfl) rfl rfl hk3 (wX11_demandKept hG hy5) (by decide) (room4 (Nat.le_of_ble_eq_true rfl)) (show uc + (hX z4.2 - hX h) ≤ MC from (by have o0 := hm1.1; have o1 := (show lez h (hX z4.2) (hV z4.2) from hc1).1; have o2 := hM; have o3 := hu; (try simp only [hX_sI, hX_sR, hX_sL, hX_sD, hX_sIa, hX_sRa, hV_sI, hV_sR, hV_sL, hV_sD, hV_sIa, hV_sRa, hX_new, hV_new] at o0 o1 o2 o3 ⊢); omega)) (show us + (hV z4.2 - hV h) ≤ MS from (by have o0 := hm1.2; have o1 := (show lez h (hX z4.2) (hV z4.2) from hc1).2; have o2 := hN; have o3 := hv; (try simp only [hX_sI, hX_sR, hX_sL, hX_sD, hX_sIa, hX_sRa, hV_sI, hV_sR, hV_sL, hV_sD, hV_sIa, hV_sRa, hX_new, hV_new] at o0 o1 o2 o3 ⊢); omega)) (show uc + (hX z4.2 - hX h) ≤ MC from (by have o0 := hm1.1; have o1 := (show lez h (hX z4.2) (hV z4.2) from hc1).1; have o2 := hM; have o3 := hu; (try simp only [hX_sI, hX_sR, hX_sL, hX_sD, hX_sIa, hX_sRa, hV_sI, hV_sR, hV_sL, hV_sD, hV_sIa, hV_sRa, hX_new, hV_new] at o0 o1 o2 o3 ⊢); omega)) (show us + (hV z4.2 - hV h) ≤ MS from (by have o0 := hm1.2; have o1 := (show lez h (hX z4.2) (hV z4.2) from hc1).2; have o2 := hN; have o3 := hv; (try simp only [hX_sI, hX_sR, hX_sL, hX_sD, hX_sIa, hX_sRa, hV_sI, hV_sR, hV_sL, hV_sD, hV_sIa, hV_sRa, hX_new, hV_new] at o0 o1 o2 o3 ⊢); omega)) (fun En u q => by obtain ⟨z9, n9, q9, _⟩ := q; cases q9) ?_
    rintro _ _ ⟨z9, hz9, rfl, rfl⟩
    cases hz9
    refine p_pick [0, 2] ?_
    exact wX11_partFound_b9 X hG hex hM hN (show uc + (hX z4.2 - hX h) + X0 = hX z4.2 from (by have o0 := (show lez h (hX z4.2) (hV z4.2) from hc1).1; have o1 := hu; (try simp only [hX_sI, hX_sR, hX_sL, hX_sD, hX_sIa, hX_sRa, hV_sI, hV_sR, hV_sL, hV_sD, hV_sIa, hV_sRa, hX_new, hV_new] at o0 o1 ⊢); omega)) (show us + (hV z4.2 - hV h) + V0 = hV z4.2 from (by have o0 := (show lez h (hX z4.2) (hV z4.2) from hc1).2; have o1 := hv; (try simp only [hX_sI, hX_sR, hX_sL, hX_sD, hX_sIa, hX_sRa, hV_sI, hV_sR, hV_sL, hV_sD, hV_sIa, hV_sRa, hX_new, hV_new] at o0 o1 ⊢); omega)) hf 
  · have hr9 := h2y5 z4 rfl
    subst hr9
    refine p_callVX (As := [_]) X hex ml_X11_244 (dcg dc_X11_partFound 4 rfl) rfl rfl hk3 (wX11_demandKept hG hy5) (by decide) (room4 (Nat.le_of_ble_eq_true rfl)) (show uc + (hX z4.2 + 1 - hX h) ≤ MC from (by have o0 := (show lez h (hX z4.2 + 1) (hV z4.2 + 6) from hc1).1; have o1 := (show MC + X0 = hX z4.2 + 1 from hM); have o2 := hu; (try simp only [hX_sI, hX_sR, hX_sL, hX_sD, hX_sIa, hX_sRa, hV_sI, hV_sR, hV_sL, hV_sD, hV_sIa, hV_sRa, hX_new, hV_new] at o0 o1 o2 ⊢); omega)) (show us + (hV z4.2 + 6 - hV h) ≤ MS from (by have o0 := (show lez h (hX z4.2 + 1) (hV z4.2 + 6) from hc1).2; have o1 := (show MS + V0 = hV z4.2 + 6 from hN); have o2 := hv; (try simp only [hX_sI, hX_sR, hX_sL, hX_sD, hX_sIa, hX_sRa, hV_sI, hV_sR, hV_sL, hV_sD, hV_sIa, hV_sRa, hX_new, hV_new] at o0 o1 o2 ⊢); omega)) (show uc + (hX z4.2 + 1 - hX h) ≤ MC from (by have o0 := (show lez h (hX z4.2 + 1) (hV z4.2 + 6) from hc1).1; have o1 := (show MC + X0 = hX z4.2 + 1 from hM); have o2 := hu; (try simp only [hX_sI, hX_sR, hX_sL, hX_sD, hX_sIa, hX_sRa, hV_sI, hV_sR, hV_sL, hV_sD, hV_sIa, hV_sRa, hX_new, hV_new] at o0 o1 o2 ⊢); omega)) (show us + (hV z4.2 + 6 - hV h) ≤ MS from (by have o0 := (show lez h (hX z4.2 + 1) (hV z4.2 + 6) from hc1).2; have o1 := (show MS + V0 = hV z4.2 + 6 from hN); have o2 := hv; (try simp only [hX_sI, hX_sR, hX_sL, hX_sD, hX_sIa, hX_sRa, hV_sI, hV_sR, hV_sL, hV_sD, hV_sIa, hV_sRa, hX_new, hV_new] at o0 o1 o2 ⊢); omega)) (fun En u q => by obtain ⟨z9, n9, q9, q8⟩ := q; cases q9; exact ⟨_, n9, rfl, q8⟩) ?_
    rintro _ _ ⟨z9, hz9, _⟩
    cases hz9
noncomputable def fX11_partFound_b0 (v0 : Nat) (v1 : Int32) (v2 : Int32) (h : PH) : Option ((Int32 × PH) ⊕ (Nat × PH)) :=
  bx (fX11_demandKeptPlace v1 h) (fun z1 =>
  fX11_partFound_b4 v0 v1 v2 z1)
set_option maxRecDepth 100000 in
theorem mX11_partFound_b0 {v0 : Nat} {v1 : Int32} {v2 : Int32} {h : PH} {r : ((Int32 × PH) ⊕ (Nat × PH))} (hf : fX11_partFound_b0 v0 v1 v2 h = some r) : lez h (xT2 r) (vT2 r) := by
  unfold fX11_partFound_b0 at hf
  have hle := lez_rf h
  obtain ⟨y2, hy2, h1y2, h2y2⟩ := bx_some hf
  have hc1 := mX11_demandKeptPlace hy2
  rcases y2 with z1 | z1
  · have hf := h1y2 z1 rfl
    have hle : lez h (hX z1) (hV z1) := lez_rt hc1 hle
    exact lez_rt (mX11_partFound_b4 hf) hle
  · have hr9 := h2y2 z1 rfl
    subst hr9
    exact lez_rt hc1 hle
set_option maxRecDepth 100000 in
theorem wX11_partFound_b0 {E : PE} {p : Program} {l : Launch} {e : Env} {s : State} {m : MethodId} {args : Array Value} {below : List Frame} {meth : Method} {c : Code} {X0 V0 MC MS uc us : Nat} (X : Cx E p l e (rmv 53 MC MS) s m args below meth c RX11 cX11_partFound 4 (some .int)) (hG : Gs E l) (hex : ∀ x ∈ c.exceptionTable.toList, False) {v0 : Nat} {v1 : Int32} {v2 : Int32} {h : PH} {r : ((Int32 × PH) ⊕ (Nat × PH))} (hM : MC + X0 = (xT2 r)) (hN : MS + V0 = (vT2 r)) (hu : uc + X0 = hX h) (hv : us + V0 = hV h) (hf : fX11_partFound_b0 v0 v1 v2 h = some r)  : PW E p l e (rmv 53 MC MS) s m args below meth c 4 uc us (vx_MQ below (QG E (fun v u => ∃ z, r = .inl z ∧ v = some (.int z.1) ∧ u = z.2)) (XG E (fun En u => ∃ (z : Nat × PH) (n : Nat), r = .inr z ∧ En = exn z.1 ∧ hX z.2 ≤ n ∧ u = hbump z.2 n)) args s MC MS (pA E)) h 0 [(0, some (.ref v0)), (1, some (.int v1)), (2, some (.int v2))] [] := by
  have hm1 : lez h (xT2 r) (vT2 r) := mX11_partFound_b0 hf
  have hcm : uc ≤ MC := (by have o0 := hm1.1; have o1 := hM; have o2 := hu; (try simp only [hX_sI, hX_sR, hX_sL, hX_sD, hX_sIa, hX_sRa, hV_sI, hV_sR, hV_sL, hV_sD, hV_sIa, hV_sRa, hX_new, hV_new] at o0 o1 o2 ⊢); omega)
  have hsm : us ≤ MS := (by have o0 := hm1.2; have o1 := hN; have o2 := hv; (try simp only [hX_sI, hX_sR, hX_sL, hX_sD, hX_sIa, hX_sRa, hV_sI, hV_sR, hV_sL, hV_sD, hV_sIa, hV_sRa, hX_new, hV_new] at o0 o1 o2 ⊢); omega)
  clear hm1
  unfold fX11_partFound_b0 at hf
  refine p_iload_n X (dcg dc_X11_partFound 0 rfl) rfl rfl ?_
  obtain ⟨y2, hy2, h1y2, h2y2⟩ := bx_some hf
  have hc1 := mX11_demandKeptPlace hy2
  rcases y2 with z1 | z1
  · have hf := h1y2 z1 rfl
    have hm1 : lez _ (xT2 r) (vT2 r) := mX11_partFound_b4 hf
    refine p_callSX (As := [_]) X hex ml_X11_241 (dcg dc_X11_partFound 1 rfl) rfl rfl  (wX11_demandKeptPlace hG hy2) (by decide) (room4 (Nat.le_of_ble_eq_true rfl)) (show uc + (hX z1 - hX h) ≤ MC from (by have o0 := hm1.1; have o1 := (show lez h (hX z1) (hV z1) from hc1).1; have o2 := hM; have o3 := hu; (try simp only [hX_sI, hX_sR, hX_sL, hX_sD, hX_sIa, hX_sRa, hV_sI, hV_sR, hV_sL, hV_sD, hV_sIa, hV_sRa, hX_new, hV_new] at o0 o1 o2 o3 ⊢); omega)) (show us + (hV z1 - hV h) ≤ MS from (by have o0 := hm1.2; have o1 := (show lez h (hX z1) (hV z1) from hc1).2; have o2 := hN; have o3 := hv; (try simp only [hX_sI, hX_sR, hX_sL, hX_sD, hX_sIa, hX_sRa, hV_sI, hV_sR, hV_sL, hV_sD, hV_sIa, hV_sRa, hX_new, hV_new] at o0 o1 o2 o3 ⊢); omega)) (show uc + (hX z1 - hX h) ≤ MC from (by have o0 := hm1.1; have o1 := (show lez h (hX z1) (hV z1) from hc1).1; have o2 := hM; have o3 := hu; (try simp only [hX_sI, hX_sR, hX_sL, hX_sD, hX_sIa, hX_sRa, hV_sI, hV_sR, hV_sL, hV_sD, hV_sIa, hV_sRa, hX_new, hV_new] at o0 o1 o2 o3 ⊢); omega)) (show us + (hV z1 - hV h) ≤ MS from (by have o0 := hm1.2; have o1 := (show lez h (hX z1) (hV z1) from hc1).2; have o2 := hN; have o3 := hv; (try simp only [hX_sI, hX_sR, hX_sL, hX_sD, hX_sIa, hX_sRa, hV_sI, hV_sR, hV_sL, hV_sD, hV_sIa, hV_sRa, hX_new, hV_new] at o0 o1 o2 o3 ⊢); omega)) (fun En u q => by obtain ⟨z9, n9, q9, _⟩ := q; cases q9) ?_
    rintro _ _ ⟨z9, hz9, rfl, rfl⟩
    cases hz9
    refine p_pick [0, 1, 2] ?_
    exact wX11_partFound_b4 X hG hex hM hN (show uc + (hX z1 - hX h) + X0 = hX z1 from (by have o0 := (show lez h (hX z1) (hV z1) from hc1).1; have o1 := hu; (try simp only [hX_sI, hX_sR, hX_sL, hX_sD, hX_sIa, hX_sRa, hV_sI, hV_sR, hV_sL, hV_sD, hV_sIa, hV_sRa, hX_new, hV_new] at o0 o1 ⊢); omega)) (show us + (hV z1 - hV h) + V0 = hV z1 from (by have o0 := (show lez h (hX z1) (hV z1) from hc1).2; have o1 := hv; (try simp only [hX_sI, hX_sR, hX_sL, hX_sD, hX_sIa, hX_sRa, hV_sI, hV_sR, hV_sL, hV_sD, hV_sIa, hV_sRa, hX_new, hV_new] at o0 o1 ⊢); omega)) hf 
  · have hr9 := h2y2 z1 rfl
    subst hr9
    refine p_callSX (As := [_]) X hex ml_X11_241 (dcg dc_X11_partFound 1 rfl) rfl rfl  (wX11_demandKeptPlace hG hy2) (by decide) (room4 (Nat.le_of_ble_eq_true rfl)) (show uc + (hX z1.2 + 1 - hX h) ≤ MC from (by have o0 := (show lez h (hX z1.2 + 1) (hV z1.2 + 6) from hc1).1; have o1 := (show MC + X0 = hX z1.2 + 1 from hM); have o2 := hu; (try simp only [hX_sI, hX_sR, hX_sL, hX_sD, hX_sIa, hX_sRa, hV_sI, hV_sR, hV_sL, hV_sD, hV_sIa, hV_sRa, hX_new, hV_new] at o0 o1 o2 ⊢); omega)) (show us + (hV z1.2 + 6 - hV h) ≤ MS from (by have o0 := (show lez h (hX z1.2 + 1) (hV z1.2 + 6) from hc1).2; have o1 := (show MS + V0 = hV z1.2 + 6 from hN); have o2 := hv; (try simp only [hX_sI, hX_sR, hX_sL, hX_sD, hX_sIa, hX_sRa, hV_sI, hV_sR, hV_sL, hV_sD, hV_sIa, hV_sRa, hX_new, hV_new] at o0 o1 o2 ⊢); omega)) (show uc + (hX z1.2 + 1 - hX h) ≤ MC from (by have o0 := (show lez h (hX z1.2 + 1) (hV z1.2 + 6) from hc1).1; have o1 := (show MC + X0 = hX z1.2 + 1 from hM); have o2 := hu; (try simp only [hX_sI, hX_sR, hX_sL, hX_sD, hX_sIa, hX_sRa, hV_sI, hV_sR, hV_sL, hV_sD, hV_sIa, hV_sRa, hX_new, hV_new] at o0 o1 o2 ⊢); omega)) (show us + (hV z1.2 + 6 - hV h) ≤ MS from (by have o0 := (show lez h (hX z1.2 + 1) (hV z1.2 + 6) from hc1).2; have o1 := (show MS + V0 = hV z1.2 + 6 from hN); have o2 := hv; (try simp only [hX_sI, hX_sR, hX_sL, hX_sD, hX_sIa, hX_sRa, hV_sI, hV_sR, hV_sL, hV_sD, hV_sIa, hV_sRa, hX_new, hV_new] at o0 o1 o2 ⊢); omega)) (fun En u q => by obtain ⟨z9, n9, q9, q8⟩ := q; cases q9; exact ⟨_, n9, rfl, q8⟩) ?_
    rintro _ _ ⟨z9, hz9, _⟩
    cases hz9
noncomputable def fX11_partFound (v0 : Nat) (v1 : Int32) (v2 : Int32) (h : PH) : Option ((Int32 × PH) ⊕ (Nat × PH)) :=
  fX11_partFound_b0 v0 v1 v2 h
set_option maxRecDepth 100000 in
theorem mX11_partFound {v0 : Nat} {v1 : Int32} {v2 : Int32} {h : PH} {r : ((Int32 × PH) ⊕ (Nat × PH))} (hf : fX11_partFound v0 v1 v2 h = some r) : lez h (xT2 r) (vT2 r) := by
  unfold fX11_partFound at hf
  have hle := lez_rf h
  exact lez_rt (mX11_partFound_b0 hf) hle
set_option maxRecDepth 100000 in
theorem wX11_partFound {E : PE} {l : Launch} (hG : Gs E l) {v0 : Nat} {v1 : Int32} {v2 : Int32} {h : PH} {r : ((Int32 × PH) ⊕ (Nat × PH))} (hf : fX11_partFound v0 v1 v2 h = some r) : CtX E l 53 ((xT2 r) - hX h) ((vT2 r) - hV h) yX11_partFound cX11_partFound 4 (some .int) [.ref v0, .int v1, .int v2] h (fun v u => ∃ z, r = .inl z ∧ v = some (.int z.1) ∧ u = z.2) (fun En u => ∃ (z : Nat × PH) (n : Nat), r = .inr z ∧ En = exn z.1 ∧ hX z.2 ≤ n ∧ u = hbump z.2 n) := by
  have hmm := mX11_partFound hf
  refine ctx_of hG (by decide) (Nat.le_of_ble_eq_true rfl) ?_
  intro p e s m args below meth c X hex
  show PW E p l e _ s m args below meth c _ 0 0 _ h 0 [(0, some (.ref v0)), (1, some (.int v1)), (2, some (.int v2))] []
  unfold fX11_partFound at hf
  have hM := Nat.sub_add_cancel hmm.1
  have hN := Nat.sub_add_cancel hmm.2
  refine p_pick [0, 1, 2] ?_
  exact wX11_partFound_b0 X hG hex hM hN (Nat.zero_add _) (Nat.zero_add _) hf
theorem dc_J7_rangeCheck_23922 : decs cJ7_rangeCheck_23922 [(0, .iload_n 1, 1), (1, .iload_n 2, 1), (2, .if_icmp .le 44, 3), (5, .new 43, 3), (8, .dup, 1), (9, .new 45, 3), (12, .dup, 1), (13, .invokespecial 47, 3), (16, .ldc 48, 2), (18, .invokevirtual 50, 3), (21, .iload_n 1, 1), (22, .invokevirtual 54, 3), (25, .ldc 57, 2), (27, .invokevirtual 50, 3), (30, .iload_n 2, 1), (31, .invokevirtual 54, 3), (34, .ldc 59, 2), (36, .invokevirtual 50, 3), (39, .invokevirtual 61, 3), (42, .invokespecial 65, 3), (45, .athrow, 1), (46, .iload_n 1, 1), (47, .ifCond .ge 12, 3), (50, .new 68, 3), (53, .dup, 1), (54, .iload_n 1, 1), (55, .invokespecial 70, 3), (58, .athrow, 1), (59, .iload_n 2, 1), (60, .iload_n 0, 1), (61, .if_icmp .le 12, 3), (64, .new 68, 3), (67, .dup, 1), (68, .iload_n 2, 1), (69, .invokespecial 70, 3), (72, .athrow, 1), (73, .return_, 1)] = true := by decide +kernel
noncomputable def fJ7_rangeCheck_23922 (v0 : Int32) (v1 : Int32) (v2 : Int32) : Option Unit :=
  if (v1 ≤ v2) then (if (0 ≤ v1) then (if (v2 ≤ v0) then (some (())) else
  none) else
  none) else
  none
set_option maxRecDepth 100000 in
theorem wJ7_rangeCheck_23922 {E : PE} {l : Launch} (hG : Gs E l) {v0 : Int32} {v1 : Int32} {v2 : Int32} {h : PH} {r : Unit} (hf : fJ7_rangeCheck_23922 v0 v1 v2 = some r) : Ct E l 0 0 0 yJ7_rangeCheck_23922 cJ7_rangeCheck_23922 3 (none) [.int v0, .int v1, .int v2] h (fun v u => v = none ∧ u = h) := by
  refine ct_of hG (by decide) (Nat.le_of_ble_eq_true rfl) ?_
  intro p e s m args below meth c X hnm
  show PW E p l e _ s m args below meth c _ 0 0 _ h 0 [(0, some (.int v0)), (1, some (.int v1)), (2, some (.int v2))] []
  unfold fJ7_rangeCheck_23922 at hf
  refine p_iload_n X (dcg dc_J7_rangeCheck_23922 0 rfl) rfl rfl ?_
  refine p_iload_n X (dcg dc_J7_rangeCheck_23922 1 rfl) rfl rfl ?_
  refine p_icmp_le (tgt := 46) X (dcg dc_J7_rangeCheck_23922 2 rfl) (by decide) (fun q => ?_) (fun q => ?_)
  · have hf := if_t q hf
    refine p_iload_n X (dcg dc_J7_rangeCheck_23922 21 rfl) rfl rfl ?_
    refine p_if_ge (tgt := 59) X (dcg dc_J7_rangeCheck_23922 22 rfl) (by decide) (fun q => ?_) (fun q => ?_)
    · have hf := if_t q hf
      refine p_iload_n X (dcg dc_J7_rangeCheck_23922 28 rfl) rfl rfl ?_
      refine p_iload_n X (dcg dc_J7_rangeCheck_23922 29 rfl) rfl rfl ?_
      refine p_icmp_le (tgt := 73) X (dcg dc_J7_rangeCheck_23922 30 rfl) (by decide) (fun q => ?_) (fun q => ?_)
      · have hf := if_t q hf
        have er := Option.some.inj hf
        subst er
        exact p_vret X rfl (dcg dc_J7_rangeCheck_23922 36 rfl) ⟨rfl, rfl⟩ (Nat.le_refl _) (Nat.le_refl _)
      · have hf := if_f q hf
        cases hf
    · have hf := if_f q hf
      cases hf
  · have hf := if_f q hf
    cases hf
theorem dc_J7_fill_eb02e : decs cJ7_fill_eb02e [(0, .aload_n 0, 1), (1, .arraylength, 1), (2, .iload_n 1, 1), (3, .iload_n 2, 1), (4, .invokestatic 13, 3), (7, .iload_n 1, 1), (8, .istore 4, 2), (10, .iload 4, 2), (12, .iload_n 2, 1), (13, .if_icmp .ge 14, 3), (16, .aload_n 0, 1), (17, .iload 4, 2), (19, .iload_n 3, 1), (20, .bastore, 1), (21, .iinc 4 1, 3), (24, .goto (-14), 3), (27, .return_, 1)] = true := by decide +kernel
noncomputable def fJ7_fill_eb02e_c10 (v0 : Option Nat) (v2 : Int32) (v3 : Int32) (v4 : Int32) (h : PH) : Option ((Int32 × PH) ⊕ PH) :=
  if (v2 ≤ v4) then (mr (some (h))) else
  gs v0 (fun a7 =>
  gd (hK h a7 = 22 ∧ inb v4 (hN h a7)) (lt (sI h 22 a7 (Int32.toNatClampNeg v4) (Int32.toInt8 v3).toInt32) (fun h11 =>
  some (.inl ((v4 + 1), h11)))))
set_option maxRecDepth 100000 in
theorem mJ7_fill_eb02e_c10 {v0 : Option Nat} {v2 : Int32} {v3 : Int32} {v4 : Int32} {h : PH} {x : ((Int32 × PH) ⊕ PH)} (hf : fJ7_fill_eb02e_c10 v0 v2 v3 v4 h = some x) : (∀ w9 : (Int32 × PH), x = .inl w9 → eqz h (hX (w9.2)) (hV (w9.2))) ∧ (∀ w9 : PH, x = .inr w9 → eqz h (hX w9) (hV w9)) := by
  unfold fJ7_fill_eb02e_c10 at hf
  have hle := eqz_rf h
  rcases ite_or hf with ⟨q, hf⟩ | ⟨q, hf⟩
  · have hf := if_t q hf
    obtain ⟨y5, hfm, rfl⟩ := mr_some hf; have hf := hfm; clear hfm
    have ee := Option.some.inj hf; subst ee
    exact ⟨(fun z e => nomatch e), (fun z e => by have ee := Sum.inr.inj (e); subst ee; exact hle)⟩
  · have hf := if_f q hf
    obtain ⟨a7, e8, hf⟩ := gs_some hf
    obtain ⟨⟨hk10, hb9⟩, hf⟩ := gd_some hf
    obtain ⟨h11, rfl, hf⟩ := lt_some hf
    have ee := Option.some.inj hf; subst ee
    exact ⟨(fun z e => by have ee := Sum.inl.inj (e); subst ee; exact hle), (fun z e => nomatch e)⟩
set_option maxRecDepth 100000 in
theorem wJ7_fill_eb02e_c10 {E : PE} {p : Program} {l : Launch} {e : Env} {s : State} {m : MethodId} {args : Array Value} {below : List Frame} {meth : Method} {c : Code} (X : Cx E p l e (rmv 1 0 0) s m args below meth c RJ7 cJ7_fill_eb02e 5 (none)) (hG : Gs E l) (hnm : meth.name = yJ7_fill_eb02e.name) {v0 : Option Nat} {v2 : Int32} {v3 : Int32} {v4 : Int32} {h : PH} {r : PH} {x : ((Int32 × PH) ⊕ PH)} (hf : fJ7_fill_eb02e_c10 v0 v2 v3 v4 h = some x) (k0 : ∀ z : (Int32 × PH), x = .inl z → PW E p l e (rmv 1 0 0) s m args below meth c 5 0 0 (MQ below (QG E (fun v u => v = none ∧ u = r)) args s 0 0 (pA E)) (z.2) 10 [(0, some (va_rf v0)), (2, some (.int v2)), (3, some (.int v3)), (4, some (.int (z.1)))] []) (kf : ∀ z : PH, x = .inr z → z = r) : PW E p l e (rmv 1 0 0) s m args below meth c 5 0 0 (MQ below (QG E (fun v u => v = none ∧ u = r)) args s 0 0 (pA E)) h 10 [(0, some (va_rf v0)), (2, some (.int v2)), (3, some (.int v3)), (4, some (.int v4))] [] := by
  unfold fJ7_fill_eb02e_c10 at hf
  refine p_iload X (dcg dc_J7_fill_eb02e 7 rfl) rfl ?_
  refine p_iload_n X (dcg dc_J7_fill_eb02e 8 rfl) rfl rfl ?_
  refine p_icmp_ge (tgt := 27) X (dcg dc_J7_fill_eb02e 9 rfl) (by decide) (fun q => ?_) (fun q => ?_)
  · have hf := if_t q hf
    obtain ⟨y5, hf, hy6⟩ := mr_some hf
    have hy6f := kf y5 hy6
    subst hy6f
    have er := Option.some.inj hf
    subst er
    exact p_vret X rfl (dcg dc_J7_fill_eb02e 16 rfl) ⟨rfl, rfl⟩ (Nat.le_refl _) (Nat.le_refl _)
  · have hf := if_f q hf
    refine p_aloadq_n X (dcg dc_J7_fill_eb02e 10 rfl) rfl rfl ?_
    refine p_iload X (dcg dc_J7_fill_eb02e 11 rfl) rfl ?_
    refine p_iload_n X (dcg dc_J7_fill_eb02e 12 rfl) rfl rfl ?_
    obtain ⟨a7, e8, hf⟩ := gs_some hf
    first | subst e8 | (try rw [e8])
    obtain ⟨⟨hk10, hb9⟩, hf⟩ := gd_some hf
    refine p_bast X (dcg dc_J7_fill_eb02e 13 rfl) hk10 (vp_of_inb hb9) ?_
    obtain ⟨h11, rfl, hf⟩ := lt_some hf
    refine p_iinc (v := 1) X (dcg dc_J7_fill_eb02e 14 rfl) rfl (by decide) (by decide) rfl ?_
    refine p_goto (tgt := 10) X (dcg dc_J7_fill_eb02e 15 rfl) (by decide) ?_
    refine p_pick [0, 2, 3, 4] ?_
    exact k0 _ (Option.some.inj hf).symm
noncomputable def fJ7_fill_eb02e_l10 (v0 : Option Nat) (v2 : Int32) (v3 : Int32) (v4 : Int32) (h : PH) : Option PH := wh (fun z : (Int32 × PH) => fJ7_fill_eb02e_c10 v0 v2 v3 (z.1) (z.2)) (v4, h)
set_option maxRecDepth 100000 in
theorem mJ7_fill_eb02e_l10 {v0 : Option Nat} {v2 : Int32} {v3 : Int32} {v4 : Int32} {h : PH} {r : PH} (hf : fJ7_fill_eb02e_l10 v0 v2 v3 v4 h = some r) : eqz h (hX r) (hV r) := by
  unfold fJ7_fill_eb02e_l10 at hf
  refine wh_ind (P := fun z => eqz (z.2) (hX r) (hV r)) (fun z x0 hs i1 i2 => ?_) _ hf
  obtain ⟨c0, cf⟩ := mJ7_fill_eb02e_c10 (v0 := v0) (v2 := v2) (v3 := v3) (v4 := z.1) (h := z.2) hs
  rcases hxx : x0 with zz | zz
  · exact eqz_tr (c0 zz hxx) (i1 zz hxx)
  · have ee := i2 zz hxx; subst ee; exact cf zz hxx
set_option maxRecDepth 100000 in
theorem wJ7_fill_eb02e_l10 {E : PE} {p : Program} {l : Launch} {e : Env} {s : State} {m : MethodId} {args : Array Value} {below : List Frame} {meth : Method} {c : Code} (X : Cx E p l e (rmv 1 0 0) s m args below meth c RJ7 cJ7_fill_eb02e 5 (none)) (hG : Gs E l) (hnm : meth.name = yJ7_fill_eb02e.name) {v0 : Option Nat} {v2 : Int32} {v3 : Int32} {v4 : Int32} {h : PH} {r : PH} (hf : fJ7_fill_eb02e_l10 v0 v2 v3 v4 h = some r)  : PW E p l e (rmv 1 0 0) s m args below meth c 5 0 0 (MQ below (QG E (fun v u => v = none ∧ u = r)) args s 0 0 (pA E)) h 10 [(0, some (va_rf v0)), (2, some (.int v2)), (3, some (.int v3)), (4, some (.int v4))] [] := by
  unfold fJ7_fill_eb02e_l10 at hf
  refine wh_ind (P := fun z => PW E p l e (rmv 1 0 0) s m args below meth c 5 0 0 (MQ below (QG E (fun v u => v = none ∧ u = r)) args s 0 0 (pA E)) (z.2) 10 [(0, some (va_rf v0)), (2, some (.int v2)), (3, some (.int v3)), (4, some (.int (z.1)))] []) (fun z x0 hs i1 i2 => ?_) _ hf
  exact wJ7_fill_eb02e_c10 (r := r) (v0 := v0) (v2 := v2) (v3 := v3) (v4 := z.1) (h := z.2) X hG hnm hs i1  i2
noncomputable def fJ7_fill_eb02e (v0 : Option Nat) (v1 : Int32) (v2 : Int32) (v3 : Int32) (h : PH) : Option PH :=
  gs v0 (fun a1 =>
  gd (hK h a1 = 22) (bd (fJ7_rangeCheck_23922 (nI (hN h a1)) v1 v2) (fun z4 =>
  fJ7_fill_eb02e_l10 (some a1) v2 v3 v1 h)))
set_option maxRecDepth 100000 in
theorem mJ7_fill_eb02e {v0 : Option Nat} {v1 : Int32} {v2 : Int32} {v3 : Int32} {h : PH} {r : PH} (hf : fJ7_fill_eb02e v0 v1 v2 v3 h = some r) : eqz h (hX r) (hV r) := by
  unfold fJ7_fill_eb02e at hf
  have hle := eqz_rf h
  obtain ⟨a1, e2, hf⟩ := gs_some hf
  obtain ⟨hk3, hf⟩ := gd_some hf
  obtain ⟨z4, hz4, hf⟩ := bd_some hf
  exact eqz_rt (mJ7_fill_eb02e_l10 hf) hle
set_option maxRecDepth 100000 in
theorem wJ7_fill_eb02e {E : PE} {l : Launch} (hG : Gs E l) {v0 : Option Nat} {v1 : Int32} {v2 : Int32} {v3 : Int32} {h : PH} {r : PH} (hf : fJ7_fill_eb02e v0 v1 v2 v3 h = some r) : Ct E l 1 0 0 yJ7_fill_eb02e cJ7_fill_eb02e 5 (none) [va_rf v0, .int v1, .int v2, .int v3] h (fun v u => v = none ∧ u = r) := by
  refine ct_of hG (by decide) (by simp [lg_sl, cat_rf, cat_r, cat_i, cat_l, cat_d, cat_f]) ?_
  intro p e s m args below meth c X hnm
  rw [show pargs 0 [va_rf v0, .int v1, .int v2, .int v3] = [(0, some (va_rf v0)), (1, some (.int v1)), (2, some (.int v2)), (3, some (.int v3))] from by simp [pargs, cat_rf, cat_r, cat_i, cat_l, cat_d, cat_f]]
  unfold fJ7_fill_eb02e at hf
  refine p_aloadq_n X (dcg dc_J7_fill_eb02e 0 rfl) rfl rfl ?_
  obtain ⟨a1, e2, hf⟩ := gs_some hf
  first | subst e2 | (try rw [e2])
  obtain ⟨hk3, hf⟩ := gd_some hf
  refine p_alen22 X (dcg dc_J7_fill_eb02e 1 rfl) hk3 ?_
  refine p_iload_n X (dcg dc_J7_fill_eb02e 2 rfl) rfl rfl ?_
  refine p_iload_n X (dcg dc_J7_fill_eb02e 3 rfl) rfl rfl ?_
  obtain ⟨z4, hz4, hf⟩ := bd_some hf
  refine p_callS (As := [_, _, _]) X ml_J7_13 (dcg dc_J7_fill_eb02e 4 rfl) rfl rfl  (wJ7_rangeCheck_23922 hG hz4) (by decide) (room4 (Nat.le_of_ble_eq_true rfl)) (Nat.le_refl _) (Nat.le_refl _) ?_
  rintro _ u9 ⟨rfl, e9⟩; have e9 := e9.symm; subst e9
  refine p_iload_n X (dcg dc_J7_fill_eb02e 5 rfl) rfl rfl ?_
  refine p_istore X (dcg dc_J7_fill_eb02e 6 rfl) (by decide) rfl ?_
  refine p_pick [0, 2, 3, 4] ?_
  exact wJ7_fill_eb02e_l10 X hG hnm hf 
theorem dc_J1_fillNull_b72d1 : decs cJ1_fillNull_b72d1 [(0, .aload_n 0, 1), (1, .iload_n 1, 1), (2, .iload_n 2, 1), (3, .iconst 0, 1), (4, .invokestatic 236, 3), (7, .return_, 1)] = true := by decide +kernel
noncomputable def fJ1_fillNull_b72d1 (v0 : Option Nat) (v1 : Int32) (v2 : Int32) (h : PH) : Option PH :=
  bd (fJ7_fill_eb02e v0 v1 v2 (0 : Int32) h) (fun z1 =>
  some (z1))
set_option maxRecDepth 100000 in
theorem mJ1_fillNull_b72d1 {v0 : Option Nat} {v1 : Int32} {v2 : Int32} {h : PH} {r : PH} (hf : fJ1_fillNull_b72d1 v0 v1 v2 h = some r) : eqz h (hX r) (hV r) := by
  unfold fJ1_fillNull_b72d1 at hf
  have hle := eqz_rf h
  obtain ⟨z1, hz1, hf⟩ := bd_some hf
  have hle := eqz_rt (mJ7_fill_eb02e hz1) hle
  have ee := Option.some.inj hf; subst ee; exact hle
set_option maxRecDepth 100000 in
theorem wJ1_fillNull_b72d1 {E : PE} {l : Launch} (hG : Gs E l) {v0 : Option Nat} {v1 : Int32} {v2 : Int32} {h : PH} {r : PH} (hf : fJ1_fillNull_b72d1 v0 v1 v2 h = some r) : Ct E l 2 0 0 yJ1_fillNull_b72d1 cJ1_fillNull_b72d1 3 (none) [va_rf v0, .int v1, .int v2] h (fun v u => v = none ∧ u = r) := by
  refine ct_of hG (by decide) (by simp [lg_sl, cat_rf, cat_r, cat_i, cat_l, cat_d, cat_f]) ?_
  intro p e s m args below meth c X hnm
  rw [show pargs 0 [va_rf v0, .int v1, .int v2] = [(0, some (va_rf v0)), (1, some (.int v1)), (2, some (.int v2))] from by simp [pargs, cat_rf, cat_r, cat_i, cat_l, cat_d, cat_f]]
  unfold fJ1_fillNull_b72d1 at hf
  refine p_aloadq_n X (dcg dc_J1_fillNull_b72d1 0 rfl) rfl rfl ?_
  refine p_iload_n X (dcg dc_J1_fillNull_b72d1 1 rfl) rfl rfl ?_
  refine p_iload_n X (dcg dc_J1_fillNull_b72d1 2 rfl) rfl rfl ?_
  refine p_iconst (v := 0) X (dcg dc_J1_fillNull_b72d1 3 rfl) (by decide) ?_
  obtain ⟨z1, hz1, hf⟩ := bd_some hf
  refine p_callS (As := [va_rf _, _, _, _]) X ml_J1_236 (dcg dc_J1_fillNull_b72d1 4 rfl) rfl rfl  (wJ7_fill_eb02e hG hz1) (by decide) (room4 (Nat.le_of_ble_eq_true rfl)) (Nat.le_refl _) (Nat.le_refl _) ?_
  rintro _ u9 ⟨rfl, e9⟩; have e9 := e9.symm; subst e9
  have er := Option.some.inj hf
  subst er
  exact p_vret X rfl (dcg dc_J1_fillNull_b72d1 5 rfl) ⟨rfl, rfl⟩ (Nat.le_refl _) (Nat.le_refl _)
theorem dc_J5_setLength_d00df : decs cJ5_setLength_d00df [(0, .iload_n 1, 1), (1, .ifCond .ge 12, 3), (4, .new 129, 3), (7, .dup, 1), (8, .iload_n 1, 1), (9, .invokespecial 131, 3), (12, .athrow, 1), (13, .aload_n 0, 1), (14, .iload_n 1, 1), (15, .invokevirtual 100, 3), (18, .aload_n 0, 1), (19, .getfield 79, 3), (22, .iload_n 1, 1), (23, .if_icmp .ge 40, 3), (26, .aload_n 0, 1), (27, .invokevirtual 83, 3), (30, .ifCond .eq 18, 3), (33, .aload_n 0, 1), (34, .getfield 15, 3), (37, .aload_n 0, 1), (38, .getfield 79, 3), (41, .iload_n 1, 1), (42, .invokestatic 133, 3), (45, .goto 31, 3), (48, .aload_n 0, 1), (49, .getfield 15, 3), (52, .aload_n 0, 1), (53, .getfield 79, 3), (56, .iload_n 1, 1), (57, .invokestatic 137, 3), (60, .goto 16, 3), (63, .aload_n 0, 1), (64, .getfield 79, 3), (67, .iload_n 1, 1), (68, .if_icmp .le 8, 3), (71, .aload_n 0, 1), (72, .iconst 1, 1), (73, .putfield 73, 3), (76, .aload_n 0, 1), (77, .iload_n 1, 1), (78, .putfield 79, 3), (81, .return_, 1)] = true := by decide +kernel
noncomputable def fJ5_setLength_d00df_b76 (v0 : Nat) (v1 : Int32) (h : PH) : Option PH :=
  gd (hK h v0 = 13) (lt (sI h 13 v0 3 v1) (fun h5 =>
  some (h5)))
set_option maxRecDepth 100000 in
theorem mJ5_setLength_d00df_b76 {v0 : Nat} {v1 : Int32} {h : PH} {r : PH} (hf : fJ5_setLength_d00df_b76 v0 v1 h = some r) : lez h (hX r) (hV r) := by
  unfold fJ5_setLength_d00df_b76 at hf
  have hle := lez_rf h
  obtain ⟨hk4, hf⟩ := gd_some hf
  obtain ⟨h5, rfl, hf⟩ := lt_some hf
  have ee := Option.some.inj hf; subst ee; exact hle
set_option maxRecDepth 100000 in
theorem wJ5_setLength_d00df_b76 {E : PE} {p : Program} {l : Launch} {e : Env} {s : State} {m : MethodId} {args : Array Value} {below : List Frame} {meth : Method} {c : Code} {X0 V0 MC MS uc us : Nat} (X : Cx E p l e (rmv 4 MC MS) s m args below meth c RJ5 cJ5_setLength_d00df 2 (none)) (hG : Gs E l) (hnm : meth.name = yJ5_setLength_d00df.name) {v0 : Nat} {v1 : Int32} {h : PH} {r : PH} (hM : MC + X0 = (hX r)) (hN : MS + V0 = (hV r)) (hu : uc + X0 = hX h) (hv : us + V0 = hV h) (hf : fJ5_setLength_d00df_b76 v0 v1 h = some r)  : PW E p l e (rmv 4 MC MS) s m args below meth c 2 uc us (MQ below (QG E (fun v u => v = none ∧ u = r)) args s MC MS (pA E)) h 76 [(0, some (.ref v0)), (1, some (.int v1))] [] := by
  have hm1 : lez h (hX r) (hV r) := mJ5_setLength_d00df_b76 hf
  have hcm : uc ≤ MC := (by have o0 := hm1.1; have o1 := hM; have o2 := hu; (try simp only [hX_sI, hX_sR, hX_sL, hX_sD, hX_sIa, hX_sRa, hV_sI, hV_sR, hV_sL, hV_sD, hV_sIa, hV_sRa, hX_new, hV_new] at o0 o1 o2 ⊢); omega)
  have hsm : us ≤ MS := (by have o0 := hm1.2; have o1 := hN; have o2 := hv; (try simp only [hX_sI, hX_sR, hX_sL, hX_sD, hX_sIa, hX_sRa, hV_sI, hV_sR, hV_sL, hV_sD, hV_sIa, hV_sRa, hX_new, hV_new] at o0 o1 o2 ⊢); omega)
  clear hm1
  unfold fJ5_setLength_d00df_b76 at hf
  refine p_aload_n X (dcg dc_J5_setLength_d00df 38 rfl) rfl rfl ?_
  refine p_iload_n X (dcg dc_J5_setLength_d00df 39 rfl) rfl rfl ?_
  obtain ⟨hk4, hf⟩ := gd_some hf
  refine p_putI X fl_J5_79 rfl (by decide) (fun q hq => by cases hq; rfl) rfl rfl (dcg dc_J5_setLength_d00df 40 rfl) hk4 ?_
  obtain ⟨h5, rfl, hf⟩ := lt_some hf
  have er := Option.some.inj hf
  subst er
  exact p_vret X rfl (dcg dc_J5_setLength_d00df 41 rfl) ⟨rfl, rfl⟩ hcm hsm
noncomputable def fJ5_setLength_d00df_b18 (v0 : Nat) (v1 : Int32) (h : PH) : Option PH :=
  gd (hK h v0 = 13) (if (v1 ≤ (hI h 13 v0 3)) then (if ((hI h 13 v0 3) ≤ v1) then (fJ5_setLength_d00df_b76 v0 v1 h) else
  lt (sI h 13 v0 2 (1 : Int32)) (fun h6 =>
  fJ5_setLength_d00df_b76 v0 v1 h6)) else
  bd (fJ5_isLatin1_aae02 v0 h) (fun z7 =>
  if (z7 = 0) then (none) else
  bd (fJ1_fillNull_b72d1 (hR h 13 v0 0) (hI h 13 v0 3) v1 h) (fun z8 =>
  fJ5_setLength_d00df_b76 v0 v1 z8)))
set_option maxRecDepth 100000 in
theorem mJ5_setLength_d00df_b18 {v0 : Nat} {v1 : Int32} {h : PH} {r : PH} (hf : fJ5_setLength_d00df_b18 v0 v1 h = some r) : lez h (hX r) (hV r) := by
  unfold fJ5_setLength_d00df_b18 at hf
  have hle := lez_rf h
  obtain ⟨hk3, hf⟩ := gd_some hf
  rcases ite_or hf with ⟨q, hf⟩ | ⟨q, hf⟩
  · have hf := if_t q hf
    rcases ite_or hf with ⟨q, hf⟩ | ⟨q, hf⟩
    · have hf := if_t q hf
      exact lez_rt (mJ5_setLength_d00df_b76 hf) hle
    · have hf := if_f q hf
      obtain ⟨h6, rfl, hf⟩ := lt_some hf
      exact lez_rt (mJ5_setLength_d00df_b76 hf) hle
  · have hf := if_f q hf
    obtain ⟨z7, hz7, hf⟩ := bd_some hf
    rcases ite_or hf with ⟨q, hf⟩ | ⟨q, hf⟩
    · have hf := if_t q hf
      cases hf
    · have hf := if_f q hf
      obtain ⟨z8, hz8, hf⟩ := bd_some hf
      have hle := lez_rt (lez_eq (mJ1_fillNull_b72d1 hz8)) hle
      exact lez_rt (mJ5_setLength_d00df_b76 hf) hle
set_option maxRecDepth 100000 in
theorem wJ5_setLength_d00df_b18 {E : PE} {p : Program} {l : Launch} {e : Env} {s : State} {m : MethodId} {args : Array Value} {below : List Frame} {meth : Method} {c : Code} {X0 V0 MC MS uc us : Nat} (X : Cx E p l e (rmv 4 MC MS) s m args below meth c RJ5 cJ5_setLength_d00df 2 (none)) (hG : Gs E l) (hnm : meth.name = yJ5_setLength_d00df.name) {v0 : Nat} {v1 : Int32} {h : PH} {r : PH} (hM : MC + X0 = (hX r)) (hN : MS + V0 = (hV r)) (hu : uc + X0 = hX h) (hv : us + V0 = hV h) (hf : fJ5_setLength_d00df_b18 v0 v1 h = some r)  : PW E p l e (rmv 4 MC MS) s m args below meth c 2 uc us (MQ below (QG E (fun v u => v = none ∧ u = r)) args s MC MS (pA E)) h 18 [(0, some (.ref v0)), (1, some (.int v1))] [] := by
  have hm1 : lez h (hX r) (hV r) := mJ5_setLength_d00df_b18 hf
  have hcm : uc ≤ MC := (by have o0 := hm1.1; have o1 := hM; have o2 := hu; (try simp only [hX_sI, hX_sR, hX_sL, hX_sD, hX_sIa, hX_sRa, hV_sI, hV_sR, hV_sL, hV_sD, hV_sIa, hV_sRa, hX_new, hV_new] at o0 o1 o2 ⊢); omega)
  have hsm : us ≤ MS := (by have o0 := hm1.2; have o1 := hN; have o2 := hv; (try simp only [hX_sI, hX_sR, hX_sL, hX_sD, hX_sIa, hX_sRa, hV_sI, hV_sR, hV_sL, hV_sD, hV_sIa, hV_sRa, hX_new, hV_new] at o0 o1 o2 ⊢); omega)
  clear hm1
  unfold fJ5_setLength_d00df_b18 at hf
  refine p_aload_n X (dcg dc_J5_setLength_d00df 10 rfl) rfl rfl ?_
  obtain ⟨hk3, hf⟩ := gd_some hf
  refine p_getI X fl_J5_79 rfl (by decide) (dcg dc_J5_setLength_d00df 11 rfl) hk3 ?_
  refine p_iload_n X (dcg dc_J5_setLength_d00df 12 rfl) rfl rfl ?_
  refine p_icmp_ge (tgt := 63) X (dcg dc_J5_setLength_d00df 13 rfl) (by decide) (fun q => ?_) (fun q => ?_)
  · have hf := if_t q hf
    refine p_aload_n X (dcg dc_J5_setLength_d00df 31 rfl) rfl rfl ?_
    refine p_getI X fl_J5_79 rfl (by decide) (dcg dc_J5_setLength_d00df 32 rfl) hk3 ?_
    refine p_iload_n X (dcg dc_J5_setLength_d00df 33 rfl) rfl rfl ?_
    refine p_icmp_le (tgt := 76) X (dcg dc_J5_setLength_d00df 34 rfl) (by decide) (fun q => ?_) (fun q => ?_)
    · have hf := if_t q hf
      refine p_pick [0, 1] ?_
      exact wJ5_setLength_d00df_b76 X hG hnm hM hN hu hv hf 
    · have hf := if_f q hf
      refine p_aload_n X (dcg dc_J5_setLength_d00df 35 rfl) rfl rfl ?_
      refine p_iconst (v := 1) X (dcg dc_J5_setLength_d00df 36 rfl) (by decide) ?_
      refine p_putI X fl_J5_73 rfl (by decide) (fun q hq => by cases hq; rfl) rfl rfl (dcg dc_J5_setLength_d00df 37 rfl) hk3 ?_
      obtain ⟨h6, rfl, hf⟩ := lt_some hf
      refine p_pick [0, 1] ?_
      exact wJ5_setLength_d00df_b76 X hG hnm hM hN hu hv hf 
  · have hf := if_f q hf
    refine p_aload_n X (dcg dc_J5_setLength_d00df 14 rfl) rfl rfl ?_
    obtain ⟨z7, hz7, hf⟩ := bd_some hf
    refine p_callU (As := []) X ml_J5_83 (dcg dc_J5_setLength_d00df 15 rfl) rfl rfl hk3 (wJ5_isLatin1_aae02 hG hz7) (by decide) (room4 (Nat.le_of_ble_eq_true rfl)) hcm hsm ?_
    rintro _ u9 ⟨rfl, e9⟩; have e9 := e9.symm; subst e9
    refine p_if_eq (tgt := 48) X (dcg dc_J5_setLength_d00df 16 rfl) (by decide) (fun q => ?_) (fun q => ?_)
    · have hf := if_t q hf
      refine p_aload_n X (dcg dc_J5_setLength_d00df 24 rfl) rfl rfl ?_
      refine p_getR X fl_J5_15 rfl (by decide) (dcg dc_J5_setLength_d00df 25 rfl) hk3 ?_
      refine p_aload_n X (dcg dc_J5_setLength_d00df 26 rfl) rfl rfl ?_
      refine p_getI X fl_J5_79 rfl (by decide) (dcg dc_J5_setLength_d00df 27 rfl) hk3 ?_
      refine p_iload_n X (dcg dc_J5_setLength_d00df 28 rfl) rfl rfl ?_
      cases hf
    · have hf := if_f q hf
      refine p_aload_n X (dcg dc_J5_setLength_d00df 17 rfl) rfl rfl ?_
      refine p_getR X fl_J5_15 rfl (by decide) (dcg dc_J5_setLength_d00df 18 rfl) hk3 ?_
      refine p_aload_n X (dcg dc_J5_setLength_d00df 19 rfl) rfl rfl ?_
      refine p_getI X fl_J5_79 rfl (by decide) (dcg dc_J5_setLength_d00df 20 rfl) hk3 ?_
      refine p_iload_n X (dcg dc_J5_setLength_d00df 21 rfl) rfl rfl ?_
      obtain ⟨z8, hz8, hf⟩ := bd_some hf
      refine p_callS (As := [va_rf _, _, _]) X ml_J5_133 (dcg dc_J5_setLength_d00df 22 rfl) rfl rfl  (wJ1_fillNull_b72d1 hG hz8) (by decide) (room4 (Nat.le_of_ble_eq_true rfl)) hcm hsm ?_
      rintro _ u9 ⟨rfl, e9⟩; have e9 := e9.symm; subst e9
      have hu := hu.trans (mJ1_fillNull_b72d1 hz8).1
      have hv := hv.trans (mJ1_fillNull_b72d1 hz8).2
      refine p_goto (tgt := 76) X (dcg dc_J5_setLength_d00df 23 rfl) (by decide) ?_
      refine p_pick [0, 1] ?_
      exact wJ5_setLength_d00df_b76 X hG hnm hM hN hu hv hf 
noncomputable def fJ5_setLength_d00df_b0 (v0 : Nat) (v1 : Int32) (h : PH) : Option PH :=
  if (0 ≤ v1) then (gd (hK h v0 = 13) (bd (fJ5_ensureCapacityInternal_d00df v0 v1 h) (fun z2 =>
  fJ5_setLength_d00df_b18 v0 v1 z2))) else
  none
set_option maxRecDepth 100000 in
theorem mJ5_setLength_d00df_b0 {v0 : Nat} {v1 : Int32} {h : PH} {r : PH} (hf : fJ5_setLength_d00df_b0 v0 v1 h = some r) : lez h (hX r) (hV r) := by
  unfold fJ5_setLength_d00df_b0 at hf
  have hle := lez_rf h
  rcases ite_or hf with ⟨q, hf⟩ | ⟨q, hf⟩
  · have hf := if_t q hf
    obtain ⟨hk1, hf⟩ := gd_some hf
    obtain ⟨z2, hz2, hf⟩ := bd_some hf
    have hle := lez_rt (mJ5_ensureCapacityInternal_d00df hz2) hle
    exact lez_rt (mJ5_setLength_d00df_b18 hf) hle
  · have hf := if_f q hf
    cases hf
set_option maxRecDepth 100000 in
theorem wJ5_setLength_d00df_b0 {E : PE} {p : Program} {l : Launch} {e : Env} {s : State} {m : MethodId} {args : Array Value} {below : List Frame} {meth : Method} {c : Code} {X0 V0 MC MS uc us : Nat} (X : Cx E p l e (rmv 4 MC MS) s m args below meth c RJ5 cJ5_setLength_d00df 2 (none)) (hG : Gs E l) (hnm : meth.name = yJ5_setLength_d00df.name) {v0 : Nat} {v1 : Int32} {h : PH} {r : PH} (hM : MC + X0 = (hX r)) (hN : MS + V0 = (hV r)) (hu : uc + X0 = hX h) (hv : us + V0 = hV h) (hf : fJ5_setLength_d00df_b0 v0 v1 h = some r)  : PW E p l e (rmv 4 MC MS) s m args below meth c 2 uc us (MQ below (QG E (fun v u => v = none ∧ u = r)) args s MC MS (pA E)) h 0 [(0, some (.ref v0)), (1, some (.int v1))] [] := by
  have hm1 : lez h (hX r) (hV r) := mJ5_setLength_d00df_b0 hf
  have hcm : uc ≤ MC := (by have o0 := hm1.1; have o1 := hM; have o2 := hu; (try simp only [hX_sI, hX_sR, hX_sL, hX_sD, hX_sIa, hX_sRa, hV_sI, hV_sR, hV_sL, hV_sD, hV_sIa, hV_sRa, hX_new, hV_new] at o0 o1 o2 ⊢); omega)
  have hsm : us ≤ MS := (by have o0 := hm1.2; have o1 := hN; have o2 := hv; (try simp only [hX_sI, hX_sR, hX_sL, hX_sD, hX_sIa, hX_sRa, hV_sI, hV_sR, hV_sL, hV_sD, hV_sIa, hV_sRa, hX_new, hV_new] at o0 o1 o2 ⊢); omega)
  clear hm1
  unfold fJ5_setLength_d00df_b0 at hf
  refine p_iload_n X (dcg dc_J5_setLength_d00df 0 rfl) rfl rfl ?_
  refine p_if_ge (tgt := 13) X (dcg dc_J5_setLength_d00df 1 rfl) (by decide) (fun q => ?_) (fun q => ?_)
  · have hf := if_t q hf
    refine p_aload_n X (dcg dc_J5_setLength_d00df 7 rfl) rfl rfl ?_
    refine p_iload_n X (dcg dc_J5_setLength_d00df 8 rfl) rfl rfl ?_
    obtain ⟨hk1, hf⟩ := gd_some hf
    obtain ⟨z2, hz2, hf⟩ := bd_some hf
    have hc1 := mJ5_ensureCapacityInternal_d00df hz2
    have hm1 : lez _ (hX r) (hV r) := mJ5_setLength_d00df_b18 hf
    refine p_callP (As := [_]) X ml_J5_100 (dcg dc_J5_setLength_d00df 9 rfl) rfl rfl hk1 (wJ5_ensureCapacityInternal_d00df hG hz2) (by decide) (room4 (Nat.le_of_ble_eq_true rfl)) (by have o0 := hm1.1; have o1 := hc1.1; have o2 := hM; have o3 := hu; (try simp only [hX_sI, hX_sR, hX_sL, hX_sD, hX_sIa, hX_sRa, hV_sI, hV_sR, hV_sL, hV_sD, hV_sIa, hV_sRa, hX_new, hV_new] at o0 o1 o2 o3 ⊢); omega) (by have o0 := hm1.2; have o1 := hc1.2; have o2 := hN; have o3 := hv; (try simp only [hX_sI, hX_sR, hX_sL, hX_sD, hX_sIa, hX_sRa, hV_sI, hV_sR, hV_sL, hV_sD, hV_sIa, hV_sRa, hX_new, hV_new] at o0 o1 o2 o3 ⊢); omega) ?_
    rintro _ u9 ⟨rfl, e9⟩; have e9 := e9.symm; subst e9
    refine p_pick [0, 1] ?_
    exact wJ5_setLength_d00df_b18 X hG hnm hM hN (by have o0 := hc1.1; have o1 := hu; (try simp only [hX_sI, hX_sR, hX_sL, hX_sD, hX_sIa, hX_sRa, hV_sI, hV_sR, hV_sL, hV_sD, hV_sIa, hV_sRa, hX_new, hV_new] at o0 o1 ⊢); omega) (by have o0 := hc1.2; have o1 := hv; (try simp only [hX_sI, hX_sR, hX_sL, hX_sD, hX_sIa, hX_sRa, hV_sI, hV_sR, hV_sL, hV_sD, hV_sIa, hV_sRa, hX_new, hV_new] at o0 o1 ⊢); omega) hf 
  · have hf := if_f q hf
    cases hf
noncomputable def fJ5_setLength_d00df (v0 : Nat) (v1 : Int32) (h : PH) : Option PH :=
  fJ5_setLength_d00df_b0 v0 v1 h
set_option maxRecDepth 100000 in
theorem mJ5_setLength_d00df {v0 : Nat} {v1 : Int32} {h : PH} {r : PH} (hf : fJ5_setLength_d00df v0 v1 h = some r) : lez h (hX r) (hV r) := by
  unfold fJ5_setLength_d00df at hf
  have hle := lez_rf h
  exact lez_rt (mJ5_setLength_d00df_b0 hf) hle
set_option maxRecDepth 100000 in
theorem wJ5_setLength_d00df {E : PE} {l : Launch} (hG : Gs E l) {v0 : Nat} {v1 : Int32} {h : PH} {r : PH} (hf : fJ5_setLength_d00df v0 v1 h = some r) : Ct E l 4 ((hX r) - hX h) ((hV r) - hV h) yJ5_setLength_d00df cJ5_setLength_d00df 2 (none) [.ref v0, .int v1] h (fun v u => v = none ∧ u = r) := by
  have hmm := mJ5_setLength_d00df hf
  refine ct_of hG (by decide) (Nat.le_of_ble_eq_true rfl) ?_
  intro p e s m args below meth c X hnm
  show PW E p l e _ s m args below meth c _ 0 0 _ h 0 [(0, some (.ref v0)), (1, some (.int v1))] []
  unfold fJ5_setLength_d00df at hf
  have hM := Nat.sub_add_cancel hmm.1
  have hN := Nat.sub_add_cancel hmm.2
  refine p_pick [0, 1] ?_
  exact wJ5_setLength_d00df_b0 X hG hnm hM hN (Nat.zero_add _) (Nat.zero_add _) hf
theorem dc_J4_setLength_d00df : decs cJ4_setLength_d00df [(0, .aload_n 0, 1), (1, .iload_n 1, 1), (2, .invokespecial 333, 3), (5, .return_, 1)] = true := by decide +kernel
noncomputable def fJ4_setLength_d00df_b5  (h : PH) : Option PH :=
  some (h)
set_option maxRecDepth 100000 in
theorem mJ4_setLength_d00df_b5  {h : PH} {r : PH} (hf : fJ4_setLength_d00df_b5  h = some r) : lez h (hX r) (hV r) := by
  unfold fJ4_setLength_d00df_b5 at hf
  have hle := lez_rf h
  have ee := Option.some.inj hf; subst ee; exact hle
set_option maxRecDepth 100000 in
theorem wJ4_setLength_d00df_b5 {E : PE} {p : Program} {l : Launch} {e : Env} {s : State} {m : MethodId} {args : Array Value} {below : List Frame} {meth : Method} {c : Code} {X0 V0 MC MS uc us : Nat} (X : Cx E p l e (rmv 5 MC MS) s m args below meth c RJ4 cJ4_setLength_d00df 2 (none)) (hG : Gs E l) (hnm : meth.name = yJ4_setLength_d00df.name)  {h : PH} {r : PH} (hM : MC + X0 = (hX r)) (hN : MS + V0 = (hV r)) (hu : uc + X0 = hX h) (hv : us + V0 = hV h) (hf : fJ4_setLength_d00df_b5  h = some r)  : PW E p l e (rmv 5 MC MS) s m args below meth c 2 uc us (MQ below (QG E (fun v u => v = none ∧ u = r)) args s MC MS (pA E)) h 5 [] [] := by
  have hm1 : lez h (hX r) (hV r) := mJ4_setLength_d00df_b5 hf
  have hcm : uc ≤ MC := (by have o0 := hm1.1; have o1 := hM; have o2 := hu; (try simp only [hX_sI, hX_sR, hX_sL, hX_sD, hX_sIa, hX_sRa, hV_sI, hV_sR, hV_sL, hV_sD, hV_sIa, hV_sRa, hX_new, hV_new] at o0 o1 o2 ⊢); omega)
  have hsm : us ≤ MS := (by have o0 := hm1.2; have o1 := hN; have o2 := hv; (try simp only [hX_sI, hX_sR, hX_sL, hX_sD, hX_sIa, hX_sRa, hV_sI, hV_sR, hV_sL, hV_sD, hV_sIa, hV_sRa, hX_new, hV_new] at o0 o1 o2 ⊢); omega)
  clear hm1
  unfold fJ4_setLength_d00df_b5 at hf
  have er := Option.some.inj hf
  subst er
  exact p_vret X rfl (dcg dc_J4_setLength_d00df 3 rfl) ⟨rfl, rfl⟩ hcm hsm
noncomputable def fJ4_setLength_d00df_b0 (v0 : Nat) (v1 : Int32) (h : PH) : Option PH :=
  gd (hK h v0 = 13) (bd (fJ5_setLength_d00df v0 v1 h) (fun z2 =>
  fJ4_setLength_d00df_b5  z2))
set_option maxRecDepth 100000 in
theorem mJ4_setLength_d00df_b0 {v0 : Nat} {v1 : Int32} {h : PH} {r : PH} (hf : fJ4_setLength_d00df_b0 v0 v1 h = some r) : lez h (hX r) (hV r) := by
  unfold fJ4_setLength_d00df_b0 at hf
  have hle := lez_rf h
  obtain ⟨hk1, hf⟩ := gd_some hf
  obtain ⟨z2, hz2, hf⟩ := bd_some hf
  have hle := lez_rt (mJ5_setLength_d00df hz2) hle
  exact lez_rt (mJ4_setLength_d00df_b5 hf) hle
set_option maxRecDepth 100000 in
theorem wJ4_setLength_d00df_b0 {E : PE} {p : Program} {l : Launch} {e : Env} {s : State} {m : MethodId} {args : Array Value} {below : List Frame} {meth : Method} {c : Code} {X0 V0 MC MS uc us : Nat} (X : Cx E p l e (rmv 5 MC MS) s m args below meth c RJ4 cJ4_setLength_d00df 2 (none)) (hG : Gs E l) (hnm : meth.name = yJ4_setLength_d00df.name) {v0 : Nat} {v1 : Int32} {h : PH} {r : PH} (hM : MC + X0 = (hX r)) (hN : MS + V0 = (hV r)) (hu : uc + X0 = hX h) (hv : us + V0 = hV h) (hf : fJ4_setLength_d00df_b0 v0 v1 h = some r)  : PW E p l e (rmv 5 MC MS) s m args below meth c 2 uc us (MQ below (QG E (fun v u => v = none ∧ u = r)) args s MC MS (pA E)) h 0 [(0, some (.ref v0)), (1, some (.int v1))] [] := by
  have hm1 : lez h (hX r) (hV r) := mJ4_setLength_d00df_b0 hf
  have hcm : uc ≤ MC := (by have o0 := hm1.1; have o1 := hM; have o2 := hu; (try simp only [hX_sI, hX_sR, hX_sL, hX_sD, hX_sIa, hX_sRa, hV_sI, hV_sR, hV_sL, hV_sD, hV_sIa, hV_sRa, hX_new, hV_new] at o0 o1 o2 ⊢); omega)
  have hsm : us ≤ MS := (by have o0 := hm1.2; have o1 := hN; have o2 := hv; (try simp only [hX_sI, hX_sR, hX_sL, hX_sD, hX_sIa, hX_sRa, hV_sI, hV_sR, hV_sL, hV_sD, hV_sIa, hV_sRa, hX_new, hV_new] at o0 o1 o2 ⊢); omega)
  clear hm1
  unfold fJ4_setLength_d00df_b0 at hf
  refine p_aload_n X (dcg dc_J4_setLength_d00df 0 rfl) rfl rfl ?_
  refine p_iload_n X (dcg dc_J4_setLength_d00df 1 rfl) rfl rfl ?_
  obtain ⟨hk1, hf⟩ := gd_some hf
  obtain ⟨z2, hz2, hf⟩ := bd_some hf
  have hc1 := mJ5_setLength_d00df hz2
  have hm1 : lez _ (hX r) (hV r) := mJ4_setLength_d00df_b5 hf
  refine p_callW (As := [_]) X ml_J4_333 (dcg dc_J4_setLength_d00df 2 rfl) rfl rfl hk1 (wJ5_setLength_d00df hG hz2) (by decide) (room4 (Nat.le_of_ble_eq_true rfl)) (by have o0 := hm1.1; have o1 := hc1.1; have o2 := hM; have o3 := hu; (try simp only [hX_sI, hX_sR, hX_sL, hX_sD, hX_sIa, hX_sRa, hV_sI, hV_sR, hV_sL, hV_sD, hV_sIa, hV_sRa, hX_new, hV_new] at o0 o1 o2 o3 ⊢); omega) (by have o0 := hm1.2; have o1 := hc1.2; have o2 := hN; have o3 := hv; (try simp only [hX_sI, hX_sR, hX_sL, hX_sD, hX_sIa, hX_sRa, hV_sI, hV_sR, hV_sL, hV_sD, hV_sIa, hV_sRa, hX_new, hV_new] at o0 o1 o2 o3 ⊢); omega) ?_
  rintro _ u9 ⟨rfl, e9⟩; have e9 := e9.symm; subst e9
  refine p_pick [] ?_
  exact wJ4_setLength_d00df_b5 X hG hnm hM hN (by have o0 := hc1.1; have o1 := hu; (try simp only [hX_sI, hX_sR, hX_sL, hX_sD, hX_sIa, hX_sRa, hV_sI, hV_sR, hV_sL, hV_sD, hV_sIa, hV_sRa, hX_new, hV_new] at o0 o1 ⊢); omega) (by have o0 := hc1.2; have o1 := hv; (try simp only [hX_sI, hX_sR, hX_sL, hX_sD, hX_sIa, hX_sRa, hV_sI, hV_sR, hV_sL, hV_sD, hV_sIa, hV_sRa, hX_new, hV_new] at o0 o1 ⊢); omega) hf 
noncomputable def fJ4_setLength_d00df (v0 : Nat) (v1 : Int32) (h : PH) : Option PH :=
  fJ4_setLength_d00df_b0 v0 v1 h
set_option maxRecDepth 100000 in
theorem mJ4_setLength_d00df {v0 : Nat} {v1 : Int32} {h : PH} {r : PH} (hf : fJ4_setLength_d00df v0 v1 h = some r) : lez h (hX r) (hV r) := by
  unfold fJ4_setLength_d00df at hf
  have hle := lez_rf h
  exact lez_rt (mJ4_setLength_d00df_b0 hf) hle
set_option maxRecDepth 100000 in
theorem wJ4_setLength_d00df {E : PE} {l : Launch} (hG : Gs E l) {v0 : Nat} {v1 : Int32} {h : PH} {r : PH} (hf : fJ4_setLength_d00df v0 v1 h = some r) : Ct E l 5 ((hX r) - hX h) ((hV r) - hV h) yJ4_setLength_d00df cJ4_setLength_d00df 2 (none) [.ref v0, .int v1] h (fun v u => v = none ∧ u = r) := by
  have hmm := mJ4_setLength_d00df hf
  refine ct_of hG (by decide) (Nat.le_of_ble_eq_true rfl) ?_
  intro p e s m args below meth c X hnm
  show PW E p l e _ s m args below meth c _ 0 0 _ h 0 [(0, some (.ref v0)), (1, some (.int v1))] []
  unfold fJ4_setLength_d00df at hf
  have hM := Nat.sub_add_cancel hmm.1
  have hN := Nat.sub_add_cancel hmm.2
  refine p_pick [0, 1] ?_
  exact wJ4_setLength_d00df_b0 X hG hnm hM hN (Nat.zero_add _) (Nat.zero_add _) hf
theorem dc_J5_length_8abf5 : decs cJ5_length_8abf5 [(0, .aload_n 0, 1), (1, .getfield 79, 3), (4, .ireturn, 1)] = true := by decide +kernel
noncomputable def fJ5_length_8abf5 (v0 : Nat) (h : PH) : Option Int32 :=
  gd (hK h v0 = 13) (some ((hI h 13 v0 3)))
set_option maxRecDepth 100000 in
theorem wJ5_length_8abf5 {E : PE} {l : Launch} (hG : Gs E l) {v0 : Nat} {h : PH} {r : Int32} (hf : fJ5_length_8abf5 v0 h = some r) : Ct E l 0 0 0 yJ5_length_8abf5 cJ5_length_8abf5 1 (some .int) [.ref v0] h (fun v u => v = some (.int r) ∧ u = h) := by
  refine ct_of hG (by decide) (Nat.le_of_ble_eq_true rfl) ?_
  intro p e s m args below meth c X hnm
  show PW E p l e _ s m args below meth c _ 0 0 _ h 0 [(0, some (.ref v0))] []
  unfold fJ5_length_8abf5 at hf
  refine p_aload_n X (dcg dc_J5_length_8abf5 0 rfl) rfl rfl ?_
  obtain ⟨hk1, hf⟩ := gd_some hf
  refine p_getI X fl_J5_79 rfl (by decide) (dcg dc_J5_length_8abf5 1 rfl) hk1 ?_
  have er := Option.some.inj hf
  subst er
  exact p_iret X rfl (dcg dc_J5_length_8abf5 2 rfl) ⟨rfl, rfl⟩ (Nat.le_refl _) (Nat.le_refl _)
theorem dc_J4_length_8abf5 : decs cJ4_length_8abf5 [(0, .aload_n 0, 1), (1, .invokespecial 343, 3), (4, .ireturn, 1)] = true := by decide +kernel
noncomputable def fJ4_length_8abf5 (v0 : Nat) (h : PH) : Option Int32 :=
  gd (hK h v0 = 13) (bd (fJ5_length_8abf5 v0 h) (fun z2 =>
  some (z2)))
set_option maxRecDepth 100000 in
theorem wJ4_length_8abf5 {E : PE} {l : Launch} (hG : Gs E l) {v0 : Nat} {h : PH} {r : Int32} (hf : fJ4_length_8abf5 v0 h = some r) : Ct E l 1 0 0 yJ4_length_8abf5 cJ4_length_8abf5 1 (some .int) [.ref v0] h (fun v u => v = some (.int r) ∧ u = h) := by
  refine ct_of hG (by decide) (Nat.le_of_ble_eq_true rfl) ?_
  intro p e s m args below meth c X hnm
  show PW E p l e _ s m args below meth c _ 0 0 _ h 0 [(0, some (.ref v0))] []
  unfold fJ4_length_8abf5 at hf
  refine p_aload_n X (dcg dc_J4_length_8abf5 0 rfl) rfl rfl ?_
  obtain ⟨hk1, hf⟩ := gd_some hf
  obtain ⟨z2, hz2, hf⟩ := bd_some hf
  refine p_callW (As := []) X ml_J4_343 (dcg dc_J4_length_8abf5 1 rfl) rfl rfl hk1 (wJ5_length_8abf5 hG hz2) (by decide) (room4 (Nat.le_of_ble_eq_true rfl)) (Nat.le_refl _) (Nat.le_refl _) ?_
  rintro _ u9 ⟨rfl, e9⟩; have e9 := e9.symm; subst e9
  have er := Option.some.inj hf
  subst er
  exact p_iret X rfl (dcg dc_J4_length_8abf5 2 rfl) ⟨rfl, rfl⟩ (Nat.le_refl _) (Nat.le_refl _)
theorem dc_X11_write : decs cX11_write [(0, .iload_n 1, 1), (1, .invokestatic 241, 3), (4, .aload_n 0, 1), (5, .iload_n 1, 1), (6, .invokevirtual 244, 3), (9, .astore_n 2, 1), (10, .aload_n 0, 1), (11, .getfield 82, 3), (14, .iconst 0, 1), (15, .invokevirtual 278, 3), (18, .aload_n 2, 1), (19, .aload_n 0, 1), (20, .getfield 82, 3), (23, .iconst 0, 1), (24, .invokestatic 281, 3), (27, .aload_n 0, 1), (28, .getfield 82, 3), (31, .invokevirtual 285, 3), (34, .ireturn, 1)] = true := by decide +kernel
noncomputable def fX11_write_b27 (v0 : Nat) (h : PH) : Option ((Int32 × PH) ⊕ (Nat × PH)) :=
  gd (hK h v0 = 11) (gs (hR h 11 v0 10) (fun a14 =>
  gd (hK h a14 = 13) (bd (fJ4_length_8abf5 a14 h) (fun z17 =>
  some (.inl ((z17, h)))))))
set_option maxRecDepth 100000 in
theorem mX11_write_b27 {v0 : Nat} {h : PH} {r : ((Int32 × PH) ⊕ (Nat × PH))} (hf : fX11_write_b27 v0 h = some r) : lez h (xT2 r) (vT2 r) := by
  unfold fX11_write_b27 at hf
  have hle := lez_rf h
  obtain ⟨hk13, hf⟩ := gd_some hf
  obtain ⟨a14, e15, hf⟩ := gs_some hf
  obtain ⟨hk16, hf⟩ := gd_some hf
  obtain ⟨z17, hz17, hf⟩ := bd_some hf
  have ee := Option.some.inj hf; subst ee; exact hle
set_option maxRecDepth 100000 in
theorem wX11_write_b27 {E : PE} {p : Program} {l : Launch} {e : Env} {s : State} {m : MethodId} {args : Array Value} {below : List Frame} {meth : Method} {c : Code} {X0 V0 MC MS uc us : Nat} (X : Cx E p l e (rmv 53 MC MS) s m args below meth c RX11 cX11_write 3 (some .int)) (hG : Gs E l) (hex : ∀ x ∈ c.exceptionTable.toList, False) {v0 : Nat} {h : PH} {r : ((Int32 × PH) ⊕ (Nat × PH))} (hM : MC + X0 = (xT2 r)) (hN : MS + V0 = (vT2 r)) (hu : uc + X0 = hX h) (hv : us + V0 = hV h) (hf : fX11_write_b27 v0 h = some r)  : PW E p l e (rmv 53 MC MS) s m args below meth c 3 uc us (vx_MQ below (QG E (fun v u => ∃ z, r = .inl z ∧ v = some (.int z.1) ∧ u = z.2)) (XG E (fun En u => ∃ (z : Nat × PH) (n : Nat), r = .inr z ∧ En = exn z.1 ∧ hX z.2 ≤ n ∧ u = hbump z.2 n)) args s MC MS (pA E)) h 27 [(0, some (.ref v0))] [] := by
  have hm1 : lez h (xT2 r) (vT2 r) := mX11_write_b27 hf
  have hcm : uc ≤ MC := (by have o0 := hm1.1; have o1 := hM; have o2 := hu; (try simp only [hX_sI, hX_sR, hX_sL, hX_sD, hX_sIa, hX_sRa, hV_sI, hV_sR, hV_sL, hV_sD, hV_sIa, hV_sRa, hX_new, hV_new] at o0 o1 o2 ⊢); omega)
  have hsm : us ≤ MS := (by have o0 := hm1.2; have o1 := hN; have o2 := hv; (try simp only [hX_sI, hX_sR, hX_sL, hX_sD, hX_sIa, hX_sRa, hV_sI, hV_sR, hV_sL, hV_sD, hV_sIa, hV_sRa, hX_new, hV_new] at o0 o1 o2 ⊢); omega)
  clear hm1
  unfold fX11_write_b27 at hf
  refine p_aload_n X (dcg dc_X11_write 15 rfl) rfl rfl ?_
  obtain ⟨hk13, hf⟩ := gd_some hf
  refine p_getR X fl_X11_82 rfl (by decide) (dcg dc_X11_write 16 rfl) hk13 ?_
  obtain ⟨a14, e15, hf⟩ := gs_some hf
  first | subst e15 | (try rw [e15])
  obtain ⟨hk16, hf⟩ := gd_some hf
  obtain ⟨z17, hz17, hf⟩ := bd_some hf
  refine p_callV (As := []) X ml_X11_285 (dcg dc_X11_write 17 rfl) rfl rfl hk16 (wJ4_length_8abf5 hG hz17) (by decide) (room4 (Nat.le_of_ble_eq_true rfl)) hcm hsm ?_
  rintro _ u9 ⟨rfl, e9⟩; have e9 := e9.symm; subst e9
  have er := Option.some.inj hf
  subst er
  refine p_vx ?_
  exact p_iret X rfl (dcg dc_X11_write 18 rfl) ⟨_, rfl, rfl, rfl⟩ hcm hsm
noncomputable def fX11_write_b18 (v0 : Nat) (v2 : Option Nat) (h : PH) : Option ((Int32 × PH) ⊕ (Nat × PH)) :=
  gd (hK h v0 = 11) (bd (fX4_spell v2 (hR h 11 v0 10) (0 : Int32) h) (fun z12 =>
  fX11_write_b27 v0 z12))
set_option maxRecDepth 100000 in
theorem mX11_write_b18 {v0 : Nat} {v2 : Option Nat} {h : PH} {r : ((Int32 × PH) ⊕ (Nat × PH))} (hf : fX11_write_b18 v0 v2 h = some r) : lez h (xT2 r) (vT2 r) := by
  unfold fX11_write_b18 at hf
  have hle := lez_rf h
  obtain ⟨hk11, hf⟩ := gd_some hf
  obtain ⟨z12, hz12, hf⟩ := bd_some hf
  have hle := lez_rt (mX4_spell hz12) hle
  exact lez_rt (mX11_write_b27 hf) hle
set_option maxRecDepth 100000 in
theorem wX11_write_b18 {E : PE} {p : Program} {l : Launch} {e : Env} {s : State} {m : MethodId} {args : Array Value} {below : List Frame} {meth : Method} {c : Code} {X0 V0 MC MS uc us : Nat} (X : Cx E p l e (rmv 53 MC MS) s m args below meth c RX11 cX11_write 3 (some .int)) (hG : Gs E l) (hex : ∀ x ∈ c.exceptionTable.toList, False) {v0 : Nat} {v2 : Option Nat} {h : PH} {r : ((Int32 × PH) ⊕ (Nat × PH))} (hM : MC + X0 = (xT2 r)) (hN : MS + V0 = (vT2 r)) (hu : uc + X0 = hX h) (hv : us + V0 = hV h) (hf : fX11_write_b18 v0 v2 h = some r)  : PW E p l e (rmv 53 MC MS) s m args below meth c 3 uc us (vx_MQ below (QG E (fun v u => ∃ z, r = .inl z ∧ v = some (.int z.1) ∧ u = z.2)) (XG E (fun En u => ∃ (z : Nat × PH) (n : Nat), r = .inr z ∧ En = exn z.1 ∧ hX z.2 ≤ n ∧ u = hbump z.2 n)) args s MC MS (pA E)) h 18 [(0, some (.ref v0)), (2, some (va_rf v2))] [] := by
  have hm1 : lez h (xT2 r) (vT2 r) := mX11_write_b18 hf
  have hcm : uc ≤ MC := (by have o0 := hm1.1; have o1 := hM; have o2 := hu; (try simp only [hX_sI, hX_sR, hX_sL, hX_sD, hX_sIa, hX_sRa, hV_sI, hV_sR, hV_sL, hV_sD, hV_sIa, hV_sRa, hX_new, hV_new] at o0 o1 o2 ⊢); omega)
  have hsm : us ≤ MS := (by have o0 := hm1.2; have o1 := hN; have o2 := hv; (try simp only [hX_sI, hX_sR, hX_sL, hX_sD, hX_sIa, hX_sRa, hV_sI, hV_sR, hV_sL, hV_sD, hV_sIa, hV_sRa, hX_new, hV_new] at o0 o1 o2 ⊢); omega)
  clear hm1
  unfold fX11_write_b18 at hf
  refine p_aloadq_n X (dcg dc_X11_write 10 rfl) rfl rfl ?_
  refine p_aload_n X (dcg dc_X11_write 11 rfl) rfl rfl ?_
  obtain ⟨hk11, hf⟩ := gd_some hf
  refine p_getR X fl_X11_82 rfl (by decide) (dcg dc_X11_write 12 rfl) hk11 ?_
  refine p_iconst (v := 0) X (dcg dc_X11_write 13 rfl) (by decide) ?_
  obtain ⟨z12, hz12, hf⟩ := bd_some hf
  have hc1 := mX4_spell hz12
  have hm1 : lez _ (xT2 r) (vT2 r) := mX11_write_b27 hf
  refine p_callSn (As := [va_rf _, va_rf _, _]) X ml_X11_281 (dcg dc_X11_write 14 rfl) rfl rfl  (wX4_spell hG hz12) (by decide) (room4 (Nat.le_of_ble_eq_true rfl)) (by have o0 := hm1.1; have o1 := hc1.1; have o2 := hM; have o3 := hu; (try simp only [hX_sI, hX_sR, hX_sL, hX_sD, hX_sIa, hX_sRa, hV_sI, hV_sR, hV_sL, hV_sD, hV_sIa, hV_sRa, hX_new, hV_new] at o0 o1 o2 o3 ⊢); omega) (by have o0 := hm1.2; have o1 := hc1.2; have o2 := hN; have o3 := hv; (try simp only [hX_sI, hX_sR, hX_sL, hX_sD, hX_sIa, hX_sRa, hV_sI, hV_sR, hV_sL, hV_sD, hV_sIa, hV_sRa, hX_new, hV_new] at o0 o1 o2 o3 ⊢); omega) ?_
  rintro _ u9 ⟨rfl, e9⟩; have e9 := e9.symm; subst e9
  refine p_pick [0] ?_
  exact wX11_write_b27 X hG hex hM hN (by have o0 := hc1.1; have o1 := hu; (try simp only [hX_sI, hX_sR, hX_sL, hX_sD, hX_sIa, hX_sRa, hV_sI, hV_sR, hV_sL, hV_sD, hV_sIa, hV_sRa, hX_new, hV_new] at o0 o1 ⊢); omega) (by have o0 := hc1.2; have o1 := hv; (try simp only [hX_sI, hX_sR, hX_sL, hX_sD, hX_sIa, hX_sRa, hV_sI, hV_sR, hV_sL, hV_sD, hV_sIa, hV_sRa, hX_new, hV_new] at o0 o1 ⊢); omega) hf 
noncomputable def fX11_write_b9 (v0 : Nat) (t0 : Option Nat) (h : PH) : Option ((Int32 × PH) ⊕ (Nat × PH)) :=
  gd (hK h v0 = 11) (gs (hR h 11 v0 10) (fun a7 =>
  gd (hK h a7 = 13) (bd (fJ4_setLength_d00df a7 (0 : Int32) h) (fun z10 =>
  fX11_write_b18 v0 t0 z10))))
set_option maxRecDepth 100000 in
theorem mX11_write_b9 {v0 : Nat} {t0 : Option Nat} {h : PH} {r : ((Int32 × PH) ⊕ (Nat × PH))} (hf : fX11_write_b9 v0 t0 h = some r) : lez h (xT2 r) (vT2 r) := by
  unfold fX11_write_b9 at hf
  have hle := lez_rf h
  obtain ⟨hk6, hf⟩ := gd_some hf
  obtain ⟨a7, e8, hf⟩ := gs_some hf
  obtain ⟨hk9, hf⟩ := gd_some hf
  obtain ⟨z10, hz10, hf⟩ := bd_some hf
  have hle := lez_rt (mJ4_setLength_d00df hz10) hle
  exact lez_rt (mX11_write_b18 hf) hle
set_option maxRecDepth 100000 in
theorem wX11_write_b9 {E : PE} {p : Program} {l : Launch} {e : Env} {s : State} {m : MethodId} {args : Array Value} {below : List Frame} {meth : Method} {c : Code} {X0 V0 MC MS uc us : Nat} (X : Cx E p l e (rmv 53 MC MS) s m args below meth c RX11 cX11_write 3 (some .int)) (hG : Gs E l) (hex : ∀ x ∈ c.exceptionTable.toList, False) {v0 : Nat} {t0 : Option Nat} {h : PH} {r : ((Int32 × PH) ⊕ (Nat × PH))} (hM : MC + X0 = (xT2 r)) (hN : MS + V0 = (vT2 r)) (hu : uc + X0 = hX h) (hv : us + V0 = hV h) (hf : fX11_write_b9 v0 t0 h = some r)  : PW E p l e (rmv 53 MC MS) s m args below meth c 3 uc us (vx_MQ below (QG E (fun v u => ∃ z, r = .inl z ∧ v = some (.int z.1) ∧ u = z.2)) (XG E (fun En u => ∃ (z : Nat × PH) (n : Nat), r = .inr z ∧ En = exn z.1 ∧ hX z.2 ≤ n ∧ u = hbump z.2 n)) args s MC MS (pA E)) h 9 [(0, some (.ref v0))] [va_rf t0] := by
  have hm1 : lez h (xT2 r) (vT2 r) := mX11_write_b9 hf
  have hcm : uc ≤ MC := (by have o0 := hm1.1; have o1 := hM; have o2 := hu; (try simp only [hX_sI, hX_sR, hX_sL, hX_sD, hX_sIa, hX_sRa, hV_sI, hV_sR, hV_sL, hV_sD, hV_sIa, hV_sRa, hX_new, hV_new] at o0 o1 o2 ⊢); omega)
  have hsm : us ≤ MS := (by have o0 := hm1.2; have o1 := hN; have o2 := hv; (try simp only [hX_sI, hX_sR, hX_sL, hX_sD, hX_sIa, hX_sRa, hV_sI, hV_sR, hV_sL, hV_sD, hV_sIa, hV_sRa, hX_new, hV_new] at o0 o1 o2 ⊢); omega)
  clear hm1
  unfold fX11_write_b9 at hf
  refine p_astoreq_n X (dcg dc_X11_write 5 rfl) rfl (by decide) rfl ?_
  refine p_aload_n X (dcg dc_X11_write 6 rfl) rfl rfl ?_
  obtain ⟨hk6, hf⟩ := gd_some hf
  refine p_getR X fl_X11_82 rfl (by decide) (dcg dc_X11_write 7 rfl) hk6 ?_
  refine p_iconst (v := 0) X (dcg dc_X11_write 8 rfl) (by decide) ?_
  obtain ⟨a7, e8, hf⟩ := gs_some hf
  first | subst e8 | (try rw [e8])
  obtain ⟨hk9, hf⟩ := gd_some hf
  obtain ⟨z10, hz10, hf⟩ := bd_some hf
  have hc1 := mJ4_setLength_d00df hz10
  have hm1 : lez _ (xT2 r) (vT2 r) := mX11_write_b18 hf
  refine p_callV (As := [_]) X ml_X11_278 (dcg dc_X11_write 9 rfl) rfl rfl hk9 (wJ4_setLength_d00df hG hz10) (by decide) (room4 (Nat.le_of_ble_eq_true rfl)) (by have o0 := hm1.1; have o1 := hc1.1; have o2 := hM; have o3 := hu; (try simp only [hX_sI, hX_sR, hX_sL, hX_sD, hX_sIa, hX_sRa, hV_sI, hV_sR, hV_sL, hV_sD, hV_sIa, hV_sRa, hX_new, hV_new] at o0 o1 o2 o3 ⊢); omega) (by have o0 := hm1.2; have o1 := hc1.2; have o2 := hN; have o3 := hv; (try simp only [hX_sI, hX_sR, hX_sL, hX_sD, hX_sIa, hX_sRa, hV_sI, hV_sR, hV_sL, hV_sD, hV_sIa, hV_sRa, hX_new, hV_new] at o0 o1 o2 o3 ⊢); omega) ?_
  rintro _ u9 ⟨rfl, e9⟩; have e9 := e9.symm; subst e9
  refine p_pick [0, 2] ?_
  exact wX11_write_b18 X hG hex hM hN (by have o0 := hc1.1; have o1 := hu; (try simp only [hX_sI, hX_sR, hX_sL, hX_sD, hX_sIa, hX_sRa, hV_sI, hV_sR, hV_sL, hV_sD, hV_sIa, hV_sRa, hX_new, hV_new] at o0 o1 ⊢); omega) (by have o0 := hc1.2; have o1 := hv; (try simp only [hX_sI, hX_sR, hX_sL, hX_sD, hX_sIa, hX_sRa, hV_sI, hV_sR, hV_sL, hV_sD, hV_sIa, hV_sRa, hX_new, hV_new] at o0 o1 ⊢); omega) hf 
noncomputable def fX11_write_b4 (v0 : Nat) (v1 : Int32) (h : PH) : Option ((Int32 × PH) ⊕ (Nat × PH)) :=
  gd (hK h v0 = 11) (bx (fX11_demandKept v0 v1 h) (fun z4 =>
  fX11_write_b9 v0 z4.1 z4.2))
set_option maxRecDepth 100000 in
theorem mX11_write_b4 {v0 : Nat} {v1 : Int32} {h : PH} {r : ((Int32 × PH) ⊕ (Nat × PH))} (hf : fX11_write_b4 v0 v1 h = some r) : lez h (xT2 r) (vT2 r) := by
  unfold fX11_write_b4 at hf
  have hle := lez_rf h
  obtain ⟨hk3, hf⟩ := gd_some hf
  obtain ⟨y5, hy5, h1y5, h2y5⟩ := bx_some hf
  have hc1 := mX11_demandKept hy5
  rcases y5 with z4 | z4
  · have hf := h1y5 z4 rfl
    have hle : lez h (hX z4.2) (hV z4.2) := lez_rt hc1 hle
    exact lez_rt (mX11_write_b9 hf) hle
  · have hr9 := h2y5 z4 rfl
    subst hr9
    exact lez_rt hc1 hle
set_option maxRecDepth 100000 in
theorem wX11_write_b4 {E : PE} {p : Program} {l : Launch} {e : Env} {s : State} {m : MethodId} {args : Array Value} {below : List Frame} {meth : Method} {c : Code} {X0 V0 MC MS uc us : Nat} (X : Cx E p l e (rmv 53 MC MS) s m args below meth c RX11 cX11_write 3 (some .int)) (hG : Gs E l) (hex : ∀ x ∈ c.exceptionTable.toList, False) {v0 : Nat} {v1 : Int32} {h : PH} {r : ((Int32 × PH) ⊕ (Nat × PH))} (hM : MC + X0 = (xT2 r)) (hN : MS + V0 = (vT2 r)) (hu : uc + X0 = hX h) (hv : us + V0 = hV h) (hf : fX11_write_b4 v0 v1 h = some r)  : PW E p l e (rmv 53 MC MS) s m args below meth c 3 uc us (vx_MQ below (QG E (fun v u => ∃ z, r = .inl z ∧ v = some (.int z.1) ∧ u = z.2)) (XG E (fun En u => ∃ (z : Nat × PH) (n : Nat), r = .inr z ∧ En = exn z.1 ∧ hX z.2 ≤ n ∧ u = hbump z.2 n)) args s MC MS (pA E)) h 4 [(0, some (.ref v0)), (1, some (.int v1))] [] := by
  have hm1 : lez h (xT2 r) (vT2 r) := mX11_write_b4 hf
  have hcm : uc ≤ MC := (by have o0 := hm1.1; have o1 := hM; have o2 := hu; (try simp only [hX_sI, hX_sR, hX_sL, hX_sD, hX_sIa, hX_sRa, hV_sI, hV_sR, hV_sL, hV_sD, hV_sIa, hV_sRa, hX_new, hV_new] at o0 o1 o2 ⊢); omega)
  have hsm : us ≤ MS := (by have o0 := hm1.2; have o1 := hN; have o2 := hv; (try simp only [hX_sI, hX_sR, hX_sL, hX_sD, hX_sIa, hX_sRa, hV_sI, hV_sR, hV_sL, hV_sD, hV_sIa, hV_sRa, hX_new, hV_new] at o0 o1 o2 ⊢); omega)
  clear hm1
  unfold fX11_write_b4 at hf
  refine p_aload_n X (dcg dc_X11_write 2 rfl) rfl rfl ?_
  refine p_iload_n X (dcg dc_X11_write 3 rfl) rfl rfl ?_
  obtain ⟨hk3, hf⟩ := gd_some hf
  obtain ⟨y5, hy5, h1y5, h2y5⟩ := bx_some hf
  have hc1 := mX11_demandKept hy5
  rcases y5 with z4 | z4
  · have hf := h1y5 z4 rfl
    have hm1 : lez _ (xT2 r) (vT2 r) := mX11_write_b9 hf
    refine p_callVX (As := [_]) X hex ml_X11_244 (dcg dc_X11_write 4 rfl) rfl rfl hk3 (wX11_demandKept hG hy5) (by decide) (room4 (Nat.le_of_ble_eq_true rfl)) (show uc + (hX z4.2 - hX h) ≤ MC from (by have o0 := hm1.1; have o1 := (show lez h (hX z4.2) (hV z4.2) from hc1).1; have o2 := hM; have o3 := hu; (try simp only [hX_sI, hX_sR, hX_sL, hX_sD, hX_sIa, hX_sRa, hV_sI, hV_sR, hV_sL, hV_sD, hV_sIa, hV_sRa, hX_new, hV_new] at o0 o1 o2 o3 ⊢); omega)) (show us + (hV z4.2 - hV h) ≤ MS from (by have o0 := hm1.2; have o1 := (show lez h (hX z4.2) (hV z4.2) from hc1).2; have o2 := hN; have o3 := hv; (try simp only [hX_sI, hX_sR, hX_sL, hX_sD, hX_sIa, hX_sRa, hV_sI, hV_sR, hV_sL, hV_sD, hV_sIa, hV_sRa, hX_new, hV_new] at o0 o1 o2 o3 ⊢); omega)) (show uc + (hX z4.2 - hX h) ≤ MC from (by have o0 := hm1.1; have o1 := (show lez h (hX z4.2) (hV z4.2) from hc1).1; have o2 := hM; have o3 := hu; (try simp only [hX_sI, hX_sR, hX_sL, hX_sD, hX_sIa, hX_sRa, hV_sI, hV_sR, hV_sL, hV_sD, hV_sIa, hV_sRa, hX_new, hV_new] at o0 o1 o2 o3 ⊢); omega)) (show us + (hV z4.2 - hV h) ≤ MS from (by have o0 := hm1.2; have o1 := (show lez h (hX z4.2) (hV z4.2) from hc1).2; have o2 := hN; have o3 := hv; (try simp only [hX_sI, hX_sR, hX_sL, hX_sD, hX_sIa, hX_sRa, hV_sI, hV_sR, hV_sL, hV_sD, hV_sIa, hV_sRa, hX_new, hV_new] at o0 o1 o2 o3 ⊢); omega)) (fun En u q => by obtain ⟨z9, n9, q9, _⟩ := q; cases q9) ?_
    rintro _ _ ⟨z9, hz9, rfl, rfl⟩
    cases hz9
    refine p_pick [0] ?_
    exact wX11_write_b9 X hG hex hM hN (show uc + (hX z4.2 - hX h) + X0 = hX z4.2 from (by have o0 := (show lez h (hX z4.2) (hV z4.2) from hc1).1; have o1 := hu; (try simp only [hX_sI, hX_sR, hX_sL, hX_sD, hX_sIa, hX_sRa, hV_sI, hV_sR, hV_sL, hV_sD, hV_sIa, hV_sRa, hX_new, hV_new] at o0 o1 ⊢); omega)) (show us + (hV z4.2 - hV h) + V0 = hV z4.2 from (by have o0 := (show lez h (hX z4.2) (hV z4.2) from hc1).2; have o1 := hv; (try simp only [hX_sI, hX_sR, hX_sL, hX_sD, hX_sIa, hX_sRa, hV_sI, hV_sR, hV_sL, hV_sD, hV_sIa, hV_sRa, hX_new, hV_new] at o0 o1 ⊢); omega)) hf 
  · have hr9 := h2y5 z4 rfl
    subst hr9
    refine p_callVX (As := [_]) X hex ml_X11_244 (dcg dc_X11_write 4 rfl) rfl rfl hk3 (wX11_demandKept hG hy5) (by decide) (room4 (Nat.le_of_ble_eq_true rfl)) (show uc + (hX z4.2 + 1 - hX h) ≤ MC from (by have o0 := (show lez h (hX z4.2 + 1) (hV z4.2 + 6) from hc1).1; have o1 := (show MC + X0 = hX z4.2 + 1 from hM); have o2 := hu; (try simp only [hX_sI, hX_sR, hX_sL, hX_sD, hX_sIa, hX_sRa, hV_sI, hV_sR, hV_sL, hV_sD, hV_sIa, hV_sRa, hX_new, hV_new] at o0 o1 o2 ⊢); omega)) (show us + (hV z4.2 + 6 - hV h) ≤ MS from (by have o0 := (show lez h (hX z4.2 + 1) (hV z4.2 + 6) from hc1).2; have o1 := (show MS + V0 = hV z4.2 + 6 from hN); have o2 := hv; (try simp only [hX_sI, hX_sR, hX_sL, hX_sD, hX_sIa, hX_sRa, hV_sI, hV_sR, hV_sL, hV_sD, hV_sIa, hV_sRa, hX_new, hV_new] at o0 o1 o2 ⊢); omega)) (show uc + (hX z4.2 + 1 - hX h) ≤ MC from (by have o0 := (show lez h (hX z4.2 + 1) (hV z4.2 + 6) from hc1).1; have o1 := (show MC + X0 = hX z4.2 + 1 from hM); have o2 := hu; (try simp only [hX_sI, hX_sR, hX_sL, hX_sD, hX_sIa, hX_sRa, hV_sI, hV_sR, hV_sL, hV_sD, hV_sIa, hV_sRa, hX_new, hV_new] at o0 o1 o2 ⊢); omega)) (show us + (hV z4.2 + 6 - hV h) ≤ MS from (by have o0 := (show lez h (hX z4.2 + 1) (hV z4.2 + 6) from hc1).2; have o1 := (show MS + V0 = hV z4.2 + 6 from hN); have o2 := hv; (try simp only [hX_sI, hX_sR, hX_sL, hX_sD, hX_sIa, hX_sRa, hV_sI, hV_sR, hV_sL, hV_sD, hV_sIa, hV_sRa, hX_new, hV_new] at o0 o1 o2 ⊢); omega)) (fun En u q => by obtain ⟨z9, n9, q9, q8⟩ := q; cases q9; exact ⟨_, n9, rfl, q8⟩) ?_
    rintro _ _ ⟨z9, hz9, _⟩
    cases hz9
noncomputable def fX11_write_b0 (v0 : Nat) (v1 : Int32) (h : PH) : Option ((Int32 × PH) ⊕ (Nat × PH)) :=
  bx (fX11_demandKeptPlace v1 h) (fun z1 =>
  fX11_write_b4 v0 v1 z1)
set_option maxRecDepth 100000 in
theorem mX11_write_b0 {v0 : Nat} {v1 : Int32} {h : PH} {r : ((Int32 × PH) ⊕ (Nat × PH))} (hf : fX11_write_b0 v0 v1 h = some r) : lez h (xT2 r) (vT2 r) := by
  unfold fX11_write_b0 at hf
  have hle := lez_rf h
  obtain ⟨y2, hy2, h1y2, h2y2⟩ := bx_some hf
  have hc1 := mX11_demandKeptPlace hy2
  rcases y2 with z1 | z1
  · have hf := h1y2 z1 rfl
    have hle : lez h (hX z1) (hV z1) := lez_rt hc1 hle
    exact lez_rt (mX11_write_b4 hf) hle
  · have hr9 := h2y2 z1 rfl
    subst hr9
    exact lez_rt hc1 hle
set_option maxRecDepth 100000 in
theorem wX11_write_b0 {E : PE} {p : Program} {l : Launch} {e : Env} {s : State} {m : MethodId} {args : Array Value} {below : List Frame} {meth : Method} {c : Code} {X0 V0 MC MS uc us : Nat} (X : Cx E p l e (rmv 53 MC MS) s m args below meth c RX11 cX11_write 3 (some .int)) (hG : Gs E l) (hex : ∀ x ∈ c.exceptionTable.toList, False) {v0 : Nat} {v1 : Int32} {h : PH} {r : ((Int32 × PH) ⊕ (Nat × PH))} (hM : MC + X0 = (xT2 r)) (hN : MS + V0 = (vT2 r)) (hu : uc + X0 = hX h) (hv : us + V0 = hV h) (hf : fX11_write_b0 v0 v1 h = some r)  : PW E p l e (rmv 53 MC MS) s m args below meth c 3 uc us (vx_MQ below (QG E (fun v u => ∃ z, r = .inl z ∧ v = some (.int z.1) ∧ u = z.2)) (XG E (fun En u => ∃ (z : Nat × PH) (n : Nat), r = .inr z ∧ En = exn z.1 ∧ hX z.2 ≤ n ∧ u = hbump z.2 n)) args s MC MS (pA E)) h 0 [(0, some (.ref v0)), (1, some (.int v1))] [] := by
  have hm1 : lez h (xT2 r) (vT2 r) := mX11_write_b0 hf
  have hcm : uc ≤ MC := (by have o0 := hm1.1; have o1 := hM; have o2 := hu; (try simp only [hX_sI, hX_sR, hX_sL, hX_sD, hX_sIa, hX_sRa, hV_sI, hV_sR, hV_sL, hV_sD, hV_sIa, hV_sRa, hX_new, hV_new] at o0 o1 o2 ⊢); omega)
  have hsm : us ≤ MS := (by have o0 := hm1.2; have o1 := hN; have o2 := hv; (try simp only [hX_sI, hX_sR, hX_sL, hX_sD, hX_sIa, hX_sRa, hV_sI, hV_sR, hV_sL, hV_sD, hV_sIa, hV_sRa, hX_new, hV_new] at o0 o1 o2 ⊢); omega)
  clear hm1
  unfold fX11_write_b0 at hf
  refine p_iload_n X (dcg dc_X11_write 0 rfl) rfl rfl ?_
  obtain ⟨y2, hy2, h1y2, h2y2⟩ := bx_some hf
  have hc1 := mX11_demandKeptPlace hy2
  rcases y2 with z1 | z1
  · have hf := h1y2 z1 rfl
    have hm1 : lez _ (xT2 r) (vT2 r) := mX11_write_b4 hf
    refine p_callSX (As := [_]) X hex ml_X11_241 (dcg dc_X11_write 1 rfl) rfl rfl  (wX11_demandKeptPlace hG hy2) (by decide) (room4 (Nat.le_of_ble_eq_true rfl)) (show uc + (hX z1 - hX h) ≤ MC from (by have o0 := hm1.1; have o1 := (show lez h (hX z1) (hV z1) from hc1).1; have o2 := hM; have o3 := hu; (try simp only [hX_sI, hX_sR, hX_sL, hX_sD, hX_sIa, hX_sRa, hV_sI, hV_sR, hV_sL, hV_sD, hV_sIa, hV_sRa, hX_new, hV_new] at o0 o1 o2 o3 ⊢); omega)) (show us + (hV z1 - hV h) ≤ MS from (by have o0 := hm1.2; have o1 := (show lez h (hX z1) (hV z1) from hc1).2; have o2 := hN; have o3 := hv; (try simp only [hX_sI, hX_sR, hX_sL, hX_sD, hX_sIa, hX_sRa, hV_sI, hV_sR, hV_sL, hV_sD, hV_sIa, hV_sRa, hX_new, hV_new] at o0 o1 o2 o3 ⊢); omega)) (show uc + (hX z1 - hX h) ≤ MC from (by have o0 := hm1.1; have o1 := (show lez h (hX z1) (hV z1) from hc1).1; have o2 := hM; have o3 := hu; (try simp only [hX_sI, hX_sR, hX_sL, hX_sD, hX_sIa, hX_sRa, hV_sI, hV_sR, hV_sL, hV_sD, hV_sIa, hV_sRa, hX_new, hV_new] at o0 o1 o2 o3 ⊢); omega)) (show us + (hV z1 - hV h) ≤ MS from (by have o0 := hm1.2; have o1 := (show lez h (hX z1) (hV z1) from hc1).2; have o2 := hN; have o3 := hv; (try simp only [hX_sI, hX_sR, hX_sL, hX_sD, hX_sIa, hX_sRa, hV_sI, hV_sR, hV_sL, hV_sD, hV_sIa, hV_sRa, hX_new, hV_new] at o0 o1 o2 o3 ⊢); omega)) (fun En u q => by obtain ⟨z9, n9, q9, _⟩ := q; cases q9) ?_
    rintro _ _ ⟨z9, hz9, rfl, rfl⟩
    cases hz9
    refine p_pick [0, 1] ?_
    exact wX11_write_b4 X hG hex hM hN (show uc + (hX z1 - hX h) + X0 = hX z1 from (by have o0 := (show lez h (hX z1) (hV z1) from hc1).1; have o1 := hu; (try simp only [hX_sI, hX_sR, hX_sL, hX_sD, hX_sIa, hX_sRa, hV_sI, hV_sR, hV_sL, hV_sD, hV_sIa, hV_sRa, hX_new, hV_new] at o0 o1 ⊢); omega)) (show us + (hV z1 - hV h) + V0 = hV z1 from (by have o0 := (show lez h (hX z1) (hV z1) from hc1).2; have o1 := hv; (try simp only [hX_sI, hX_sR, hX_sL, hX_sD, hX_sIa, hX_sRa, hV_sI, hV_sR, hV_sL, hV_sD, hV_sIa, hV_sRa, hX_new, hV_new] at o0 o1 ⊢); omega)) hf 
  · have hr9 := h2y2 z1 rfl
    subst hr9
    refine p_callSX (As := [_]) X hex ml_X11_241 (dcg dc_X11_write 1 rfl) rfl rfl  (wX11_demandKeptPlace hG hy2) (by decide) (room4 (Nat.le_of_ble_eq_true rfl)) (show uc + (hX z1.2 + 1 - hX h) ≤ MC from (by have o0 := (show lez h (hX z1.2 + 1) (hV z1.2 + 6) from hc1).1; have o1 := (show MC + X0 = hX z1.2 + 1 from hM); have o2 := hu; (try simp only [hX_sI, hX_sR, hX_sL, hX_sD, hX_sIa, hX_sRa, hV_sI, hV_sR, hV_sL, hV_sD, hV_sIa, hV_sRa, hX_new, hV_new] at o0 o1 o2 ⊢); omega)) (show us + (hV z1.2 + 6 - hV h) ≤ MS from (by have o0 := (show lez h (hX z1.2 + 1) (hV z1.2 + 6) from hc1).2; have o1 := (show MS + V0 = hV z1.2 + 6 from hN); have o2 := hv; (try simp only [hX_sI, hX_sR, hX_sL, hX_sD, hX_sIa, hX_sRa, hV_sI, hV_sR, hV_sL, hV_sD, hV_sIa, hV_sRa, hX_new, hV_new] at o0 o1 o2 ⊢); omega)) (show uc + (hX z1.2 + 1 - hX h) ≤ MC from (by have o0 := (show lez h (hX z1.2 + 1) (hV z1.2 + 6) from hc1).1; have o1 := (show MC + X0 = hX z1.2 + 1 from hM); have o2 := hu; (try simp only [hX_sI, hX_sR, hX_sL, hX_sD, hX_sIa, hX_sRa, hV_sI, hV_sR, hV_sL, hV_sD, hV_sIa, hV_sRa, hX_new, hV_new] at o0 o1 o2 ⊢); omega)) (show us + (hV z1.2 + 6 - hV h) ≤ MS from (by have o0 := (show lez h (hX z1.2 + 1) (hV z1.2 + 6) from hc1).2; have o1 := (show MS + V0 = hV z1.2 + 6 from hN); have o2 := hv; (try simp only [hX_sI, hX_sR, hX_sL, hX_sD, hX_sIa, hX_sRa, hV_sI, hV_sR, hV_sL, hV_sD, hV_sIa, hV_sRa, hX_new, hV_new] at o0 o1 o2 ⊢); omega)) (fun En u q => by obtain ⟨z9, n9, q9, q8⟩ := q; cases q9; exact ⟨_, n9, rfl, q8⟩) ?_
    rintro _ _ ⟨z9, hz9, _⟩
    cases hz9
noncomputable def fX11_write (v0 : Nat) (v1 : Int32) (h : PH) : Option ((Int32 × PH) ⊕ (Nat × PH)) :=
  fX11_write_b0 v0 v1 h
set_option maxRecDepth 100000 in
theorem mX11_write {v0 : Nat} {v1 : Int32} {h : PH} {r : ((Int32 × PH) ⊕ (Nat × PH))} (hf : fX11_write v0 v1 h = some r) : lez h (xT2 r) (vT2 r) := by
  unfold fX11_write at hf
  have hle := lez_rf h
  exact lez_rt (mX11_write_b0 hf) hle
set_option maxRecDepth 100000 in
theorem wX11_write {E : PE} {l : Launch} (hG : Gs E l) {v0 : Nat} {v1 : Int32} {h : PH} {r : ((Int32 × PH) ⊕ (Nat × PH))} (hf : fX11_write v0 v1 h = some r) : CtX E l 53 ((xT2 r) - hX h) ((vT2 r) - hV h) yX11_write cX11_write 3 (some .int) [.ref v0, .int v1] h (fun v u => ∃ z, r = .inl z ∧ v = some (.int z.1) ∧ u = z.2) (fun En u => ∃ (z : Nat × PH) (n : Nat), r = .inr z ∧ En = exn z.1 ∧ hX z.2 ≤ n ∧ u = hbump z.2 n) := by
  have hmm := mX11_write hf
  refine ctx_of hG (by decide) (Nat.le_of_ble_eq_true rfl) ?_
  intro p e s m args below meth c X hex
  show PW E p l e _ s m args below meth c _ 0 0 _ h 0 [(0, some (.ref v0)), (1, some (.int v1))] []
  unfold fX11_write at hf
  have hM := Nat.sub_add_cancel hmm.1
  have hN := Nat.sub_add_cancel hmm.2
  refine p_pick [0, 1] ?_
  exact wX11_write_b0 X hG hex hM hN (Nat.zero_add _) (Nat.zero_add _) hf
theorem dc_J0_checkIndex_df160 : decs cJ0_checkIndex_df160 [(0, .iload_n 0, 1), (1, .iload_n 1, 1), (2, .getstatic 1053, 3), (5, .invokestatic 1059, 3), (8, .pop, 1), (9, .return_, 1)] = true := by decide +kernel
noncomputable def fJ0_checkIndex_df160 (v0 : Int32) (v1 : Int32) : Option Unit := bd (fJ3_checkIndex_8e157 v0 v1 none) (fun _ => some ())
set_option maxRecDepth 100000 in
theorem wJ0_checkIndex_df160 {E : PE} {l : Launch} (hG : Gs E l) {v0 : Int32} {v1 : Int32} {h : PH} {r : Unit} (hf : fJ0_checkIndex_df160 v0 v1 = some r) : Ct E l 1 0 0 yJ0_checkIndex_df160 cJ0_checkIndex_df160 2 (none) [.int v0, .int v1] h (fun v u => v = none ∧ u = h) := by
  refine ct_of hG (by decide) (Nat.le_of_ble_eq_true rfl) ?_
  intro p e s m args below meth c X hnm
  show PW E p l e _ s m args below meth c _ 0 0 _ h 0 [(0, some (.int v0)), (1, some (.int v1))] []
  unfold fJ0_checkIndex_df160 at hf
  obtain ⟨z, hz, hf⟩ := bd_some hf
  refine p_iload_n X (dcg dc_J0_checkIndex_df160 0 rfl) rfl rfl ?_
  refine p_iload_n X (dcg dc_J0_checkIndex_df160 1 rfl) rfl rfl ?_
  obtain ⟨v6, hv6, hz6⟩ := gz_fmt hG
  rcases hv6 with rfl | rfl
  · refine p_gets (v := va_rf none) X hz6 tw_647 (dcg dc_J0_checkIndex_df160 2 rfl) ?_
    refine p_callS (As := [.int _, .int _, va_rf _]) X ml_J0_1059 (dcg dc_J0_checkIndex_df160 3 rfl) rfl rfl (wJ3_checkIndex_8e157 hG hz) (by decide) (room4 (Nat.le_of_ble_eq_true rfl)) (Nat.le_refl _) (Nat.le_refl _) ?_
    rintro _ u9 ⟨rfl, e9⟩; have e9 := e9.symm; subst e9
    refine p_pop X (dcg dc_J0_checkIndex_df160 4 rfl) rfl ?_
    have er := Option.some.inj hf
    subst er
    exact p_vret X rfl (dcg dc_J0_checkIndex_df160 5 rfl) ⟨rfl, rfl⟩ (Nat.le_refl _) (Nat.le_refl _)
  · refine p_gets (v := .ref 6) X hz6 tw_647 (dcg dc_J0_checkIndex_df160 2 rfl) ?_
    refine p_callS (As := [.int _, .int _, va_rf (some _)]) X ml_J0_1059 (dcg dc_J0_checkIndex_df160 3 rfl) rfl rfl (wJ3_checkIndex_8e157 hG (show fJ3_checkIndex_8e157 v0 v1 (some 6) = some z from hz)) (by decide) (room4 (Nat.le_of_ble_eq_true rfl)) (Nat.le_refl _) (Nat.le_refl _) ?_
    rintro _ u9 ⟨rfl, e9⟩; have e9 := e9.symm; subst e9
    refine p_pop X (dcg dc_J0_checkIndex_df160 4 rfl) rfl ?_
    have er := Option.some.inj hf
    subst er
    exact p_vret X rfl (dcg dc_J0_checkIndex_df160 5 rfl) ⟨rfl, rfl⟩ (Nat.le_refl _) (Nat.le_refl _)
theorem dc_J5_charAt_5068e : decs cJ5_charAt_5068e [(0, .aload_n 0, 1), (1, .getfield 22, 3), (4, .istore_n 2, 1), (5, .aload_n 0, 1), (6, .getfield 15, 3), (9, .astore_n 3, 1), (10, .aload_n 0, 1), (11, .getfield 79, 3), (14, .aload_n 3, 1), (15, .arraylength, 1), (16, .iload_n 2, 1), (17, .ishr, 1), (18, .invokestatic 138, 3), (21, .istore 4, 2), (23, .iload_n 1, 1), (24, .iload 4, 2), (26, .invokestatic 144, 3), (29, .iload_n 2, 1), (30, .ifCond .ne 12, 3), (33, .aload_n 3, 1), (34, .iload_n 1, 1), (35, .baload, 1), (36, .sipush 255, 3), (39, .iand, 1), (40, .i2c, 1), (41, .ireturn, 1), (42, .aload_n 3, 1), (43, .iload_n 1, 1), (44, .invokestatic 148, 3), (47, .ireturn, 1)] = true := by decide +kernel
noncomputable def fJ5_charAt_5068e (v0 : Nat) (v1 : Int32) (h : PH) : Option Int32 :=
  gd (hK h v0 = 13) (gs (hR h 13 v0 0) (fun a2 =>
  gd (hK h a2 = 22) (bd (fJ0_checkIndex_df160 v1 (if ((nI (hN h a2)) >>> ((hI h 13 v0 1) &&& 31)) < (hI h 13 v0 3) then ((nI (hN h a2)) >>> ((hI h 13 v0 1) &&& 31)) else (hI h 13 v0 3))) (fun z5 =>
  if (¬ (hI h 13 v0 1) = 0) then (none) else
  gd (inb v1 (hN h a2)) (gd ((((Int32.toUInt32 (((Int32.toUInt32 ((hI h 22 a2 (Int32.toNatClampNeg v1)) &&& (255 : Int32))) % 65536).toInt32)).toUInt16).toUInt32).toInt32 = (((Int32.toUInt32 ((hI h 22 a2 (Int32.toNatClampNeg v1)) &&& (255 : Int32))) % 65536).toInt32)) (some ((((Int32.toUInt32 ((hI h 22 a2 (Int32.toNatClampNeg v1)) &&& (255 : Int32))) % 65536).toInt32))))))))
set_option maxRecDepth 100000 in
theorem wJ5_charAt_5068e {E : PE} {l : Launch} (hG : Gs E l) {v0 : Nat} {v1 : Int32} {h : PH} {r : Int32} (hf : fJ5_charAt_5068e v0 v1 h = some r) : Ct E l 2 0 0 yJ5_charAt_5068e cJ5_charAt_5068e 5 (some .char) [.ref v0, .int v1] h (fun v u => v = some (.int r) ∧ u = h) := by
  refine ct_of hG (by decide) (Nat.le_of_ble_eq_true rfl) ?_
  intro p e s m args below meth c X hnm
  show PW E p l e _ s m args below meth c _ 0 0 _ h 0 [(0, some (.ref v0)), (1, some (.int v1))] []
  unfold fJ5_charAt_5068e at hf
  refine p_aload_n X (dcg dc_J5_charAt_5068e 0 rfl) rfl rfl ?_
  obtain ⟨hk1, hf⟩ := gd_some hf
  refine p_getI X fl_J5_22 rfl (by decide) (dcg dc_J5_charAt_5068e 1 rfl) hk1 ?_
  refine p_istore_n X (dcg dc_J5_charAt_5068e 2 rfl) rfl (by decide) rfl ?_
  refine p_aload_n X (dcg dc_J5_charAt_5068e 3 rfl) rfl rfl ?_
  refine p_getR X fl_J5_15 rfl (by decide) (dcg dc_J5_charAt_5068e 4 rfl) hk1 ?_
  refine p_astoreq_n X (dcg dc_J5_charAt_5068e 5 rfl) rfl (by decide) rfl ?_
  refine p_aload_n X (dcg dc_J5_charAt_5068e 6 rfl) rfl rfl ?_
  refine p_getI X fl_J5_79 rfl (by decide) (dcg dc_J5_charAt_5068e 7 rfl) hk1 ?_
  refine p_aloadq_n X (dcg dc_J5_charAt_5068e 8 rfl) rfl rfl ?_
  obtain ⟨a2, e3, hf⟩ := gs_some hf
  first | subst e3 | (try rw [e3])
  obtain ⟨hk4, hf⟩ := gd_some hf
  refine p_alen22 X (dcg dc_J5_charAt_5068e 9 rfl) hk4 ?_
  refine p_iload_n X (dcg dc_J5_charAt_5068e 10 rfl) rfl rfl ?_
  refine p_ishr X (dcg dc_J5_charAt_5068e 11 rfl) ?_
  refine p_mmin X tw_1769 tw_625 tw_123 tw_626 (dcg dc_J5_charAt_5068e 12 rfl) (Nat.le_of_ble_eq_true rfl) (Nat.le_trans (Nat.add_le_add_right (room4 (Nat.le_of_ble_eq_true rfl)) 13) (Nat.le_of_ble_eq_true rfl)) (Nat.le_refl _) (Nat.le_refl _) (fun ls hl => X.2.2.1.trans hl.1.symm) ?_
  refine p_istore X (dcg dc_J5_charAt_5068e 13 rfl) (by decide) rfl ?_
  refine p_iload_n X (dcg dc_J5_charAt_5068e 14 rfl) rfl rfl ?_
  refine p_iload X (dcg dc_J5_charAt_5068e 15 rfl) rfl ?_
  obtain ⟨z5, hz5, hf⟩ := bd_some hf
  refine p_callS (As := [_, _]) X ml_J5_144 (dcg dc_J5_charAt_5068e 16 rfl) rfl rfl  (wJ0_checkIndex_df160 hG hz5) (by decide) (room4 (Nat.le_of_ble_eq_true rfl)) (Nat.le_refl _) (Nat.le_refl _) ?_
  rintro _ u9 ⟨rfl, e9⟩; have e9 := e9.symm; subst e9
  refine p_iload_n X (dcg dc_J5_charAt_5068e 17 rfl) rfl rfl ?_
  refine p_if_ne (tgt := 42) X (dcg dc_J5_charAt_5068e 18 rfl) (by decide) (fun q => ?_) (fun q => ?_)
  · have hf := if_t q hf
    refine p_aload_n X (dcg dc_J5_charAt_5068e 26 rfl) rfl rfl ?_
    refine p_iload_n X (dcg dc_J5_charAt_5068e 27 rfl) rfl rfl ?_
    cases hf
  · have hf := if_f q hf
    refine p_aload_n X (dcg dc_J5_charAt_5068e 19 rfl) rfl rfl ?_
    refine p_iload_n X (dcg dc_J5_charAt_5068e 20 rfl) rfl rfl ?_
    obtain ⟨hb6, hf⟩ := gd_some hf
    refine p_bald X (dcg dc_J5_charAt_5068e 21 rfl) hk4 (vp_of_inb hb6) ?_
    refine p_sipush (v := 255) X (dcg dc_J5_charAt_5068e 22 rfl) (by decide) ?_
    refine p_iand X (dcg dc_J5_charAt_5068e 23 rfl) ?_
    refine p_i2c X (dcg dc_J5_charAt_5068e 24 rfl) ?_
    obtain ⟨hg7, hf⟩ := gd_some hf
    have er := Option.some.inj hf
    subst er
    exact p_zret X rfl (congrArg Value.int hg7) (dcg dc_J5_charAt_5068e 25 rfl) ⟨rfl, rfl⟩ (Nat.le_refl _) (Nat.le_refl _)
theorem dc_J4_charAt_5068e : decs cJ4_charAt_5068e [(0, .aload_n 0, 1), (1, .iload_n 1, 1), (2, .invokespecial 329, 3), (5, .ireturn, 1)] = true := by decide +kernel
noncomputable def fJ4_charAt_5068e (v0 : Nat) (v1 : Int32) (h : PH) : Option Int32 :=
  gd (hK h v0 = 13) (bd (fJ5_charAt_5068e v0 v1 h) (fun z2 =>
  gd ((((Int32.toUInt32 z2).toUInt16).toUInt32).toInt32 = z2) (some (z2))))
set_option maxRecDepth 100000 in
theorem wJ4_charAt_5068e {E : PE} {l : Launch} (hG : Gs E l) {v0 : Nat} {v1 : Int32} {h : PH} {r : Int32} (hf : fJ4_charAt_5068e v0 v1 h = some r) : Ct E l 3 0 0 yJ4_charAt_5068e cJ4_charAt_5068e 2 (some .char) [.ref v0, .int v1] h (fun v u => v = some (.int r) ∧ u = h) := by
  refine ct_of hG (by decide) (Nat.le_of_ble_eq_true rfl) ?_
  intro p e s m args below meth c X hnm
  show PW E p l e _ s m args below meth c _ 0 0 _ h 0 [(0, some (.ref v0)), (1, some (.int v1))] []
  unfold fJ4_charAt_5068e at hf
  refine p_aload_n X (dcg dc_J4_charAt_5068e 0 rfl) rfl rfl ?_
  refine p_iload_n X (dcg dc_J4_charAt_5068e 1 rfl) rfl rfl ?_
  obtain ⟨hk1, hf⟩ := gd_some hf
  obtain ⟨z2, hz2, hf⟩ := bd_some hf
  refine p_callW (As := [_]) X ml_J4_329 (dcg dc_J4_charAt_5068e 2 rfl) rfl rfl hk1 (wJ5_charAt_5068e hG hz2) (by decide) (room4 (Nat.le_of_ble_eq_true rfl)) (Nat.le_refl _) (Nat.le_refl _) ?_
  rintro _ u9 ⟨rfl, e9⟩; have e9 := e9.symm; subst e9
  obtain ⟨hg3, hf⟩ := gd_some hf
  have er := Option.some.inj hf
  subst er
  exact p_zret X rfl (congrArg Value.int hg3) (dcg dc_J4_charAt_5068e 3 rfl) ⟨rfl, rfl⟩ (Nat.le_refl _) (Nat.le_refl _)
theorem dc_X11_writtenAt : decs cX11_writtenAt [(0, .iload_n 1, 1), (1, .ifCond .lt 14, 3), (4, .iload_n 1, 1), (5, .aload_n 0, 1), (6, .getfield 82, 3), (9, .invokevirtual 285, 3), (12, .if_icmp .lt 11, 3), (15, .new 125, 3), (18, .dup, 1), (19, .invokespecial 127, 3), (22, .athrow, 1), (23, .aload_n 0, 1), (24, .getfield 82, 3), (27, .iload_n 1, 1), (28, .invokevirtual 288, 3), (31, .ireturn, 1)] = true := by decide +kernel
noncomputable def fX11_writtenAt_b15  (h : PH) : Option ((Int32 × PH) ⊕ (Nat × PH)) :=
  some (.inr (2, h))
set_option maxRecDepth 100000 in
theorem mX11_writtenAt_b15  {h : PH} {r : ((Int32 × PH) ⊕ (Nat × PH))} (hf : fX11_writtenAt_b15  h = some r) : lez h (xT2 r) (vT2 r) := by
  unfold fX11_writtenAt_b15 at hf
  have hle := lez_rf h
  cases hf; exact lez_up hle
set_option maxRecDepth 100000 in
theorem wX11_writtenAt_b15 {E : PE} {p : Program} {l : Launch} {e : Env} {s : State} {m : MethodId} {args : Array Value} {below : List Frame} {meth : Method} {c : Code} {X0 V0 MC MS uc us : Nat} (X : Cx E p l e (rmv 8 MC MS) s m args below meth c RX11 cX11_writtenAt 2 (some .char)) (hG : Gs E l) (hex : ∀ x ∈ c.exceptionTable.toList, False)  {h : PH} {r : ((Int32 × PH) ⊕ (Nat × PH))} (hM : MC + X0 = (xT2 r)) (hN : MS + V0 = (vT2 r)) (hu : uc + X0 = hX h) (hv : us + V0 = hV h) (hf : fX11_writtenAt_b15  h = some r)  : PW E p l e (rmv 8 MC MS) s m args below meth c 2 uc us (vx_MQ below (QG E (fun v u => ∃ z, r = .inl z ∧ v = some (.int z.1) ∧ u = z.2)) (XG E (fun En u => ∃ (z : Nat × PH) (n : Nat), r = .inr z ∧ En = exn z.1 ∧ hX z.2 ≤ n ∧ u = hbump z.2 n)) args s MC MS (pA E)) h 15 [] [] := by
  have hm1 : lez h (xT2 r) (vT2 r) := mX11_writtenAt_b15 hf
  have hcm : uc ≤ MC := (by have o0 := hm1.1; have o1 := hM; have o2 := hu; (try simp only [hX_sI, hX_sR, hX_sL, hX_sD, hX_sIa, hX_sRa, hV_sI, hV_sR, hV_sL, hV_sD, hV_sIa, hV_sRa, hX_new, hV_new] at o0 o1 o2 ⊢); omega)
  have hsm : us ≤ MS := (by have o0 := hm1.2; have o1 := hN; have o2 := hv; (try simp only [hX_sI, hX_sR, hX_sL, hX_sD, hX_sIa, hX_sRa, hV_sI, hV_sR, hV_sL, hV_sD, hV_sIa, hV_sRa, hX_new, hV_new] at o0 o1 o2 ⊢); omega)
  clear hm1
  unfold fX11_writtenAt_b15 at hf
  have er := Option.some.inj hf
  subst er
  exact p_throw0 (cls := "java/lang/IndexOutOfBoundsException") (names := ["java/lang/RuntimeException", "java/lang/Exception"]) X hex (by decide) (by decide) tw_1205 tw_127 th_X11_127a th_X11_127b th_X11_127c th_X11_127d (dcg dc_X11_writtenAt 7 rfl) (dcg dc_X11_writtenAt 8 rfl) (dcg dc_X11_writtenAt 9 rfl) (dcg dc_X11_writtenAt 10 rfl) (Nat.le_of_ble_eq_true rfl) (Nat.le_trans (Nat.add_le_add_right (room4 (Nat.le_of_ble_eq_true rfl)) _) (Nat.le_of_ble_eq_true rfl)) (show uc + 1 ≤ MC from (by have o0 := (show MC + X0 = hX h + 1 from hM); have o1 := hu; (try simp only [hX_sI, hX_sR, hX_sL, hX_sD, hX_sIa, hX_sRa, hV_sI, hV_sR, hV_sL, hV_sD, hV_sIa, hV_sRa, hX_new, hV_new] at o0 o1 ⊢); omega)) (show us + 6 ≤ MS from (by have o0 := (show MS + V0 = hV h + 6 from hN); have o1 := hv; (try simp only [hX_sI, hX_sR, hX_sL, hX_sD, hX_sIa, hX_sRa, hV_sI, hV_sR, hV_sL, hV_sD, hV_sIa, hV_sRa, hX_new, hV_new] at o0 o1 ⊢); omega)) (show uc + 1 ≤ MC from (by have o0 := (show MC + X0 = hX h + 1 from hM); have o1 := hu; (try simp only [hX_sI, hX_sR, hX_sL, hX_sD, hX_sIa, hX_sRa, hV_sI, hV_sR, hV_sL, hV_sD, hV_sIa, hV_sRa, hX_new, hV_new] at o0 o1 ⊢); omega)) (show us + 6 ≤ MS from (by have o0 := (show MS + V0 = hV h + 6 from hN); have o1 := hv; (try simp only [hX_sI, hX_sR, hX_sL, hX_sD, hX_sIa, hX_sRa, hV_sI, hV_sR, hV_sL, hV_sD, hV_sIa, hV_sRa, hX_new, hV_new] at o0 o1 ⊢); omega)) (fun n hn => ⟨_, n, rfl, rfl, hn, rfl⟩)
noncomputable def fX11_writtenAt_b0 (v0 : Nat) (v1 : Int32) (h : PH) : Option ((Int32 × PH) ⊕ (Nat × PH)) :=
  if (v1 < 0) then (fX11_writtenAt_b15  h) else
  gd (hK h v0 = 11) (gs (hR h 11 v0 10) (fun a2 =>
  gd (hK h a2 = 13) (bd (fJ4_length_8abf5 a2 h) (fun z5 =>
  if (v1 < z5) then (gs (hR h 11 v0 10) (fun a6 =>
  gd (hK h a6 = 13) (bd (fJ4_charAt_5068e a6 v1 h) (fun z9 =>
  gd ((((Int32.toUInt32 z9).toUInt16).toUInt32).toInt32 = z9) (some (.inl ((z9, h)))))))) else
  fX11_writtenAt_b15  h))))
set_option maxRecDepth 100000 in
theorem mX11_writtenAt_b0 {v0 : Nat} {v1 : Int32} {h : PH} {r : ((Int32 × PH) ⊕ (Nat × PH))} (hf : fX11_writtenAt_b0 v0 v1 h = some r) : lez h (xT2 r) (vT2 r) := by
  unfold fX11_writtenAt_b0 at hf
  have hle := lez_rf h
  rcases ite_or hf with ⟨q, hf⟩ | ⟨q, hf⟩
  · have hf := if_t q hf
    exact lez_rt (mX11_writtenAt_b15 hf) hle
  · have hf := if_f q hf
    obtain ⟨hk1, hf⟩ := gd_some hf
    obtain ⟨a2, e3, hf⟩ := gs_some hf
    obtain ⟨hk4, hf⟩ := gd_some hf
    obtain ⟨z5, hz5, hf⟩ := bd_some hf
    rcases ite_or hf with ⟨q, hf⟩ | ⟨q, hf⟩
    · have hf := if_t q hf
      obtain ⟨a6, e7, hf⟩ := gs_some hf
      obtain ⟨hk8, hf⟩ := gd_some hf
      obtain ⟨z9, hz9, hf⟩ := bd_some hf
      obtain ⟨hg10, hf⟩ := gd_some hf
      have ee := Option.some.inj hf; subst ee; exact hle
    · have hf := if_f q hf
      exact lez_rt (mX11_writtenAt_b15 hf) hle
set_option maxRecDepth 100000 in
theorem wX11_writtenAt_b0 {E : PE} {p : Program} {l : Launch} {e : Env} {s : State} {m : MethodId} {args : Array Value} {below : List Frame} {meth : Method} {c : Code} {X0 V0 MC MS uc us : Nat} (X : Cx E p l e (rmv 8 MC MS) s m args below meth c RX11 cX11_writtenAt 2 (some .char)) (hG : Gs E l) (hex : ∀ x ∈ c.exceptionTable.toList, False) {v0 : Nat} {v1 : Int32} {h : PH} {r : ((Int32 × PH) ⊕ (Nat × PH))} (hM : MC + X0 = (xT2 r)) (hN : MS + V0 = (vT2 r)) (hu : uc + X0 = hX h) (hv : us + V0 = hV h) (hf : fX11_writtenAt_b0 v0 v1 h = some r)  : PW E p l e (rmv 8 MC MS) s m args below meth c 2 uc us (vx_MQ below (QG E (fun v u => ∃ z, r = .inl z ∧ v = some (.int z.1) ∧ u = z.2)) (XG E (fun En u => ∃ (z : Nat × PH) (n : Nat), r = .inr z ∧ En = exn z.1 ∧ hX z.2 ≤ n ∧ u = hbump z.2 n)) args s MC MS (pA E)) h 0 [(0, some (.ref v0)), (1, some (.int v1))] [] := by
  have hm1 : lez h (xT2 r) (vT2 r) := mX11_writtenAt_b0 hf
  have hcm : uc ≤ MC := (by have o0 := hm1.1; have o1 := hM; have o2 := hu; (try simp only [hX_sI, hX_sR, hX_sL, hX_sD, hX_sIa, hX_sRa, hV_sI, hV_sR, hV_sL, hV_sD, hV_sIa, hV_sRa, hX_new, hV_new] at o0 o1 o2 ⊢); omega)
  have hsm : us ≤ MS := (by have o0 := hm1.2; have o1 := hN; have o2 := hv; (try simp only [hX_sI, hX_sR, hX_sL, hX_sD, hX_sIa, hX_sRa, hV_sI, hV_sR, hV_sL, hV_sD, hV_sIa, hV_sRa, hX_new, hV_new] at o0 o1 o2 ⊢); omega)
  clear hm1
  unfold fX11_writtenAt_b0 at hf
  refine p_iload_n X (dcg dc_X11_writtenAt 0 rfl) rfl rfl ?_
  refine p_if_lt (tgt := 15) X (dcg dc_X11_writtenAt 1 rfl) (by decide) (fun q => ?_) (fun q => ?_)
  · have hf := if_t q hf
    refine p_pick [] ?_
    exact wX11_writtenAt_b15 X hG hex hM hN hu hv hf 
  · have hf := if_f q hf
    refine p_iload_n X (dcg dc_X11_writtenAt 2 rfl) rfl rfl ?_
    refine p_aload_n X (dcg dc_X11_writtenAt 3 rfl) rfl rfl ?_
    obtain ⟨hk1, hf⟩ := gd_some hf
    refine p_getR X fl_X11_82 rfl (by decide) (dcg dc_X11_writtenAt 4 rfl) hk1 ?_
    obtain ⟨a2, e3, hf⟩ := gs_some hf
    first | subst e3 | (try rw [e3])
    obtain ⟨hk4, hf⟩ := gd_some hf
    obtain ⟨z5, hz5, hf⟩ := bd_some hf
    refine p_callV (As := []) X ml_X11_285 (dcg dc_X11_writtenAt 5 rfl) rfl rfl hk4 (wJ4_length_8abf5 hG hz5) (by decide) (room4 (Nat.le_of_ble_eq_true rfl)) hcm hsm ?_
    rintro _ u9 ⟨rfl, e9⟩; have e9 := e9.symm; subst e9
    refine p_icmp_lt (tgt := 23) X (dcg dc_X11_writtenAt 6 rfl) (by decide) (fun q => ?_) (fun q => ?_)
    · have hf := if_t q hf
      refine p_aload_n X (dcg dc_X11_writtenAt 11 rfl) rfl rfl ?_
      refine p_getR X fl_X11_82 rfl (by decide) (dcg dc_X11_writtenAt 12 rfl) hk1 ?_
      refine p_iload_n X (dcg dc_X11_writtenAt 13 rfl) rfl rfl ?_
      obtain ⟨a6, e7, hf⟩ := gs_some hf
      first | subst e7 | (try rw [e7])
      obtain ⟨hk8, hf⟩ := gd_some hf
      obtain ⟨z9, hz9, hf⟩ := bd_some hf
      refine p_callV (As := [_]) X ml_X11_288 (dcg dc_X11_writtenAt 14 rfl) rfl rfl hk8 (wJ4_charAt_5068e hG hz9) (by decide) (room4 (Nat.le_of_ble_eq_true rfl)) hcm hsm ?_
      rintro _ u9 ⟨rfl, e9⟩; have e9 := e9.symm; subst e9
      obtain ⟨hg10, hf⟩ := gd_some hf
      have er := Option.some.inj hf
      subst er
      refine p_vx ?_
      exact p_zret X rfl (congrArg Value.int hg10) (dcg dc_X11_writtenAt 15 rfl) ⟨_, rfl, rfl, rfl⟩ hcm hsm
    · have hf := if_f q hf
      refine p_pick [] ?_
      exact wX11_writtenAt_b15 X hG hex hM hN hu hv hf 
noncomputable def fX11_writtenAt (v0 : Nat) (v1 : Int32) (h : PH) : Option ((Int32 × PH) ⊕ (Nat × PH)) :=
  fX11_writtenAt_b0 v0 v1 h
set_option maxRecDepth 100000 in
theorem mX11_writtenAt {v0 : Nat} {v1 : Int32} {h : PH} {r : ((Int32 × PH) ⊕ (Nat × PH))} (hf : fX11_writtenAt v0 v1 h = some r) : lez h (xT2 r) (vT2 r) := by
  unfold fX11_writtenAt at hf
  have hle := lez_rf h
  exact lez_rt (mX11_writtenAt_b0 hf) hle
set_option maxRecDepth 100000 in
theorem wX11_writtenAt {E : PE} {l : Launch} (hG : Gs E l) {v0 : Nat} {v1 : Int32} {h : PH} {r : ((Int32 × PH) ⊕ (Nat × PH))} (hf : fX11_writtenAt v0 v1 h = some r) : CtX E l 8 ((xT2 r) - hX h) ((vT2 r) - hV h) yX11_writtenAt cX11_writtenAt 2 (some .char) [.ref v0, .int v1] h (fun v u => ∃ z, r = .inl z ∧ v = some (.int z.1) ∧ u = z.2) (fun En u => ∃ (z : Nat × PH) (n : Nat), r = .inr z ∧ En = exn z.1 ∧ hX z.2 ≤ n ∧ u = hbump z.2 n) := by
  have hmm := mX11_writtenAt hf
  refine ctx_of hG (by decide) (Nat.le_of_ble_eq_true rfl) ?_
  intro p e s m args below meth c X hex
  show PW E p l e _ s m args below meth c _ 0 0 _ h 0 [(0, some (.ref v0)), (1, some (.int v1))] []
  unfold fX11_writtenAt at hf
  have hM := Nat.sub_add_cancel hmm.1
  have hN := Nat.sub_add_cancel hmm.2
  refine p_pick [0, 1] ?_
  exact wX11_writtenAt_b0 X hG hex hM hN (Nat.zero_add _) (Nat.zero_add _) hf
theorem dc_X11_events : decs cX11_events [(0, .aload_n 0, 1), (1, .getfield 61, 3), (4, .getfield 292, 3), (7, .ireturn, 1)] = true := by decide +kernel
noncomputable def fX11_events (v0 : Nat) (h : PH) : Option Int32 :=
  gd (hK h v0 = 11) (gs (hR h 11 v0 7) (fun a2 =>
  gd (hK h a2 = 1) (some ((hI h 1 a2 4)))))
set_option maxRecDepth 100000 in
theorem wX11_events {E : PE} {l : Launch} (hG : Gs E l) {v0 : Nat} {h : PH} {r : Int32} (hf : fX11_events v0 h = some r) : Ct E l 0 0 0 yX11_events cX11_events 1 (some .int) [.ref v0] h (fun v u => v = some (.int r) ∧ u = h) := by
  refine ct_of hG (by decide) (Nat.le_of_ble_eq_true rfl) ?_
  intro p e s m args below meth c X hnm
  show PW E p l e _ s m args below meth c _ 0 0 _ h 0 [(0, some (.ref v0))] []
  unfold fX11_events at hf
  refine p_aload_n X (dcg dc_X11_events 0 rfl) rfl rfl ?_
  obtain ⟨hk1, hf⟩ := gd_some hf
  refine p_getR X fl_X11_61 rfl (by decide) (dcg dc_X11_events 1 rfl) hk1 ?_
  obtain ⟨a2, e3, hf⟩ := gs_some hf
  first | subst e3 | (try rw [e3])
  obtain ⟨hk4, hf⟩ := gd_some hf
  refine p_getIn X fl_X11_292 rfl (by decide) (dcg dc_X11_events 2 rfl) hk4 ?_
  have er := Option.some.inj hf
  subst er
  exact p_iret X rfl (dcg dc_X11_events 3 rfl) ⟨rfl, rfl⟩ (Nat.le_refl _) (Nat.le_refl _)
theorem dc_X11_eventOf : decs cX11_eventOf [(0, .iload_n 1, 1), (1, .ifCond .lt 14, 3), (4, .iload_n 1, 1), (5, .aload_n 0, 1), (6, .getfield 61, 3), (9, .getfield 292, 3), (12, .if_icmp .lt 11, 3), (15, .new 125, 3), (18, .dup, 1), (19, .invokespecial 127, 3), (22, .athrow, 1), (23, .iload_n 2, 1), (24, .ifCond .lt 8, 3), (27, .iload_n 2, 1), (28, .iconst 2, 1), (29, .if_icmp .le 11, 3), (32, .new 112, 3), (35, .dup, 1), (36, .invokespecial 114, 3), (39, .athrow, 1), (40, .aload_n 0, 1), (41, .getfield 61, 3), (44, .iload_n 1, 1), (45, .iload_n 2, 1), (46, .invokevirtual 293, 3), (49, .ireturn, 1)] = true := by decide +kernel
noncomputable def fX11_eventOf_b15  (h : PH) : Option ((Int32 × PH) ⊕ (Nat × PH)) :=
  some (.inr (2, h))
set_option maxRecDepth 100000 in
theorem mX11_eventOf_b15  {h : PH} {r : ((Int32 × PH) ⊕ (Nat × PH))} (hf : fX11_eventOf_b15  h = some r) : lez h (xT2 r) (vT2 r) := by
  unfold fX11_eventOf_b15 at hf
  have hle := lez_rf h
  cases hf; exact lez_up hle
set_option maxRecDepth 100000 in
theorem wX11_eventOf_b15 {E : PE} {p : Program} {l : Launch} {e : Env} {s : State} {m : MethodId} {args : Array Value} {below : List Frame} {meth : Method} {c : Code} {X0 V0 MC MS uc us : Nat} (X : Cx E p l e (rmv 8 MC MS) s m args below meth c RX11 cX11_eventOf 3 (some .int)) (hG : Gs E l) (hex : ∀ x ∈ c.exceptionTable.toList, False)  {h : PH} {r : ((Int32 × PH) ⊕ (Nat × PH))} (hM : MC + X0 = (xT2 r)) (hN : MS + V0 = (vT2 r)) (hu : uc + X0 = hX h) (hv : us + V0 = hV h) (hf : fX11_eventOf_b15  h = some r)  : PW E p l e (rmv 8 MC MS) s m args below meth c 3 uc us (vx_MQ below (QG E (fun v u => ∃ z, r = .inl z ∧ v = some (.int z.1) ∧ u = z.2)) (XG E (fun En u => ∃ (z : Nat × PH) (n : Nat), r = .inr z ∧ En = exn z.1 ∧ hX z.2 ≤ n ∧ u = hbump z.2 n)) args s MC MS (pA E)) h 15 [] [] := by
  have hm1 : lez h (xT2 r) (vT2 r) := mX11_eventOf_b15 hf
  have hcm : uc ≤ MC := (by have o0 := hm1.1; have o1 := hM; have o2 := hu; (try simp only [hX_sI, hX_sR, hX_sL, hX_sD, hX_sIa, hX_sRa, hV_sI, hV_sR, hV_sL, hV_sD, hV_sIa, hV_sRa, hX_new, hV_new] at o0 o1 o2 ⊢); omega)
  have hsm : us ≤ MS := (by have o0 := hm1.2; have o1 := hN; have o2 := hv; (try simp only [hX_sI, hX_sR, hX_sL, hX_sD, hX_sIa, hX_sRa, hV_sI, hV_sR, hV_sL, hV_sD, hV_sIa, hV_sRa, hX_new, hV_new] at o0 o1 o2 ⊢); omega)
  clear hm1
  unfold fX11_eventOf_b15 at hf
  have er := Option.some.inj hf
  subst er
  exact p_throw0 (cls := "java/lang/IndexOutOfBoundsException") (names := ["java/lang/RuntimeException", "java/lang/Exception"]) X hex (by decide) (by decide) tw_1205 tw_127 th_X11_127a th_X11_127b th_X11_127c th_X11_127d (dcg dc_X11_eventOf 7 rfl) (dcg dc_X11_eventOf 8 rfl) (dcg dc_X11_eventOf 9 rfl) (dcg dc_X11_eventOf 10 rfl) (Nat.le_of_ble_eq_true rfl) (Nat.le_trans (Nat.add_le_add_right (room4 (Nat.le_of_ble_eq_true rfl)) _) (Nat.le_of_ble_eq_true rfl)) (show uc + 1 ≤ MC from (by have o0 := (show MC + X0 = hX h + 1 from hM); have o1 := hu; (try simp only [hX_sI, hX_sR, hX_sL, hX_sD, hX_sIa, hX_sRa, hV_sI, hV_sR, hV_sL, hV_sD, hV_sIa, hV_sRa, hX_new, hV_new] at o0 o1 ⊢); omega)) (show us + 6 ≤ MS from (by have o0 := (show MS + V0 = hV h + 6 from hN); have o1 := hv; (try simp only [hX_sI, hX_sR, hX_sL, hX_sD, hX_sIa, hX_sRa, hV_sI, hV_sR, hV_sL, hV_sD, hV_sIa, hV_sRa, hX_new, hV_new] at o0 o1 ⊢); omega)) (show uc + 1 ≤ MC from (by have o0 := (show MC + X0 = hX h + 1 from hM); have o1 := hu; (try simp only [hX_sI, hX_sR, hX_sL, hX_sD, hX_sIa, hX_sRa, hV_sI, hV_sR, hV_sL, hV_sD, hV_sIa, hV_sRa, hX_new, hV_new] at o0 o1 ⊢); omega)) (show us + 6 ≤ MS from (by have o0 := (show MS + V0 = hV h + 6 from hN); have o1 := hv; (try simp only [hX_sI, hX_sR, hX_sL, hX_sD, hX_sIa, hX_sRa, hV_sI, hV_sR, hV_sL, hV_sD, hV_sIa, hV_sRa, hX_new, hV_new] at o0 o1 ⊢); omega)) (fun n hn => ⟨_, n, rfl, rfl, hn, rfl⟩)
noncomputable def fX11_eventOf_b32  (h : PH) : Option ((Int32 × PH) ⊕ (Nat × PH)) :=
  some (.inr (1, h))
set_option maxRecDepth 100000 in
theorem mX11_eventOf_b32  {h : PH} {r : ((Int32 × PH) ⊕ (Nat × PH))} (hf : fX11_eventOf_b32  h = some r) : lez h (xT2 r) (vT2 r) := by
  unfold fX11_eventOf_b32 at hf
  have hle := lez_rf h
  cases hf; exact lez_up hle
set_option maxRecDepth 100000 in
theorem wX11_eventOf_b32 {E : PE} {p : Program} {l : Launch} {e : Env} {s : State} {m : MethodId} {args : Array Value} {below : List Frame} {meth : Method} {c : Code} {X0 V0 MC MS uc us : Nat} (X : Cx E p l e (rmv 8 MC MS) s m args below meth c RX11 cX11_eventOf 3 (some .int)) (hG : Gs E l) (hex : ∀ x ∈ c.exceptionTable.toList, False)  {h : PH} {r : ((Int32 × PH) ⊕ (Nat × PH))} (hM : MC + X0 = (xT2 r)) (hN : MS + V0 = (vT2 r)) (hu : uc + X0 = hX h) (hv : us + V0 = hV h) (hf : fX11_eventOf_b32  h = some r)  : PW E p l e (rmv 8 MC MS) s m args below meth c 3 uc us (vx_MQ below (QG E (fun v u => ∃ z, r = .inl z ∧ v = some (.int z.1) ∧ u = z.2)) (XG E (fun En u => ∃ (z : Nat × PH) (n : Nat), r = .inr z ∧ En = exn z.1 ∧ hX z.2 ≤ n ∧ u = hbump z.2 n)) args s MC MS (pA E)) h 32 [] [] := by
  have hm1 : lez h (xT2 r) (vT2 r) := mX11_eventOf_b32 hf
  have hcm : uc ≤ MC := (by have o0 := hm1.1; have o1 := hM; have o2 := hu; (try simp only [hX_sI, hX_sR, hX_sL, hX_sD, hX_sIa, hX_sRa, hV_sI, hV_sR, hV_sL, hV_sD, hV_sIa, hV_sRa, hX_new, hV_new] at o0 o1 o2 ⊢); omega)
  have hsm : us ≤ MS := (by have o0 := hm1.2; have o1 := hN; have o2 := hv; (try simp only [hX_sI, hX_sR, hX_sL, hX_sD, hX_sIa, hX_sRa, hV_sI, hV_sR, hV_sL, hV_sD, hV_sIa, hV_sRa, hX_new, hV_new] at o0 o1 o2 ⊢); omega)
  clear hm1
  unfold fX11_eventOf_b32 at hf
  have er := Option.some.inj hf
  subst er
  exact p_throw0 (cls := "java/lang/IllegalArgumentException") (names := ["java/lang/RuntimeException", "java/lang/Exception"]) X hex (by decide) (by decide) tw_1180 tw_122 th_X11_114a th_X11_114b th_X11_114c th_X11_114d (dcg dc_X11_eventOf 16 rfl) (dcg dc_X11_eventOf 17 rfl) (dcg dc_X11_eventOf 18 rfl) (dcg dc_X11_eventOf 19 rfl) (Nat.le_of_ble_eq_true rfl) (Nat.le_trans (Nat.add_le_add_right (room4 (Nat.le_of_ble_eq_true rfl)) _) (Nat.le_of_ble_eq_true rfl)) (show uc + 1 ≤ MC from (by have o0 := (show MC + X0 = hX h + 1 from hM); have o1 := hu; (try simp only [hX_sI, hX_sR, hX_sL, hX_sD, hX_sIa, hX_sRa, hV_sI, hV_sR, hV_sL, hV_sD, hV_sIa, hV_sRa, hX_new, hV_new] at o0 o1 ⊢); omega)) (show us + 6 ≤ MS from (by have o0 := (show MS + V0 = hV h + 6 from hN); have o1 := hv; (try simp only [hX_sI, hX_sR, hX_sL, hX_sD, hX_sIa, hX_sRa, hV_sI, hV_sR, hV_sL, hV_sD, hV_sIa, hV_sRa, hX_new, hV_new] at o0 o1 ⊢); omega)) (show uc + 1 ≤ MC from (by have o0 := (show MC + X0 = hX h + 1 from hM); have o1 := hu; (try simp only [hX_sI, hX_sR, hX_sL, hX_sD, hX_sIa, hX_sRa, hV_sI, hV_sR, hV_sL, hV_sD, hV_sIa, hV_sRa, hX_new, hV_new] at o0 o1 ⊢); omega)) (show us + 6 ≤ MS from (by have o0 := (show MS + V0 = hV h + 6 from hN); have o1 := hv; (try simp only [hX_sI, hX_sR, hX_sL, hX_sD, hX_sIa, hX_sRa, hV_sI, hV_sR, hV_sL, hV_sD, hV_sIa, hV_sRa, hX_new, hV_new] at o0 o1 ⊢); omega)) (fun n hn => ⟨_, n, rfl, rfl, hn, rfl⟩)
noncomputable def fX11_eventOf_b0 (v0 : Nat) (v1 : Int32) (v2 : Int32) (h : PH) : Option ((Int32 × PH) ⊕ (Nat × PH)) :=
  if (v1 < 0) then (fX11_eventOf_b15  h) else
  gd (hK h v0 = 11) (gs (hR h 11 v0 7) (fun a2 =>
  gd (hK h a2 = 1) (if (v1 < (hI h 1 a2 4)) then (if (v2 < 0) then (fX11_eventOf_b32  h) else
  if (v2 ≤ (2 : Int32)) then (gs (hR h 11 v0 7) (fun a5 =>
  gd (hK h a5 = 1) (bd (fX1_figure a5 v1 v2 h) (fun z8 =>
  some (.inl ((z8, h))))))) else
  fX11_eventOf_b32  h) else
  fX11_eventOf_b15  h)))
set_option maxRecDepth 100000 in
theorem mX11_eventOf_b0 {v0 : Nat} {v1 : Int32} {v2 : Int32} {h : PH} {r : ((Int32 × PH) ⊕ (Nat × PH))} (hf : fX11_eventOf_b0 v0 v1 v2 h = some r) : lez h (xT2 r) (vT2 r) := by
  unfold fX11_eventOf_b0 at hf
  have hle := lez_rf h
  rcases ite_or hf with ⟨q, hf⟩ | ⟨q, hf⟩
  · have hf := if_t q hf
    exact lez_rt (mX11_eventOf_b15 hf) hle
  · have hf := if_f q hf
    obtain ⟨hk1, hf⟩ := gd_some hf
    obtain ⟨a2, e3, hf⟩ := gs_some hf
    obtain ⟨hk4, hf⟩ := gd_some hf
    rcases ite_or hf with ⟨q, hf⟩ | ⟨q, hf⟩
    · have hf := if_t q hf
      rcases ite_or hf with ⟨q, hf⟩ | ⟨q, hf⟩
      · have hf := if_t q hf
        exact lez_rt (mX11_eventOf_b32 hf) hle
      · have hf := if_f q hf
        rcases ite_or hf with ⟨q, hf⟩ | ⟨q, hf⟩
        · have hf := if_t q hf
          obtain ⟨a5, e6, hf⟩ := gs_some hf
          obtain ⟨hk7, hf⟩ := gd_some hf
          obtain ⟨z8, hz8, hf⟩ := bd_some hf
          have ee := Option.some.inj hf; subst ee; exact hle
        · have hf := if_f q hf
          exact lez_rt (mX11_eventOf_b32 hf) hle
    · have hf := if_f q hf
      exact lez_rt (mX11_eventOf_b15 hf) hle
set_option maxRecDepth 100000 in
theorem wX11_eventOf_b0 {E : PE} {p : Program} {l : Launch} {e : Env} {s : State} {m : MethodId} {args : Array Value} {below : List Frame} {meth : Method} {c : Code} {X0 V0 MC MS uc us : Nat} (X : Cx E p l e (rmv 8 MC MS) s m args below meth c RX11 cX11_eventOf 3 (some .int)) (hG : Gs E l) (hex : ∀ x ∈ c.exceptionTable.toList, False) {v0 : Nat} {v1 : Int32} {v2 : Int32} {h : PH} {r : ((Int32 × PH) ⊕ (Nat × PH))} (hM : MC + X0 = (xT2 r)) (hN : MS + V0 = (vT2 r)) (hu : uc + X0 = hX h) (hv : us + V0 = hV h) (hf : fX11_eventOf_b0 v0 v1 v2 h = some r)  : PW E p l e (rmv 8 MC MS) s m args below meth c 3 uc us (vx_MQ below (QG E (fun v u => ∃ z, r = .inl z ∧ v = some (.int z.1) ∧ u = z.2)) (XG E (fun En u => ∃ (z : Nat × PH) (n : Nat), r = .inr z ∧ En = exn z.1 ∧ hX z.2 ≤ n ∧ u = hbump z.2 n)) args s MC MS (pA E)) h 0 [(0, some (.ref v0)), (1, some (.int v1)), (2, some (.int v2))] [] := by
  have hm1 : lez h (xT2 r) (vT2 r) := mX11_eventOf_b0 hf
  have hcm : uc ≤ MC := (by have o0 := hm1.1; have o1 := hM; have o2 := hu; (try simp only [hX_sI, hX_sR, hX_sL, hX_sD, hX_sIa, hX_sRa, hV_sI, hV_sR, hV_sL, hV_sD, hV_sIa, hV_sRa, hX_new, hV_new] at o0 o1 o2 ⊢); omega)
  have hsm : us ≤ MS := (by have o0 := hm1.2; have o1 := hN; have o2 := hv; (try simp only [hX_sI, hX_sR, hX_sL, hX_sD, hX_sIa, hX_sRa, hV_sI, hV_sR, hV_sL, hV_sD, hV_sIa, hV_sRa, hX_new, hV_new] at o0 o1 o2 ⊢); omega)
  clear hm1
  unfold fX11_eventOf_b0 at hf
  refine p_iload_n X (dcg dc_X11_eventOf 0 rfl) rfl rfl ?_
  refine p_if_lt (tgt := 15) X (dcg dc_X11_eventOf 1 rfl) (by decide) (fun q => ?_) (fun q => ?_)
  · have hf := if_t q hf
    refine p_pick [] ?_
    exact wX11_eventOf_b15 X hG hex hM hN hu hv hf 
  · have hf := if_f q hf
    refine p_iload_n X (dcg dc_X11_eventOf 2 rfl) rfl rfl ?_
    refine p_aload_n X (dcg dc_X11_eventOf 3 rfl) rfl rfl ?_
    obtain ⟨hk1, hf⟩ := gd_some hf
    refine p_getR X fl_X11_61 rfl (by decide) (dcg dc_X11_eventOf 4 rfl) hk1 ?_
    obtain ⟨a2, e3, hf⟩ := gs_some hf
    first | subst e3 | (try rw [e3])
    obtain ⟨hk4, hf⟩ := gd_some hf
    refine p_getIn X fl_X11_292 rfl (by decide) (dcg dc_X11_eventOf 5 rfl) hk4 ?_
    refine p_icmp_lt (tgt := 23) X (dcg dc_X11_eventOf 6 rfl) (by decide) (fun q => ?_) (fun q => ?_)
    · have hf := if_t q hf
      refine p_iload_n X (dcg dc_X11_eventOf 11 rfl) rfl rfl ?_
      refine p_if_lt (tgt := 32) X (dcg dc_X11_eventOf 12 rfl) (by decide) (fun q => ?_) (fun q => ?_)
      · have hf := if_t q hf
        refine p_pick [] ?_
        exact wX11_eventOf_b32 X hG hex hM hN hu hv hf 
      · have hf := if_f q hf
        refine p_iload_n X (dcg dc_X11_eventOf 13 rfl) rfl rfl ?_
        refine p_iconst (v := 2) X (dcg dc_X11_eventOf 14 rfl) (by decide) ?_
        refine p_icmp_le (tgt := 40) X (dcg dc_X11_eventOf 15 rfl) (by decide) (fun q => ?_) (fun q => ?_)
        · have hf := if_t q hf
          refine p_aload_n X (dcg dc_X11_eventOf 20 rfl) rfl rfl ?_
          refine p_getR X fl_X11_61 rfl (by decide) (dcg dc_X11_eventOf 21 rfl) hk1 ?_
          refine p_iload_n X (dcg dc_X11_eventOf 22 rfl) rfl rfl ?_
          refine p_iload_n X (dcg dc_X11_eventOf 23 rfl) rfl rfl ?_
          obtain ⟨a5, e6, hf⟩ := gs_some hf
          first | subst e6 | (try rw [e6])
          obtain ⟨hk7, hf⟩ := gd_some hf
          obtain ⟨z8, hz8, hf⟩ := bd_some hf
          refine p_callV (As := [_, _]) X ml_X11_293 (dcg dc_X11_eventOf 24 rfl) rfl rfl hk7 (wX1_figure hG hz8) (by decide) (room4 (Nat.le_of_ble_eq_true rfl)) hcm hsm ?_
          rintro _ u9 ⟨rfl, e9⟩; have e9 := e9.symm; subst e9
          have er := Option.some.inj hf
          subst er
          refine p_vx ?_
          exact p_iret X rfl (dcg dc_X11_eventOf 25 rfl) ⟨_, rfl, rfl, rfl⟩ hcm hsm
        · have hf := if_f q hf
          refine p_pick [] ?_
          exact wX11_eventOf_b32 X hG hex hM hN hu hv hf 
    · have hf := if_f q hf
      refine p_pick [] ?_
      exact wX11_eventOf_b15 X hG hex hM hN hu hv hf 
noncomputable def fX11_eventOf (v0 : Nat) (v1 : Int32) (v2 : Int32) (h : PH) : Option ((Int32 × PH) ⊕ (Nat × PH)) :=
  fX11_eventOf_b0 v0 v1 v2 h
set_option maxRecDepth 100000 in
theorem mX11_eventOf {v0 : Nat} {v1 : Int32} {v2 : Int32} {h : PH} {r : ((Int32 × PH) ⊕ (Nat × PH))} (hf : fX11_eventOf v0 v1 v2 h = some r) : lez h (xT2 r) (vT2 r) := by
  unfold fX11_eventOf at hf
  have hle := lez_rf h
  exact lez_rt (mX11_eventOf_b0 hf) hle
set_option maxRecDepth 100000 in
theorem wX11_eventOf {E : PE} {l : Launch} (hG : Gs E l) {v0 : Nat} {v1 : Int32} {v2 : Int32} {h : PH} {r : ((Int32 × PH) ⊕ (Nat × PH))} (hf : fX11_eventOf v0 v1 v2 h = some r) : CtX E l 8 ((xT2 r) - hX h) ((vT2 r) - hV h) yX11_eventOf cX11_eventOf 3 (some .int) [.ref v0, .int v1, .int v2] h (fun v u => ∃ z, r = .inl z ∧ v = some (.int z.1) ∧ u = z.2) (fun En u => ∃ (z : Nat × PH) (n : Nat), r = .inr z ∧ En = exn z.1 ∧ hX z.2 ≤ n ∧ u = hbump z.2 n) := by
  have hmm := mX11_eventOf hf
  refine ctx_of hG (by decide) (Nat.le_of_ble_eq_true rfl) ?_
  intro p e s m args below meth c X hex
  show PW E p l e _ s m args below meth c _ 0 0 _ h 0 [(0, some (.ref v0)), (1, some (.int v1)), (2, some (.int v2))] []
  unfold fX11_eventOf at hf
  have hM := Nat.sub_add_cancel hmm.1
  have hN := Nat.sub_add_cancel hmm.2
  refine p_pick [0, 1, 2] ?_
  exact wX11_eventOf_b0 X hG hex hM hN (Nat.zero_add _) (Nat.zero_add _) hf
theorem dc_X11_compare : decs cX11_compare [(0, .iload_n 1, 1), (1, .invokestatic 241, 3), (4, .iload_n 2, 1), (5, .invokestatic 241, 3), (8, .aload_n 0, 1), (9, .iload_n 1, 1), (10, .invokevirtual 244, 3), (13, .astore_n 3, 1), (14, .aload_n 0, 1), (15, .iload_n 2, 1), (16, .invokevirtual 244, 3), (19, .astore 4, 2), (21, .aload_n 0, 1), (22, .getfield 75, 3), (25, .invokevirtual 296, 3), (28, .aload_n 0, 1), (29, .getfield 75, 3), (32, .aload_n 3, 1), (33, .invokestatic 263, 3), (36, .invokevirtual 299, 3), (39, .ifCond .eq 18, 3), (42, .aload_n 0, 1), (43, .getfield 75, 3), (46, .aload 4, 2), (48, .invokestatic 263, 3), (51, .invokevirtual 299, 3), (54, .ifCond .ne 11, 3), (57, .new 94, 3), (60, .dup, 1), (61, .invokespecial 96, 3), (64, .athrow, 1), (65, .aload_n 0, 1), (66, .getfield 75, 3), (69, .aload_n 3, 1), (70, .aload 4, 2), (72, .invokevirtual 303, 3), (75, .aload_n 0, 1), (76, .getfield 75, 3), (79, .getfield 307, 3), (82, .ireturn, 1)] = true := by decide +kernel
noncomputable def fX11_compare_b57  (h : PH) : Option ((Int32 × PH) ⊕ (Nat × PH)) :=
  some (.inr (0, h))
set_option maxRecDepth 100000 in
theorem mX11_compare_b57  {h : PH} {r : ((Int32 × PH) ⊕ (Nat × PH))} (hf : fX11_compare_b57  h = some r) : lez h (xT2 r) (vT2 r) := by
  unfold fX11_compare_b57 at hf
  have hle := lez_rf h
  cases hf; exact lez_up hle
set_option maxRecDepth 100000 in
theorem wX11_compare_b57 {E : PE} {p : Program} {l : Launch} {e : Env} {s : State} {m : MethodId} {args : Array Value} {below : List Frame} {meth : Method} {c : Code} {X0 V0 MC MS uc us : Nat} (X : Cx E p l e (rmv 53 MC MS) s m args below meth c RX11 cX11_compare 5 (some .int)) (hG : Gs E l) (hex : ∀ x ∈ c.exceptionTable.toList, False)  {h : PH} {r : ((Int32 × PH) ⊕ (Nat × PH))} (hM : MC + X0 = (xT2 r)) (hN : MS + V0 = (vT2 r)) (hu : uc + X0 = hX h) (hv : us + V0 = hV h) (hf : fX11_compare_b57  h = some r)  : PW E p l e (rmv 53 MC MS) s m args below meth c 5 uc us (vx_MQ below (QG E (fun v u => ∃ z, r = .inl z ∧ v = some (.int z.1) ∧ u = z.2)) (XG E (fun En u => ∃ (z : Nat × PH) (n : Nat), r = .inr z ∧ En = exn z.1 ∧ hX z.2 ≤ n ∧ u = hbump z.2 n)) args s MC MS (pA E)) h 57 [] [] := by
  have hm1 : lez h (xT2 r) (vT2 r) := mX11_compare_b57 hf
  have hcm : uc ≤ MC := (by have o0 := hm1.1; have o1 := hM; have o2 := hu; (try simp only [hX_sI, hX_sR, hX_sL, hX_sD, hX_sIa, hX_sRa, hV_sI, hV_sR, hV_sL, hV_sD, hV_sIa, hV_sRa, hX_new, hV_new] at o0 o1 o2 ⊢); omega)
  have hsm : us ≤ MS := (by have o0 := hm1.2; have o1 := hN; have o2 := hv; (try simp only [hX_sI, hX_sR, hX_sL, hX_sD, hX_sIa, hX_sRa, hV_sI, hV_sR, hV_sL, hV_sD, hV_sIa, hV_sRa, hX_new, hV_new] at o0 o1 o2 ⊢); omega)
  clear hm1
  unfold fX11_compare_b57 at hf
  have er := Option.some.inj hf
  subst er
  exact p_throw0 (cls := "java/lang/IllegalStateException") (names := ["java/lang/RuntimeException", "java/lang/Exception"]) X hex (by decide) (by decide) tw_1121 tw_121 th_X11_96a th_X11_96b th_X11_96c th_X11_96d (dcg dc_X11_compare 27 rfl) (dcg dc_X11_compare 28 rfl) (dcg dc_X11_compare 29 rfl) (dcg dc_X11_compare 30 rfl) (Nat.le_of_ble_eq_true rfl) (Nat.le_trans (Nat.add_le_add_right (room4 (Nat.le_of_ble_eq_true rfl)) _) (Nat.le_of_ble_eq_true rfl)) (show uc + 1 ≤ MC from (by have o0 := (show MC + X0 = hX h + 1 from hM); have o1 := hu; (try simp only [hX_sI, hX_sR, hX_sL, hX_sD, hX_sIa, hX_sRa, hV_sI, hV_sR, hV_sL, hV_sD, hV_sIa, hV_sRa, hX_new, hV_new] at o0 o1 ⊢); omega)) (show us + 6 ≤ MS from (by have o0 := (show MS + V0 = hV h + 6 from hN); have o1 := hv; (try simp only [hX_sI, hX_sR, hX_sL, hX_sD, hX_sIa, hX_sRa, hV_sI, hV_sR, hV_sL, hV_sD, hV_sIa, hV_sRa, hX_new, hV_new] at o0 o1 ⊢); omega)) (show uc + 1 ≤ MC from (by have o0 := (show MC + X0 = hX h + 1 from hM); have o1 := hu; (try simp only [hX_sI, hX_sR, hX_sL, hX_sD, hX_sIa, hX_sRa, hV_sI, hV_sR, hV_sL, hV_sD, hV_sIa, hV_sRa, hX_new, hV_new] at o0 o1 ⊢); omega)) (show us + 6 ≤ MS from (by have o0 := (show MS + V0 = hV h + 6 from hN); have o1 := hv; (try simp only [hX_sI, hX_sR, hX_sL, hX_sD, hX_sIa, hX_sRa, hV_sI, hV_sR, hV_sL, hV_sD, hV_sIa, hV_sRa, hX_new, hV_new] at o0 o1 ⊢); omega)) (fun n hn => ⟨_, n, rfl, rfl, hn, rfl⟩)
noncomputable def fX11_compare_b51 (v0 : Nat) (v3 : Option Nat) (v4 : Option Nat) (t0 : Option Nat) (t1 : Option Nat) (h : PH) : Option ((Int32 × PH) ⊕ (Nat × PH)) :=
  gs t0 (fun a24 =>
  gd (hK h a24 = 0) (bd (fX0_gatherWords a24 t1 h) (fun z27 =>
  if (¬ z27.1 = 0) then (gd (hK z27.2 v0 = 11) (gs (hR z27.2 11 v0 9) (fun a29 =>
  gd (hK z27.2 a29 = 0) (bd (fX0_search a29 v3 v4 z27.2) (fun z32 =>
  gd (hK z32 v0 = 11) (gs (hR z32 11 v0 9) (fun a34 =>
  gd (hK z32 a34 = 0) (some (.inl (((hI z32 0 a34 4), z32))))))))))) else
  fX11_compare_b57  z27.2)))
set_option maxRecDepth 100000 in
theorem mX11_compare_b51 {v0 : Nat} {v3 : Option Nat} {v4 : Option Nat} {t0 : Option Nat} {t1 : Option Nat} {h : PH} {r : ((Int32 × PH) ⊕ (Nat × PH))} (hf : fX11_compare_b51 v0 v3 v4 t0 t1 h = some r) : lez h (xT2 r) (vT2 r) := by
  unfold fX11_compare_b51 at hf
  have hle := lez_rf h
  obtain ⟨a24, e25, hf⟩ := gs_some hf
  obtain ⟨hk26, hf⟩ := gd_some hf
  obtain ⟨z27, hz27, hf⟩ := bd_some hf
  have hle := lez_rt (lez_eq (mX0_gatherWords hz27)) hle
  rcases ite_or hf with ⟨q, hf⟩ | ⟨q, hf⟩
  · have hf := if_t q hf
    obtain ⟨hk28, hf⟩ := gd_some hf
    obtain ⟨a29, e30, hf⟩ := gs_some hf
    obtain ⟨hk31, hf⟩ := gd_some hf
    obtain ⟨z32, hz32, hf⟩ := bd_some hf
    have hle := lez_rt (lez_eq (mX0_search hz32)) hle
    obtain ⟨hk33, hf⟩ := gd_some hf
    obtain ⟨a34, e35, hf⟩ := gs_some hf
    obtain ⟨hk36, hf⟩ := gd_some hf
    have ee := Option.some.inj hf; subst ee; exact hle
  · have hf := if_f q hf
    exact lez_rt (mX11_compare_b57 hf) hle
set_option maxRecDepth 100000 in
theorem wX11_compare_b51 {E : PE} {p : Program} {l : Launch} {e : Env} {s : State} {m : MethodId} {args : Array Value} {below : List Frame} {meth : Method} {c : Code} {X0 V0 MC MS uc us : Nat} (X : Cx E p l e (rmv 53 MC MS) s m args below meth c RX11 cX11_compare 5 (some .int)) (hG : Gs E l) (hex : ∀ x ∈ c.exceptionTable.toList, False) {v0 : Nat} {v3 : Option Nat} {v4 : Option Nat} {t0 : Option Nat} {t1 : Option Nat} {h : PH} {r : ((Int32 × PH) ⊕ (Nat × PH))} (hM : MC + X0 = (xT2 r)) (hN : MS + V0 = (vT2 r)) (hu : uc + X0 = hX h) (hv : us + V0 = hV h) (hf : fX11_compare_b51 v0 v3 v4 t0 t1 h = some r)  : PW E p l e (rmv 53 MC MS) s m args below meth c 5 uc us (vx_MQ below (QG E (fun v u => ∃ z, r = .inl z ∧ v = some (.int z.1) ∧ u = z.2)) (XG E (fun En u => ∃ (z : Nat × PH) (n : Nat), r = .inr z ∧ En = exn z.1 ∧ hX z.2 ≤ n ∧ u = hbump z.2 n)) args s MC MS (pA E)) h 51 [(0, some (.ref v0)), (3, some (va_rf v3)), (4, some (va_rf v4))] [va_rf t1, va_rf t0] := by
  have hm1 : lez h (xT2 r) (vT2 r) := mX11_compare_b51 hf
  have hcm : uc ≤ MC := (by have o0 := hm1.1; have o1 := hM; have o2 := hu; (try simp only [hX_sI, hX_sR, hX_sL, hX_sD, hX_sIa, hX_sRa, hV_sI, hV_sR, hV_sL, hV_sD, hV_sIa, hV_sRa, hX_new, hV_new] at o0 o1 o2 ⊢); omega)
  have hsm : us ≤ MS := (by have o0 := hm1.2; have o1 := hN; have o2 := hv; (try simp only [hX_sI, hX_sR, hX_sL, hX_sD, hX_sIa, hX_sRa, hV_sI, hV_sR, hV_sL, hV_sD, hV_sIa, hV_sRa, hX_new, hV_new] at o0 o1 o2 ⊢); omega)
  clear hm1
  unfold fX11_compare_b51 at hf
  obtain ⟨a24, e25, hf⟩ := gs_some hf
  first | subst e25 | (try rw [e25])
  obtain ⟨hk26, hf⟩ := gd_some hf
  obtain ⟨z27, hz27, hf⟩ := bd_some hf
  refine p_callV (As := [va_rf _]) X ml_X11_299 (dcg dc_X11_compare 25 rfl) rfl rfl hk26 (wX0_gatherWords hG hz27) (by decide) (room4 (Nat.le_of_ble_eq_true rfl)) hcm hsm ?_
  rintro _ u9 ⟨rfl, e9⟩; have e9 := e9.symm; subst e9
  have hu := hu.trans (mX0_gatherWords hz27).1
  have hv := hv.trans (mX0_gatherWords hz27).2
  refine p_if_ne (tgt := 65) X (dcg dc_X11_compare 26 rfl) (by decide) (fun q => ?_) (fun q => ?_)
  · have hf := if_t q hf
    refine p_aload_n X (dcg dc_X11_compare 31 rfl) rfl rfl ?_
    obtain ⟨hk28, hf⟩ := gd_some hf
    refine p_getR X fl_X11_75 rfl (by decide) (dcg dc_X11_compare 32 rfl) hk28 ?_
    refine p_aloadq_n X (dcg dc_X11_compare 33 rfl) rfl rfl ?_
    refine p_aloadq X (dcg dc_X11_compare 34 rfl) rfl ?_
    obtain ⟨a29, e30, hf⟩ := gs_some hf
    first | subst e30 | (try rw [e30])
    obtain ⟨hk31, hf⟩ := gd_some hf
    obtain ⟨z32, hz32, hf⟩ := bd_some hf
    refine p_callV (As := [va_rf _, va_rf _]) X ml_X11_303 (dcg dc_X11_compare 35 rfl) rfl rfl hk31 (wX0_search hG hz32) (by decide) (room4 (Nat.le_of_ble_eq_true rfl)) hcm hsm ?_
    rintro _ u9 ⟨rfl, e9⟩; have e9 := e9.symm; subst e9
    have hu := hu.trans (mX0_search hz32).1
    have hv := hv.trans (mX0_search hz32).2
    refine p_aload_n X (dcg dc_X11_compare 36 rfl) rfl rfl ?_
    obtain ⟨hk33, hf⟩ := gd_some hf
    refine p_getR X fl_X11_75 rfl (by decide) (dcg dc_X11_compare 37 rfl) hk33 ?_
    obtain ⟨a34, e35, hf⟩ := gs_some hf
    first | subst e35 | (try rw [e35])
    obtain ⟨hk36, hf⟩ := gd_some hf
    refine p_getIn X fl_X11_307 rfl (by decide) (dcg dc_X11_compare 38 rfl) hk36 ?_
    have er := Option.some.inj hf
    subst er
    refine p_vx ?_
    exact p_iret X rfl (dcg dc_X11_compare 39 rfl) ⟨_, rfl, rfl, rfl⟩ hcm hsm
  · have hf := if_f q hf
    refine p_pick [] ?_
    exact wX11_compare_b57 X hG hex hM hN hu hv hf 
noncomputable def fX11_compare_b36 (v0 : Nat) (v3 : Option Nat) (v4 : Option Nat) (t0 : Option Nat) (t1 : Option Nat) (h : PH) : Option ((Int32 × PH) ⊕ (Nat × PH)) :=
  gs t0 (fun a18 =>
  gd (hK h a18 = 0) (bd (fX0_gatherWords a18 t1 h) (fun z21 =>
  if (z21.1 = 0) then (fX11_compare_b57  z21.2) else
  gd (hK z21.2 v0 = 11) (bd (fX11_simplePartsOf v4 z21.2) (fun z23 =>
  fX11_compare_b51 v0 v3 v4 (hR z21.2 11 v0 9) z23.1 z23.2)))))
set_option maxRecDepth 100000 in
theorem mX11_compare_b36 {v0 : Nat} {v3 : Option Nat} {v4 : Option Nat} {t0 : Option Nat} {t1 : Option Nat} {h : PH} {r : ((Int32 × PH) ⊕ (Nat × PH))} (hf : fX11_compare_b36 v0 v3 v4 t0 t1 h = some r) : lez h (xT2 r) (vT2 r) := by
  unfold fX11_compare_b36 at hf
  have hle := lez_rf h
  obtain ⟨a18, e19, hf⟩ := gs_some hf
  obtain ⟨hk20, hf⟩ := gd_some hf
  obtain ⟨z21, hz21, hf⟩ := bd_some hf
  have hle := lez_rt (lez_eq (mX0_gatherWords hz21)) hle
  rcases ite_or hf with ⟨q, hf⟩ | ⟨q, hf⟩
  · have hf := if_t q hf
    exact lez_rt (mX11_compare_b57 hf) hle
  · have hf := if_f q hf
    obtain ⟨hk22, hf⟩ := gd_some hf
    obtain ⟨z23, hz23, hf⟩ := bd_some hf
    have hle := lez_rt (mX11_simplePartsOf hz23) hle
    exact lez_rt (mX11_compare_b51 hf) hle
set_option maxRecDepth 100000 in
theorem wX11_compare_b36 {E : PE} {p : Program} {l : Launch} {e : Env} {s : State} {m : MethodId} {args : Array Value} {below : List Frame} {meth : Method} {c : Code} {X0 V0 MC MS uc us : Nat} (X : Cx E p l e (rmv 53 MC MS) s m args below meth c RX11 cX11_compare 5 (some .int)) (hG : Gs E l) (hex : ∀ x ∈ c.exceptionTable.toList, False) {v0 : Nat} {v3 : Option Nat} {v4 : Option Nat} {t0 : Option Nat} {t1 : Option Nat} {h : PH} {r : ((Int32 × PH) ⊕ (Nat × PH))} (hM : MC + X0 = (xT2 r)) (hN : MS + V0 = (vT2 r)) (hu : uc + X0 = hX h) (hv : us + V0 = hV h) (hf : fX11_compare_b36 v0 v3 v4 t0 t1 h = some r)  : PW E p l e (rmv 53 MC MS) s m args below meth c 5 uc us (vx_MQ below (QG E (fun v u => ∃ z, r = .inl z ∧ v = some (.int z.1) ∧ u = z.2)) (XG E (fun En u => ∃ (z : Nat × PH) (n : Nat), r = .inr z ∧ En = exn z.1 ∧ hX z.2 ≤ n ∧ u = hbump z.2 n)) args s MC MS (pA E)) h 36 [(0, some (.ref v0)), (3, some (va_rf v3)), (4, some (va_rf v4))] [va_rf t1, va_rf t0] := by
  have hm1 : lez h (xT2 r) (vT2 r) := mX11_compare_b36 hf
  have hcm : uc ≤ MC := (by have o0 := hm1.1; have o1 := hM; have o2 := hu; (try simp only [hX_sI, hX_sR, hX_sL, hX_sD, hX_sIa, hX_sRa, hV_sI, hV_sR, hV_sL, hV_sD, hV_sIa, hV_sRa, hX_new, hV_new] at o0 o1 o2 ⊢); omega)
  have hsm : us ≤ MS := (by have o0 := hm1.2; have o1 := hN; have o2 := hv; (try simp only [hX_sI, hX_sR, hX_sL, hX_sD, hX_sIa, hX_sRa, hV_sI, hV_sR, hV_sL, hV_sD, hV_sIa, hV_sRa, hX_new, hV_new] at o0 o1 o2 ⊢); omega)
  clear hm1
  unfold fX11_compare_b36 at hf
  obtain ⟨a18, e19, hf⟩ := gs_some hf
  first | subst e19 | (try rw [e19])
  obtain ⟨hk20, hf⟩ := gd_some hf
  obtain ⟨z21, hz21, hf⟩ := bd_some hf
  refine p_callV (As := [va_rf _]) X ml_X11_299 (dcg dc_X11_compare 19 rfl) rfl rfl hk20 (wX0_gatherWords hG hz21) (by decide) (room4 (Nat.le_of_ble_eq_true rfl)) hcm hsm ?_
  rintro _ u9 ⟨rfl, e9⟩; have e9 := e9.symm; subst e9
  have hu := hu.trans (mX0_gatherWords hz21).1
  have hv := hv.trans (mX0_gatherWords hz21).2
  refine p_if_eq (tgt := 57) X (dcg dc_X11_compare 20 rfl) (by decide) (fun q => ?_) (fun q => ?_)
  · have hf := if_t q hf
    refine p_pick [] ?_
    exact wX11_compare_b57 X hG hex hM hN hu hv hf 
  · have hf := if_f q hf
    refine p_aload_n X (dcg dc_X11_compare 21 rfl) rfl rfl ?_
    obtain ⟨hk22, hf⟩ := gd_some hf
    refine p_getR X fl_X11_75 rfl (by decide) (dcg dc_X11_compare 22 rfl) hk22 ?_
    refine p_aloadq X (dcg dc_X11_compare 23 rfl) rfl ?_
    obtain ⟨z23, hz23, hf⟩ := bd_some hf
    have hc1 := mX11_simplePartsOf hz23
    have hm1 : lez _ (xT2 r) (vT2 r) := mX11_compare_b51 hf
    refine p_callS (As := [va_rf _]) X ml_X11_263 (dcg dc_X11_compare 24 rfl) rfl rfl  (wX11_simplePartsOf hG hz23) (by decide) (room4 (Nat.le_of_ble_eq_true rfl)) (by have o0 := hm1.1; have o1 := hc1.1; have o2 := hM; have o3 := hu; (try simp only [hX_sI, hX_sR, hX_sL, hX_sD, hX_sIa, hX_sRa, hV_sI, hV_sR, hV_sL, hV_sD, hV_sIa, hV_sRa, hX_new, hV_new] at o0 o1 o2 o3 ⊢); omega) (by have o0 := hm1.2; have o1 := hc1.2; have o2 := hN; have o3 := hv; (try simp only [hX_sI, hX_sR, hX_sL, hX_sD, hX_sIa, hX_sRa, hV_sI, hV_sR, hV_sL, hV_sD, hV_sIa, hV_sRa, hX_new, hV_new] at o0 o1 o2 o3 ⊢); omega) ?_
    rintro _ u9 ⟨rfl, e9⟩; have e9 := e9.symm; subst e9
    refine p_pick [0, 3, 4] ?_
    exact wX11_compare_b51 X hG hex hM hN (by have o0 := hc1.1; have o1 := hu; (try simp only [hX_sI, hX_sR, hX_sL, hX_sD, hX_sIa, hX_sRa, hV_sI, hV_sR, hV_sL, hV_sD, hV_sIa, hV_sRa, hX_new, hV_new] at o0 o1 ⊢); omega) (by have o0 := hc1.2; have o1 := hv; (try simp only [hX_sI, hX_sR, hX_sL, hX_sD, hX_sIa, hX_sRa, hV_sI, hV_sR, hV_sL, hV_sD, hV_sIa, hV_sRa, hX_new, hV_new] at o0 o1 ⊢); omega) hf 
noncomputable def fX11_compare_b19 (v0 : Nat) (v3 : Option Nat) (t0 : Option Nat) (h : PH) : Option ((Int32 × PH) ⊕ (Nat × PH)) :=
  gd (hK h v0 = 11) (gs (hR h 11 v0 9) (fun a12 =>
  gd (hK h a12 = 0) (bd (fX0_forgetWords a12 h) (fun z15 =>
  gd (hK z15 v0 = 11) (bd (fX11_simplePartsOf v3 z15) (fun z17 =>
  fX11_compare_b36 v0 v3 t0 (hR z15 11 v0 9) z17.1 z17.2))))))
set_option maxRecDepth 100000 in
theorem mX11_compare_b19 {v0 : Nat} {v3 : Option Nat} {t0 : Option Nat} {h : PH} {r : ((Int32 × PH) ⊕ (Nat × PH))} (hf : fX11_compare_b19 v0 v3 t0 h = some r) : lez h (xT2 r) (vT2 r) := by
  unfold fX11_compare_b19 at hf
  have hle := lez_rf h
  obtain ⟨hk11, hf⟩ := gd_some hf
  obtain ⟨a12, e13, hf⟩ := gs_some hf
  obtain ⟨hk14, hf⟩ := gd_some hf
  obtain ⟨z15, hz15, hf⟩ := bd_some hf
  have hle := lez_rt (lez_eq (mX0_forgetWords hz15)) hle
  obtain ⟨hk16, hf⟩ := gd_some hf
  obtain ⟨z17, hz17, hf⟩ := bd_some hf
  have hle := lez_rt (mX11_simplePartsOf hz17) hle
  exact lez_rt (mX11_compare_b36 hf) hle
set_option maxRecDepth 100000 in
theorem wX11_compare_b19 {E : PE} {p : Program} {l : Launch} {e : Env} {s : State} {m : MethodId} {args : Array Value} {below : List Frame} {meth : Method} {c : Code} {X0 V0 MC MS uc us : Nat} (X : Cx E p l e (rmv 53 MC MS) s m args below meth c RX11 cX11_compare 5 (some .int)) (hG : Gs E l) (hex : ∀ x ∈ c.exceptionTable.toList, False) {v0 : Nat} {v3 : Option Nat} {t0 : Option Nat} {h : PH} {r : ((Int32 × PH) ⊕ (Nat × PH))} (hM : MC + X0 = (xT2 r)) (hN : MS + V0 = (vT2 r)) (hu : uc + X0 = hX h) (hv : us + V0 = hV h) (hf : fX11_compare_b19 v0 v3 t0 h = some r)  : PW E p l e (rmv 53 MC MS) s m args below meth c 5 uc us (vx_MQ below (QG E (fun v u => ∃ z, r = .inl z ∧ v = some (.int z.1) ∧ u = z.2)) (XG E (fun En u => ∃ (z : Nat × PH) (n : Nat), r = .inr z ∧ En = exn z.1 ∧ hX z.2 ≤ n ∧ u = hbump z.2 n)) args s MC MS (pA E)) h 19 [(0, some (.ref v0)), (3, some (va_rf v3))] [va_rf t0] := by
  have hm1 : lez h (xT2 r) (vT2 r) := mX11_compare_b19 hf
  have hcm : uc ≤ MC := (by have o0 := hm1.1; have o1 := hM; have o2 := hu; (try simp only [hX_sI, hX_sR, hX_sL, hX_sD, hX_sIa, hX_sRa, hV_sI, hV_sR, hV_sL, hV_sD, hV_sIa, hV_sRa, hX_new, hV_new] at o0 o1 o2 ⊢); omega)
  have hsm : us ≤ MS := (by have o0 := hm1.2; have o1 := hN; have o2 := hv; (try simp only [hX_sI, hX_sR, hX_sL, hX_sD, hX_sIa, hX_sRa, hV_sI, hV_sR, hV_sL, hV_sD, hV_sIa, hV_sRa, hX_new, hV_new] at o0 o1 o2 ⊢); omega)
  clear hm1
  unfold fX11_compare_b19 at hf
  refine p_astoreq X (dcg dc_X11_compare 11 rfl) (by decide) (nwq (k := 3) rfl) ?_
  refine p_aload_n X (dcg dc_X11_compare 12 rfl) rfl rfl ?_
  obtain ⟨hk11, hf⟩ := gd_some hf
  refine p_getR X fl_X11_75 rfl (by decide) (dcg dc_X11_compare 13 rfl) hk11 ?_
  obtain ⟨a12, e13, hf⟩ := gs_some hf
  first | subst e13 | (try rw [e13])
  obtain ⟨hk14, hf⟩ := gd_some hf
  obtain ⟨z15, hz15, hf⟩ := bd_some hf
  refine p_callV (As := []) X ml_X11_296 (dcg dc_X11_compare 14 rfl) rfl rfl hk14 (wX0_forgetWords hG hz15) (by decide) (room4 (Nat.le_of_ble_eq_true rfl)) hcm hsm ?_
  rintro _ u9 ⟨rfl, e9⟩; have e9 := e9.symm; subst e9
  have hu := hu.trans (mX0_forgetWords hz15).1
  have hv := hv.trans (mX0_forgetWords hz15).2
  refine p_aload_n X (dcg dc_X11_compare 15 rfl) rfl rfl ?_
  obtain ⟨hk16, hf⟩ := gd_some hf
  refine p_getR X fl_X11_75 rfl (by decide) (dcg dc_X11_compare 16 rfl) hk16 ?_
  refine p_aloadq_n X (dcg dc_X11_compare 17 rfl) rfl rfl ?_
  obtain ⟨z17, hz17, hf⟩ := bd_some hf
  have hc1 := mX11_simplePartsOf hz17
  have hm1 : lez _ (xT2 r) (vT2 r) := mX11_compare_b36 hf
  refine p_callS (As := [va_rf _]) X ml_X11_263 (dcg dc_X11_compare 18 rfl) rfl rfl  (wX11_simplePartsOf hG hz17) (by decide) (room4 (Nat.le_of_ble_eq_true rfl)) (by have o0 := hm1.1; have o1 := hc1.1; have o2 := hM; have o3 := hu; (try simp only [hX_sI, hX_sR, hX_sL, hX_sD, hX_sIa, hX_sRa, hV_sI, hV_sR, hV_sL, hV_sD, hV_sIa, hV_sRa, hX_new, hV_new] at o0 o1 o2 o3 ⊢); omega) (by have o0 := hm1.2; have o1 := hc1.2; have o2 := hN; have o3 := hv; (try simp only [hX_sI, hX_sR, hX_sL, hX_sD, hX_sIa, hX_sRa, hV_sI, hV_sR, hV_sL, hV_sD, hV_sIa, hV_sRa, hX_new, hV_new] at o0 o1 o2 o3 ⊢); omega) ?_
  rintro _ u9 ⟨rfl, e9⟩; have e9 := e9.symm; subst e9
  refine p_pick [0, 3, 4] ?_
  exact wX11_compare_b36 X hG hex hM hN (by have o0 := hc1.1; have o1 := hu; (try simp only [hX_sI, hX_sR, hX_sL, hX_sD, hX_sIa, hX_sRa, hV_sI, hV_sR, hV_sL, hV_sD, hV_sIa, hV_sRa, hX_new, hV_new] at o0 o1 ⊢); omega) (by have o0 := hc1.2; have o1 := hv; (try simp only [hX_sI, hX_sR, hX_sL, hX_sD, hX_sIa, hX_sRa, hV_sI, hV_sR, hV_sL, hV_sD, hV_sIa, hV_sRa, hX_new, hV_new] at o0 o1 ⊢); omega) hf 
noncomputable def fX11_compare_b13 (v0 : Nat) (v2 : Int32) (t0 : Option Nat) (h : PH) : Option ((Int32 × PH) ⊕ (Nat × PH)) :=
  gd (hK h v0 = 11) (bx (fX11_demandKept v0 v2 h) (fun z9 =>
  fX11_compare_b19 v0 t0 z9.1 z9.2))
set_option maxRecDepth 100000 in
theorem mX11_compare_b13 {v0 : Nat} {v2 : Int32} {t0 : Option Nat} {h : PH} {r : ((Int32 × PH) ⊕ (Nat × PH))} (hf : fX11_compare_b13 v0 v2 t0 h = some r) : lez h (xT2 r) (vT2 r) := by
  unfold fX11_compare_b13 at hf
  have hle := lez_rf h
  obtain ⟨hk8, hf⟩ := gd_some hf
  obtain ⟨y10, hy10, h1y10, h2y10⟩ := bx_some hf
  have hc1 := mX11_demandKept hy10
  rcases y10 with z9 | z9
  · have hf := h1y10 z9 rfl
    have hle : lez h (hX z9.2) (hV z9.2) := lez_rt hc1 hle
    exact lez_rt (mX11_compare_b19 hf) hle
  · have hr9 := h2y10 z9 rfl
    subst hr9
    exact lez_rt hc1 hle
set_option maxRecDepth 100000 in
theorem wX11_compare_b13 {E : PE} {p : Program} {l : Launch} {e : Env} {s : State} {m : MethodId} {args : Array Value} {below : List Frame} {meth : Method} {c : Code} {X0 V0 MC MS uc us : Nat} (X : Cx E p l e (rmv 53 MC MS) s m args below meth c RX11 cX11_compare 5 (some .int)) (hG : Gs E l) (hex : ∀ x ∈ c.exceptionTable.toList, False) {v0 : Nat} {v2 : Int32} {t0 : Option Nat} {h : PH} {r : ((Int32 × PH) ⊕ (Nat × PH))} (hM : MC + X0 = (xT2 r)) (hN : MS + V0 = (vT2 r)) (hu : uc + X0 = hX h) (hv : us + V0 = hV h) (hf : fX11_compare_b13 v0 v2 t0 h = some r)  : PW E p l e (rmv 53 MC MS) s m args below meth c 5 uc us (vx_MQ below (QG E (fun v u => ∃ z, r = .inl z ∧ v = some (.int z.1) ∧ u = z.2)) (XG E (fun En u => ∃ (z : Nat × PH) (n : Nat), r = .inr z ∧ En = exn z.1 ∧ hX z.2 ≤ n ∧ u = hbump z.2 n)) args s MC MS (pA E)) h 13 [(0, some (.ref v0)), (2, some (.int v2))] [va_rf t0] := by
  have hm1 : lez h (xT2 r) (vT2 r) := mX11_compare_b13 hf
  have hcm : uc ≤ MC := (by have o0 := hm1.1; have o1 := hM; have o2 := hu; (try simp only [hX_sI, hX_sR, hX_sL, hX_sD, hX_sIa, hX_sRa, hV_sI, hV_sR, hV_sL, hV_sD, hV_sIa, hV_sRa, hX_new, hV_new] at o0 o1 o2 ⊢); omega)
  have hsm : us ≤ MS := (by have o0 := hm1.2; have o1 := hN; have o2 := hv; (try simp only [hX_sI, hX_sR, hX_sL, hX_sD, hX_sIa, hX_sRa, hV_sI, hV_sR, hV_sL, hV_sD, hV_sIa, hV_sRa, hX_new, hV_new] at o0 o1 o2 ⊢); omega)
  clear hm1
  unfold fX11_compare_b13 at hf
  refine p_astoreq_n X (dcg dc_X11_compare 7 rfl) rfl (by decide) rfl ?_
  refine p_aload_n X (dcg dc_X11_compare 8 rfl) rfl rfl ?_
  refine p_iload_n X (dcg dc_X11_compare 9 rfl) rfl rfl ?_
  obtain ⟨hk8, hf⟩ := gd_some hf
  obtain ⟨y10, hy10, h1y10, h2y10⟩ := bx_some hf
  have hc1 := mX11_demandKept hy10
  rcases y10 with z9 | z9
  · have hf := h1y10 z9 rfl
    have hm1 : lez _ (xT2 r) (vT2 r) := mX11_compare_b19 hf
    refine p_callVX (As := [_]) X hex ml_X11_244 (dcg dc_X11_compare 10 rfl) rfl rfl hk8 (wX11_demandKept hG hy10) (by decide) (room4 (Nat.le_of_ble_eq_true rfl)) (show uc + (hX z9.2 - hX h) ≤ MC from (by have o0 := hm1.1; have o1 := (show lez h (hX z9.2) (hV z9.2) from hc1).1; have o2 := hM; have o3 := hu; (try simp only [hX_sI, hX_sR, hX_sL, hX_sD, hX_sIa, hX_sRa, hV_sI, hV_sR, hV_sL, hV_sD, hV_sIa, hV_sRa, hX_new, hV_new] at o0 o1 o2 o3 ⊢); omega)) (show us + (hV z9.2 - hV h) ≤ MS from (by have o0 := hm1.2; have o1 := (show lez h (hX z9.2) (hV z9.2) from hc1).2; have o2 := hN; have o3 := hv; (try simp only [hX_sI, hX_sR, hX_sL, hX_sD, hX_sIa, hX_sRa, hV_sI, hV_sR, hV_sL, hV_sD, hV_sIa, hV_sRa, hX_new, hV_new] at o0 o1 o2 o3 ⊢); omega)) (show uc + (hX z9.2 - hX h) ≤ MC from (by have o0 := hm1.1; have o1 := (show lez h (hX z9.2) (hV z9.2) from hc1).1; have o2 := hM; have o3 := hu; (try simp only [hX_sI, hX_sR, hX_sL, hX_sD, hX_sIa, hX_sRa, hV_sI, hV_sR, hV_sL, hV_sD, hV_sIa, hV_sRa, hX_new, hV_new] at o0 o1 o2 o3 ⊢); omega)) (show us + (hV z9.2 - hV h) ≤ MS from (by have o0 := hm1.2; have o1 := (show lez h (hX z9.2) (hV z9.2) from hc1).2; have o2 := hN; have o3 := hv; (try simp only [hX_sI, hX_sR, hX_sL, hX_sD, hX_sIa, hX_sRa, hV_sI, hV_sR, hV_sL, hV_sD, hV_sIa, hV_sRa, hX_new, hV_new] at o0 o1 o2 o3 ⊢); omega)) (fun En u q => by obtain ⟨z9, n9, q9, _⟩ := q; cases q9) ?_
    rintro _ _ ⟨z9, hz9, rfl, rfl⟩
    cases hz9
    refine p_pick [0, 3] ?_
    exact wX11_compare_b19 X hG hex hM hN (show uc + (hX z9.2 - hX h) + X0 = hX z9.2 from (by have o0 := (show lez h (hX z9.2) (hV z9.2) from hc1).1; have o1 := hu; (try simp only [hX_sI, hX_sR, hX_sL, hX_sD, hX_sIa, hX_sRa, hV_sI, hV_sR, hV_sL, hV_sD, hV_sIa, hV_sRa, hX_new, hV_new] at o0 o1 ⊢); omega)) (show us + (hV z9.2 - hV h) + V0 = hV z9.2 from (by have o0 := (show lez h (hX z9.2) (hV z9.2) from hc1).2; have o1 := hv; (try simp only [hX_sI, hX_sR, hX_sL, hX_sD, hX_sIa, hX_sRa, hV_sI, hV_sR, hV_sL, hV_sD, hV_sIa, hV_sRa, hX_new, hV_new] at o0 o1 ⊢); omega)) hf 
  · have hr9 := h2y10 z9 rfl
    subst hr9
    refine p_callVX (As := [_]) X hex ml_X11_244 (dcg dc_X11_compare 10 rfl) rfl rfl hk8 (wX11_demandKept hG hy10) (by decide) (room4 (Nat.le_of_ble_eq_true rfl)) (show uc + (hX z9.2 + 1 - hX h) ≤ MC from (by have o0 := (show lez h (hX z9.2 + 1) (hV z9.2 + 6) from hc1).1; have o1 := (show MC + X0 = hX z9.2 + 1 from hM); have o2 := hu; (try simp only [hX_sI, hX_sR, hX_sL, hX_sD, hX_sIa, hX_sRa, hV_sI, hV_sR, hV_sL, hV_sD, hV_sIa, hV_sRa, hX_new, hV_new] at o0 o1 o2 ⊢); omega)) (show us + (hV z9.2 + 6 - hV h) ≤ MS from (by have o0 := (show lez h (hX z9.2 + 1) (hV z9.2 + 6) from hc1).2; have o1 := (show MS + V0 = hV z9.2 + 6 from hN); have o2 := hv; (try simp only [hX_sI, hX_sR, hX_sL, hX_sD, hX_sIa, hX_sRa, hV_sI, hV_sR, hV_sL, hV_sD, hV_sIa, hV_sRa, hX_new, hV_new] at o0 o1 o2 ⊢); omega)) (show uc + (hX z9.2 + 1 - hX h) ≤ MC from (by have o0 := (show lez h (hX z9.2 + 1) (hV z9.2 + 6) from hc1).1; have o1 := (show MC + X0 = hX z9.2 + 1 from hM); have o2 := hu; (try simp only [hX_sI, hX_sR, hX_sL, hX_sD, hX_sIa, hX_sRa, hV_sI, hV_sR, hV_sL, hV_sD, hV_sIa, hV_sRa, hX_new, hV_new] at o0 o1 o2 ⊢); omega)) (show us + (hV z9.2 + 6 - hV h) ≤ MS from (by have o0 := (show lez h (hX z9.2 + 1) (hV z9.2 + 6) from hc1).2; have o1 := (show MS + V0 = hV z9.2 + 6 from hN); have o2 := hv; (try simp only [hX_sI, hX_sR, hX_sL, hX_sD, hX_sIa, hX_sRa, hV_sI, hV_sR, hV_sL, hV_sD, hV_sIa, hV_sRa, hX_new, hV_new] at o0 o1 o2 ⊢); omega)) (fun En u q => by obtain ⟨z9, n9, q9, q8⟩ := q; cases q9; exact ⟨_, n9, rfl, q8⟩) ?_
    rintro _ _ ⟨z9, hz9, _⟩
    cases hz9
noncomputable def fX11_compare_b8 (v0 : Nat) (v1 : Int32) (v2 : Int32) (h : PH) : Option ((Int32 × PH) ⊕ (Nat × PH)) :=
  gd (hK h v0 = 11) (bx (fX11_demandKept v0 v1 h) (fun z6 =>
  fX11_compare_b13 v0 v2 z6.1 z6.2))
set_option maxRecDepth 100000 in
theorem mX11_compare_b8 {v0 : Nat} {v1 : Int32} {v2 : Int32} {h : PH} {r : ((Int32 × PH) ⊕ (Nat × PH))} (hf : fX11_compare_b8 v0 v1 v2 h = some r) : lez h (xT2 r) (vT2 r) := by
  unfold fX11_compare_b8 at hf
  have hle := lez_rf h
  obtain ⟨hk5, hf⟩ := gd_some hf
  obtain ⟨y7, hy7, h1y7, h2y7⟩ := bx_some hf
  have hc1 := mX11_demandKept hy7
  rcases y7 with z6 | z6
  · have hf := h1y7 z6 rfl
    have hle : lez h (hX z6.2) (hV z6.2) := lez_rt hc1 hle
    exact lez_rt (mX11_compare_b13 hf) hle
  · have hr9 := h2y7 z6 rfl
    subst hr9
    exact lez_rt hc1 hle
set_option maxRecDepth 100000 in
theorem wX11_compare_b8 {E : PE} {p : Program} {l : Launch} {e : Env} {s : State} {m : MethodId} {args : Array Value} {below : List Frame} {meth : Method} {c : Code} {X0 V0 MC MS uc us : Nat} (X : Cx E p l e (rmv 53 MC MS) s m args below meth c RX11 cX11_compare 5 (some .int)) (hG : Gs E l) (hex : ∀ x ∈ c.exceptionTable.toList, False) {v0 : Nat} {v1 : Int32} {v2 : Int32} {h : PH} {r : ((Int32 × PH) ⊕ (Nat × PH))} (hM : MC + X0 = (xT2 r)) (hN : MS + V0 = (vT2 r)) (hu : uc + X0 = hX h) (hv : us + V0 = hV h) (hf : fX11_compare_b8 v0 v1 v2 h = some r)  : PW E p l e (rmv 53 MC MS) s m args below meth c 5 uc us (vx_MQ below (QG E (fun v u => ∃ z, r = .inl z ∧ v = some (.int z.1) ∧ u = z.2)) (XG E (fun En u => ∃ (z : Nat × PH) (n : Nat), r = .inr z ∧ En = exn z.1 ∧ hX z.2 ≤ n ∧ u = hbump z.2 n)) args s MC MS (pA E)) h 8 [(0, some (.ref v0)), (1, some (.int v1)), (2, some (.int v2))] [] := by
  have hm1 : lez h (xT2 r) (vT2 r) := mX11_compare_b8 hf
  have hcm : uc ≤ MC := (by have o0 := hm1.1; have o1 := hM; have o2 := hu; (try simp only [hX_sI, hX_sR, hX_sL, hX_sD, hX_sIa, hX_sRa, hV_sI, hV_sR, hV_sL, hV_sD, hV_sIa, hV_sRa, hX_new, hV_new] at o0 o1 o2 ⊢); omega)
  have hsm : us ≤ MS := (by have o0 := hm1.2; have o1 := hN; have o2 := hv; (try simp only [hX_sI, hX_sR, hX_sL, hX_sD, hX_sIa, hX_sRa, hV_sI, hV_sR, hV_sL, hV_sD, hV_sIa, hV_sRa, hX_new, hV_new] at o0 o1 o2 ⊢); omega)
  clear hm1
  unfold fX11_compare_b8 at hf
  refine p_aload_n X (dcg dc_X11_compare 4 rfl) rfl rfl ?_
  refine p_iload_n X (dcg dc_X11_compare 5 rfl) rfl rfl ?_
  obtain ⟨hk5, hf⟩ := gd_some hf
  obtain ⟨y7, hy7, h1y7, h2y7⟩ := bx_some hf
  have hc1 := mX11_demandKept hy7
  rcases y7 with z6 | z6
  · have hf := h1y7 z6 rfl
    have hm1 : lez _ (xT2 r) (vT2 r) := mX11_compare_b13 hf
    refine p_callVX (As := [_]) X hex ml_X11_244 (dcg dc_X11_compare 6 rfl) rfl rfl hk5 (wX11_demandKept hG hy7) (by decide) (room4 (Nat.le_of_ble_eq_true rfl)) (show uc + (hX z6.2 - hX h) ≤ MC from (by have o0 := hm1.1; have o1 := (show lez h (hX z6.2) (hV z6.2) from hc1).1; have o2 := hM; have o3 := hu; (try simp only [hX_sI, hX_sR, hX_sL, hX_sD, hX_sIa, hX_sRa, hV_sI, hV_sR, hV_sL, hV_sD, hV_sIa, hV_sRa, hX_new, hV_new] at o0 o1 o2 o3 ⊢); omega)) (show us + (hV z6.2 - hV h) ≤ MS from (by have o0 := hm1.2; have o1 := (show lez h (hX z6.2) (hV z6.2) from hc1).2; have o2 := hN; have o3 := hv; (try simp only [hX_sI, hX_sR, hX_sL, hX_sD, hX_sIa, hX_sRa, hV_sI, hV_sR, hV_sL, hV_sD, hV_sIa, hV_sRa, hX_new, hV_new] at o0 o1 o2 o3 ⊢); omega)) (show uc + (hX z6.2 - hX h) ≤ MC from (by have o0 := hm1.1; have o1 := (show lez h (hX z6.2) (hV z6.2) from hc1).1; have o2 := hM; have o3 := hu; (try simp only [hX_sI, hX_sR, hX_sL, hX_sD, hX_sIa, hX_sRa, hV_sI, hV_sR, hV_sL, hV_sD, hV_sIa, hV_sRa, hX_new, hV_new] at o0 o1 o2 o3 ⊢); omega)) (show us + (hV z6.2 - hV h) ≤ MS from (by have o0 := hm1.2; have o1 := (show lez h (hX z6.2) (hV z6.2) from hc1).2; have o2 := hN; have o3 := hv; (try simp only [hX_sI, hX_sR, hX_sL, hX_sD, hX_sIa, hX_sRa, hV_sI, hV_sR, hV_sL, hV_sD, hV_sIa, hV_sRa, hX_new, hV_new] at o0 o1 o2 o3 ⊢); omega)) (fun En u q => by obtain ⟨z9, n9, q9, _⟩ := q; cases q9) ?_
    rintro _ _ ⟨z9, hz9, rfl, rfl⟩
    cases hz9
    refine p_pick [0, 2] ?_
    exact wX11_compare_b13 X hG hex hM hN (show uc + (hX z6.2 - hX h) + X0 = hX z6.2 from (by have o0 := (show lez h (hX z6.2) (hV z6.2) from hc1).1; have o1 := hu; (try simp only [hX_sI, hX_sR, hX_sL, hX_sD, hX_sIa, hX_sRa, hV_sI, hV_sR, hV_sL, hV_sD, hV_sIa, hV_sRa, hX_new, hV_new] at o0 o1 ⊢); omega)) (show us + (hV z6.2 - hV h) + V0 = hV z6.2 from (by have o0 := (show lez h (hX z6.2) (hV z6.2) from hc1).2; have o1 := hv; (try simp only [hX_sI, hX_sR, hX_sL, hX_sD, hX_sIa, hX_sRa, hV_sI, hV_sR, hV_sL, hV_sD, hV_sIa, hV_sRa, hX_new, hV_new] at o0 o1 ⊢); omega)) hf 
  · have hr9 := h2y7 z6 rfl
    subst hr9
    refine p_callVX (As := [_]) X hex ml_X11_244 (dcg dc_X11_compare 6 rfl) rfl rfl hk5 (wX11_demandKept hG hy7) (by decide) (room4 (Nat.le_of_ble_eq_true rfl)) (show uc + (hX z6.2 + 1 - hX h) ≤ MC from (by have o0 := (show lez h (hX z6.2 + 1) (hV z6.2 + 6) from hc1).1; have o1 := (show MC + X0 = hX z6.2 + 1 from hM); have o2 := hu; (try simp only [hX_sI, hX_sR, hX_sL, hX_sD, hX_sIa, hX_sRa, hV_sI, hV_sR, hV_sL, hV_sD, hV_sIa, hV_sRa, hX_new, hV_new] at o0 o1 o2 ⊢); omega)) (show us + (hV z6.2 + 6 - hV h) ≤ MS from (by have o0 := (show lez h (hX z6.2 + 1) (hV z6.2 + 6) from hc1).2; have o1 := (show MS + V0 = hV z6.2 + 6 from hN); have o2 := hv; (try simp only [hX_sI, hX_sR, hX_sL, hX_sD, hX_sIa, hX_sRa, hV_sI, hV_sR, hV_sL, hV_sD, hV_sIa, hV_sRa, hX_new, hV_new] at o0 o1 o2 ⊢); omega)) (show uc + (hX z6.2 + 1 - hX h) ≤ MC from (by have o0 := (show lez h (hX z6.2 + 1) (hV z6.2 + 6) from hc1).1; have o1 := (show MC + X0 = hX z6.2 + 1 from hM); have o2 := hu; (try simp only [hX_sI, hX_sR, hX_sL, hX_sD, hX_sIa, hX_sRa, hV_sI, hV_sR, hV_sL, hV_sD, hV_sIa, hV_sRa, hX_new, hV_new] at o0 o1 o2 ⊢); omega)) (show us + (hV z6.2 + 6 - hV h) ≤ MS from (by have o0 := (show lez h (hX z6.2 + 1) (hV z6.2 + 6) from hc1).2; have o1 := (show MS + V0 = hV z6.2 + 6 from hN); have o2 := hv; (try simp only [hX_sI, hX_sR, hX_sL, hX_sD, hX_sIa, hX_sRa, hV_sI, hV_sR, hV_sL, hV_sD, hV_sIa, hV_sRa, hX_new, hV_new] at o0 o1 o2 ⊢); omega)) (fun En u q => by obtain ⟨z9, n9, q9, q8⟩ := q; cases q9; exact ⟨_, n9, rfl, q8⟩) ?_
    rintro _ _ ⟨z9, hz9, _⟩
    cases hz9
noncomputable def fX11_compare_b4 (v0 : Nat) (v1 : Int32) (v2 : Int32) (h : PH) : Option ((Int32 × PH) ⊕ (Nat × PH)) :=
  bx (fX11_demandKeptPlace v2 h) (fun z3 =>
  fX11_compare_b8 v0 v1 v2 z3)
set_option maxRecDepth 100000 in
theorem mX11_compare_b4 {v0 : Nat} {v1 : Int32} {v2 : Int32} {h : PH} {r : ((Int32 × PH) ⊕ (Nat × PH))} (hf : fX11_compare_b4 v0 v1 v2 h = some r) : lez h (xT2 r) (vT2 r) := by
  unfold fX11_compare_b4 at hf
  have hle := lez_rf h
  obtain ⟨y4, hy4, h1y4, h2y4⟩ := bx_some hf
  have hc1 := mX11_demandKeptPlace hy4
  rcases y4 with z3 | z3
  · have hf := h1y4 z3 rfl
    have hle : lez h (hX z3) (hV z3) := lez_rt hc1 hle
    exact lez_rt (mX11_compare_b8 hf) hle
  · have hr9 := h2y4 z3 rfl
    subst hr9
    exact lez_rt hc1 hle
set_option maxRecDepth 100000 in
theorem wX11_compare_b4 {E : PE} {p : Program} {l : Launch} {e : Env} {s : State} {m : MethodId} {args : Array Value} {below : List Frame} {meth : Method} {c : Code} {X0 V0 MC MS uc us : Nat} (X : Cx E p l e (rmv 53 MC MS) s m args below meth c RX11 cX11_compare 5 (some .int)) (hG : Gs E l) (hex : ∀ x ∈ c.exceptionTable.toList, False) {v0 : Nat} {v1 : Int32} {v2 : Int32} {h : PH} {r : ((Int32 × PH) ⊕ (Nat × PH))} (hM : MC + X0 = (xT2 r)) (hN : MS + V0 = (vT2 r)) (hu : uc + X0 = hX h) (hv : us + V0 = hV h) (hf : fX11_compare_b4 v0 v1 v2 h = some r)  : PW E p l e (rmv 53 MC MS) s m args below meth c 5 uc us (vx_MQ below (QG E (fun v u => ∃ z, r = .inl z ∧ v = some (.int z.1) ∧ u = z.2)) (XG E (fun En u => ∃ (z : Nat × PH) (n : Nat), r = .inr z ∧ En = exn z.1 ∧ hX z.2 ≤ n ∧ u = hbump z.2 n)) args s MC MS (pA E)) h 4 [(0, some (.ref v0)), (1, some (.int v1)), (2, some (.int v2))] [] := by
  have hm1 : lez h (xT2 r) (vT2 r) := mX11_compare_b4 hf
  have hcm : uc ≤ MC := (by have o0 := hm1.1; have o1 := hM; have o2 := hu; (try simp only [hX_sI, hX_sR, hX_sL, hX_sD, hX_sIa, hX_sRa, hV_sI, hV_sR, hV_sL, hV_sD, hV_sIa, hV_sRa, hX_new, hV_new] at o0 o1 o2 ⊢); omega)
  have hsm : us ≤ MS := (by have o0 := hm1.2; have o1 := hN; have o2 := hv; (try simp only [hX_sI, hX_sR, hX_sL, hX_sD, hX_sIa, hX_sRa, hV_sI, hV_sR, hV_sL, hV_sD, hV_sIa, hV_sRa, hX_new, hV_new] at o0 o1 o2 ⊢); omega)
  clear hm1
  unfold fX11_compare_b4 at hf
  refine p_iload_n X (dcg dc_X11_compare 2 rfl) rfl rfl ?_
  obtain ⟨y4, hy4, h1y4, h2y4⟩ := bx_some hf
  have hc1 := mX11_demandKeptPlace hy4
  rcases y4 with z3 | z3
  · have hf := h1y4 z3 rfl
    have hm1 : lez _ (xT2 r) (vT2 r) := mX11_compare_b8 hf
    refine p_callSX (As := [_]) X hex ml_X11_241 (dcg dc_X11_compare 3 rfl) rfl rfl  (wX11_demandKeptPlace hG hy4) (by decide) (room4 (Nat.le_of_ble_eq_true rfl)) (show uc + (hX z3 - hX h) ≤ MC from (by have o0 := hm1.1; have o1 := (show lez h (hX z3) (hV z3) from hc1).1; have o2 := hM; have o3 := hu; (try simp only [hX_sI, hX_sR, hX_sL, hX_sD, hX_sIa, hX_sRa, hV_sI, hV_sR, hV_sL, hV_sD, hV_sIa, hV_sRa, hX_new, hV_new] at o0 o1 o2 o3 ⊢); omega)) (show us + (hV z3 - hV h) ≤ MS from (by have o0 := hm1.2; have o1 := (show lez h (hX z3) (hV z3) from hc1).2; have o2 := hN; have o3 := hv; (try simp only [hX_sI, hX_sR, hX_sL, hX_sD, hX_sIa, hX_sRa, hV_sI, hV_sR, hV_sL, hV_sD, hV_sIa, hV_sRa, hX_new, hV_new] at o0 o1 o2 o3 ⊢); omega)) (show uc + (hX z3 - hX h) ≤ MC from (by have o0 := hm1.1; have o1 := (show lez h (hX z3) (hV z3) from hc1).1; have o2 := hM; have o3 := hu; (try simp only [hX_sI, hX_sR, hX_sL, hX_sD, hX_sIa, hX_sRa, hV_sI, hV_sR, hV_sL, hV_sD, hV_sIa, hV_sRa, hX_new, hV_new] at o0 o1 o2 o3 ⊢); omega)) (show us + (hV z3 - hV h) ≤ MS from (by have o0 := hm1.2; have o1 := (show lez h (hX z3) (hV z3) from hc1).2; have o2 := hN; have o3 := hv; (try simp only [hX_sI, hX_sR, hX_sL, hX_sD, hX_sIa, hX_sRa, hV_sI, hV_sR, hV_sL, hV_sD, hV_sIa, hV_sRa, hX_new, hV_new] at o0 o1 o2 o3 ⊢); omega)) (fun En u q => by obtain ⟨z9, n9, q9, _⟩ := q; cases q9) ?_
    rintro _ _ ⟨z9, hz9, rfl, rfl⟩
    cases hz9
    refine p_pick [0, 1, 2] ?_
    exact wX11_compare_b8 X hG hex hM hN (show uc + (hX z3 - hX h) + X0 = hX z3 from (by have o0 := (show lez h (hX z3) (hV z3) from hc1).1; have o1 := hu; (try simp only [hX_sI, hX_sR, hX_sL, hX_sD, hX_sIa, hX_sRa, hV_sI, hV_sR, hV_sL, hV_sD, hV_sIa, hV_sRa, hX_new, hV_new] at o0 o1 ⊢); omega)) (show us + (hV z3 - hV h) + V0 = hV z3 from (by have o0 := (show lez h (hX z3) (hV z3) from hc1).2; have o1 := hv; (try simp only [hX_sI, hX_sR, hX_sL, hX_sD, hX_sIa, hX_sRa, hV_sI, hV_sR, hV_sL, hV_sD, hV_sIa, hV_sRa, hX_new, hV_new] at o0 o1 ⊢); omega)) hf 
  · have hr9 := h2y4 z3 rfl
    subst hr9
    refine p_callSX (As := [_]) X hex ml_X11_241 (dcg dc_X11_compare 3 rfl) rfl rfl  (wX11_demandKeptPlace hG hy4) (by decide) (room4 (Nat.le_of_ble_eq_true rfl)) (show uc + (hX z3.2 + 1 - hX h) ≤ MC from (by have o0 := (show lez h (hX z3.2 + 1) (hV z3.2 + 6) from hc1).1; have o1 := (show MC + X0 = hX z3.2 + 1 from hM); have o2 := hu; (try simp only [hX_sI, hX_sR, hX_sL, hX_sD, hX_sIa, hX_sRa, hV_sI, hV_sR, hV_sL, hV_sD, hV_sIa, hV_sRa, hX_new, hV_new] at o0 o1 o2 ⊢); omega)) (show us + (hV z3.2 + 6 - hV h) ≤ MS from (by have o0 := (show lez h (hX z3.2 + 1) (hV z3.2 + 6) from hc1).2; have o1 := (show MS + V0 = hV z3.2 + 6 from hN); have o2 := hv; (try simp only [hX_sI, hX_sR, hX_sL, hX_sD, hX_sIa, hX_sRa, hV_sI, hV_sR, hV_sL, hV_sD, hV_sIa, hV_sRa, hX_new, hV_new] at o0 o1 o2 ⊢); omega)) (show uc + (hX z3.2 + 1 - hX h) ≤ MC from (by have o0 := (show lez h (hX z3.2 + 1) (hV z3.2 + 6) from hc1).1; have o1 := (show MC + X0 = hX z3.2 + 1 from hM); have o2 := hu; (try simp only [hX_sI, hX_sR, hX_sL, hX_sD, hX_sIa, hX_sRa, hV_sI, hV_sR, hV_sL, hV_sD, hV_sIa, hV_sRa, hX_new, hV_new] at o0 o1 o2 ⊢); omega)) (show us + (hV z3.2 + 6 - hV h) ≤ MS from (by have o0 := (show lez h (hX z3.2 + 1) (hV z3.2 + 6) from hc1).2; have o1 := (show MS + V0 = hV z3.2 + 6 from hN); have o2 := hv; (try simp only [hX_sI, hX_sR, hX_sL, hX_sD, hX_sIa, hX_sRa, hV_sI, hV_sR, hV_sL, hV_sD, hV_sIa, hV_sRa, hX_new, hV_new] at o0 o1 o2 ⊢); omega)) (fun En u q => by obtain ⟨z9, n9, q9, q8⟩ := q; cases q9; exact ⟨_, n9, rfl, q8⟩) ?_
    rintro _ _ ⟨z9, hz9, _⟩
    cases hz9
noncomputable def fX11_compare_b0 (v0 : Nat) (v1 : Int32) (v2 : Int32) (h : PH) : Option ((Int32 × PH) ⊕ (Nat × PH)) :=
  bx (fX11_demandKeptPlace v1 h) (fun z1 =>
  fX11_compare_b4 v0 v1 v2 z1)
set_option maxRecDepth 100000 in
theorem mX11_compare_b0 {v0 : Nat} {v1 : Int32} {v2 : Int32} {h : PH} {r : ((Int32 × PH) ⊕ (Nat × PH))} (hf : fX11_compare_b0 v0 v1 v2 h = some r) : lez h (xT2 r) (vT2 r) := by
  unfold fX11_compare_b0 at hf
  have hle := lez_rf h
  obtain ⟨y2, hy2, h1y2, h2y2⟩ := bx_some hf
  have hc1 := mX11_demandKeptPlace hy2
  rcases y2 with z1 | z1
  · have hf := h1y2 z1 rfl
    have hle : lez h (hX z1) (hV z1) := lez_rt hc1 hle
    exact lez_rt (mX11_compare_b4 hf) hle
  · have hr9 := h2y2 z1 rfl
    subst hr9
    exact lez_rt hc1 hle
set_option maxRecDepth 100000 in
theorem wX11_compare_b0 {E : PE} {p : Program} {l : Launch} {e : Env} {s : State} {m : MethodId} {args : Array Value} {below : List Frame} {meth : Method} {c : Code} {X0 V0 MC MS uc us : Nat} (X : Cx E p l e (rmv 53 MC MS) s m args below meth c RX11 cX11_compare 5 (some .int)) (hG : Gs E l) (hex : ∀ x ∈ c.exceptionTable.toList, False) {v0 : Nat} {v1 : Int32} {v2 : Int32} {h : PH} {r : ((Int32 × PH) ⊕ (Nat × PH))} (hM : MC + X0 = (xT2 r)) (hN : MS + V0 = (vT2 r)) (hu : uc + X0 = hX h) (hv : us + V0 = hV h) (hf : fX11_compare_b0 v0 v1 v2 h = some r)  : PW E p l e (rmv 53 MC MS) s m args below meth c 5 uc us (vx_MQ below (QG E (fun v u => ∃ z, r = .inl z ∧ v = some (.int z.1) ∧ u = z.2)) (XG E (fun En u => ∃ (z : Nat × PH) (n : Nat), r = .inr z ∧ En = exn z.1 ∧ hX z.2 ≤ n ∧ u = hbump z.2 n)) args s MC MS (pA E)) h 0 [(0, some (.ref v0)), (1, some (.int v1)), (2, some (.int v2))] [] := by
  have hm1 : lez h (xT2 r) (vT2 r) := mX11_compare_b0 hf
  have hcm : uc ≤ MC := (by have o0 := hm1.1; have o1 := hM; have o2 := hu; (try simp only [hX_sI, hX_sR, hX_sL, hX_sD, hX_sIa, hX_sRa, hV_sI, hV_sR, hV_sL, hV_sD, hV_sIa, hV_sRa, hX_new, hV_new] at o0 o1 o2 ⊢); omega)
  have hsm : us ≤ MS := (by have o0 := hm1.2; have o1 := hN; have o2 := hv; (try simp only [hX_sI, hX_sR, hX_sL, hX_sD, hX_sIa, hX_sRa, hV_sI, hV_sR, hV_sL, hV_sD, hV_sIa, hV_sRa, hX_new, hV_new] at o0 o1 o2 ⊢); omega)
  clear hm1
  unfold fX11_compare_b0 at hf
  refine p_iload_n X (dcg dc_X11_compare 0 rfl) rfl rfl ?_
  obtain ⟨y2, hy2, h1y2, h2y2⟩ := bx_some hf
  have hc1 := mX11_demandKeptPlace hy2
  rcases y2 with z1 | z1
  · have hf := h1y2 z1 rfl
    have hm1 : lez _ (xT2 r) (vT2 r) := mX11_compare_b4 hf
    refine p_callSX (As := [_]) X hex ml_X11_241 (dcg dc_X11_compare 1 rfl) rfl rfl  (wX11_demandKeptPlace hG hy2) (by decide) (room4 (Nat.le_of_ble_eq_true rfl)) (show uc + (hX z1 - hX h) ≤ MC from (by have o0 := hm1.1; have o1 := (show lez h (hX z1) (hV z1) from hc1).1; have o2 := hM; have o3 := hu; (try simp only [hX_sI, hX_sR, hX_sL, hX_sD, hX_sIa, hX_sRa, hV_sI, hV_sR, hV_sL, hV_sD, hV_sIa, hV_sRa, hX_new, hV_new] at o0 o1 o2 o3 ⊢); omega)) (show us + (hV z1 - hV h) ≤ MS from (by have o0 := hm1.2; have o1 := (show lez h (hX z1) (hV z1) from hc1).2; have o2 := hN; have o3 := hv; (try simp only [hX_sI, hX_sR, hX_sL, hX_sD, hX_sIa, hX_sRa, hV_sI, hV_sR, hV_sL, hV_sD, hV_sIa, hV_sRa, hX_new, hV_new] at o0 o1 o2 o3 ⊢); omega)) (show uc + (hX z1 - hX h) ≤ MC from (by have o0 := hm1.1; have o1 := (show lez h (hX z1) (hV z1) from hc1).1; have o2 := hM; have o3 := hu; (try simp only [hX_sI, hX_sR, hX_sL, hX_sD, hX_sIa, hX_sRa, hV_sI, hV_sR, hV_sL, hV_sD, hV_sIa, hV_sRa, hX_new, hV_new] at o0 o1 o2 o3 ⊢); omega)) (show us + (hV z1 - hV h) ≤ MS from (by have o0 := hm1.2; have o1 := (show lez h (hX z1) (hV z1) from hc1).2; have o2 := hN; have o3 := hv; (try simp only [hX_sI, hX_sR, hX_sL, hX_sD, hX_sIa, hX_sRa, hV_sI, hV_sR, hV_sL, hV_sD, hV_sIa, hV_sRa, hX_new, hV_new] at o0 o1 o2 o3 ⊢); omega)) (fun En u q => by obtain ⟨z9, n9, q9, _⟩ := q; cases q9) ?_
    rintro _ _ ⟨z9, hz9, rfl, rfl⟩
    cases hz9
    refine p_pick [0, 1, 2] ?_
    exact wX11_compare_b4 X hG hex hM hN (show uc + (hX z1 - hX h) + X0 = hX z1 from (by have o0 := (show lez h (hX z1) (hV z1) from hc1).1; have o1 := hu; (try simp only [hX_sI, hX_sR, hX_sL, hX_sD, hX_sIa, hX_sRa, hV_sI, hV_sR, hV_sL, hV_sD, hV_sIa, hV_sRa, hX_new, hV_new] at o0 o1 ⊢); omega)) (show us + (hV z1 - hV h) + V0 = hV z1 from (by have o0 := (show lez h (hX z1) (hV z1) from hc1).2; have o1 := hv; (try simp only [hX_sI, hX_sR, hX_sL, hX_sD, hX_sIa, hX_sRa, hV_sI, hV_sR, hV_sL, hV_sD, hV_sIa, hV_sRa, hX_new, hV_new] at o0 o1 ⊢); omega)) hf 
  · have hr9 := h2y2 z1 rfl
    subst hr9
    refine p_callSX (As := [_]) X hex ml_X11_241 (dcg dc_X11_compare 1 rfl) rfl rfl  (wX11_demandKeptPlace hG hy2) (by decide) (room4 (Nat.le_of_ble_eq_true rfl)) (show uc + (hX z1.2 + 1 - hX h) ≤ MC from (by have o0 := (show lez h (hX z1.2 + 1) (hV z1.2 + 6) from hc1).1; have o1 := (show MC + X0 = hX z1.2 + 1 from hM); have o2 := hu; (try simp only [hX_sI, hX_sR, hX_sL, hX_sD, hX_sIa, hX_sRa, hV_sI, hV_sR, hV_sL, hV_sD, hV_sIa, hV_sRa, hX_new, hV_new] at o0 o1 o2 ⊢); omega)) (show us + (hV z1.2 + 6 - hV h) ≤ MS from (by have o0 := (show lez h (hX z1.2 + 1) (hV z1.2 + 6) from hc1).2; have o1 := (show MS + V0 = hV z1.2 + 6 from hN); have o2 := hv; (try simp only [hX_sI, hX_sR, hX_sL, hX_sD, hX_sIa, hX_sRa, hV_sI, hV_sR, hV_sL, hV_sD, hV_sIa, hV_sRa, hX_new, hV_new] at o0 o1 o2 ⊢); omega)) (show uc + (hX z1.2 + 1 - hX h) ≤ MC from (by have o0 := (show lez h (hX z1.2 + 1) (hV z1.2 + 6) from hc1).1; have o1 := (show MC + X0 = hX z1.2 + 1 from hM); have o2 := hu; (try simp only [hX_sI, hX_sR, hX_sL, hX_sD, hX_sIa, hX_sRa, hV_sI, hV_sR, hV_sL, hV_sD, hV_sIa, hV_sRa, hX_new, hV_new] at o0 o1 o2 ⊢); omega)) (show us + (hV z1.2 + 6 - hV h) ≤ MS from (by have o0 := (show lez h (hX z1.2 + 1) (hV z1.2 + 6) from hc1).2; have o1 := (show MS + V0 = hV z1.2 + 6 from hN); have o2 := hv; (try simp only [hX_sI, hX_sR, hX_sL, hX_sD, hX_sIa, hX_sRa, hV_sI, hV_sR, hV_sL, hV_sD, hV_sIa, hV_sRa, hX_new, hV_new] at o0 o1 o2 ⊢); omega)) (fun En u q => by obtain ⟨z9, n9, q9, q8⟩ := q; cases q9; exact ⟨_, n9, rfl, q8⟩) ?_
    rintro _ _ ⟨z9, hz9, _⟩
    cases hz9
noncomputable def fX11_compare (v0 : Nat) (v1 : Int32) (v2 : Int32) (h : PH) : Option ((Int32 × PH) ⊕ (Nat × PH)) :=
  fX11_compare_b0 v0 v1 v2 h
set_option maxRecDepth 100000 in
theorem mX11_compare {v0 : Nat} {v1 : Int32} {v2 : Int32} {h : PH} {r : ((Int32 × PH) ⊕ (Nat × PH))} (hf : fX11_compare v0 v1 v2 h = some r) : lez h (xT2 r) (vT2 r) := by
  unfold fX11_compare at hf
  have hle := lez_rf h
  exact lez_rt (mX11_compare_b0 hf) hle
set_option maxRecDepth 100000 in
theorem wX11_compare {E : PE} {l : Launch} (hG : Gs E l) {v0 : Nat} {v1 : Int32} {v2 : Int32} {h : PH} {r : ((Int32 × PH) ⊕ (Nat × PH))} (hf : fX11_compare v0 v1 v2 h = some r) : CtX E l 53 ((xT2 r) - hX h) ((vT2 r) - hV h) yX11_compare cX11_compare 5 (some .int) [.ref v0, .int v1, .int v2] h (fun v u => ∃ z, r = .inl z ∧ v = some (.int z.1) ∧ u = z.2) (fun En u => ∃ (z : Nat × PH) (n : Nat), r = .inr z ∧ En = exn z.1 ∧ hX z.2 ≤ n ∧ u = hbump z.2 n) := by
  have hmm := mX11_compare hf
  refine ctx_of hG (by decide) (Nat.le_of_ble_eq_true rfl) ?_
  intro p e s m args below meth c X hex
  show PW E p l e _ s m args below meth c _ 0 0 _ h 0 [(0, some (.ref v0)), (1, some (.int v1)), (2, some (.int v2))] []
  unfold fX11_compare at hf
  have hM := Nat.sub_add_cancel hmm.1
  have hN := Nat.sub_add_cancel hmm.2
  refine p_pick [0, 1, 2] ?_
  exact wX11_compare_b0 X hG hex hM hN (Nat.zero_add _) (Nat.zero_add _) hf
theorem dc_X11_differAt : decs cX11_differAt [(0, .aload_n 0, 1), (1, .getfield 75, 3), (4, .iload_n 1, 1), (5, .invokevirtual 310, 3), (8, .ireturn, 1)] = true := by decide +kernel
noncomputable def fX11_differAt (v0 : Nat) (v1 : Int32) (h : PH) : Option Int32 :=
  gd (hK h v0 = 11) (gs (hR h 11 v0 9) (fun a2 =>
  gd (hK h a2 = 0) (bd (fX0_leastAt a2 v1 h) (fun z5 =>
  some (z5)))))
set_option maxRecDepth 100000 in
theorem wX11_differAt {E : PE} {l : Launch} (hG : Gs E l) {v0 : Nat} {v1 : Int32} {h : PH} {r : Int32} (hf : fX11_differAt v0 v1 h = some r) : Ct E l 1 0 0 yX11_differAt cX11_differAt 2 (some .int) [.ref v0, .int v1] h (fun v u => v = some (.int r) ∧ u = h) := by
  refine ct_of hG (by decide) (Nat.le_of_ble_eq_true rfl) ?_
  intro p e s m args below meth c X hnm
  show PW E p l e _ s m args below meth c _ 0 0 _ h 0 [(0, some (.ref v0)), (1, some (.int v1))] []
  unfold fX11_differAt at hf
  refine p_aload_n X (dcg dc_X11_differAt 0 rfl) rfl rfl ?_
  obtain ⟨hk1, hf⟩ := gd_some hf
  refine p_getR X fl_X11_75 rfl (by decide) (dcg dc_X11_differAt 1 rfl) hk1 ?_
  refine p_iload_n X (dcg dc_X11_differAt 2 rfl) rfl rfl ?_
  obtain ⟨a2, e3, hf⟩ := gs_some hf
  first | subst e3 | (try rw [e3])
  obtain ⟨hk4, hf⟩ := gd_some hf
  obtain ⟨z5, hz5, hf⟩ := bd_some hf
  refine p_callV (As := [_]) X ml_X11_310 (dcg dc_X11_differAt 3 rfl) rfl rfl hk4 (wX0_leastAt hG hz5) (by decide) (room4 (Nat.le_of_ble_eq_true rfl)) (Nat.le_refl _) (Nat.le_refl _) ?_
  rintro _ u9 ⟨rfl, e9⟩; have e9 := e9.symm; subst e9
  have er := Option.some.inj hf
  subst er
  exact p_iret X rfl (dcg dc_X11_differAt 4 rfl) ⟨rfl, rfl⟩ (Nat.le_refl _) (Nat.le_refl _)
theorem dc_X11_unlike : decs cX11_unlike [(0, .aload_n 0, 1), (1, .iload_n 1, 1), (2, .invokevirtual 119, 3), (5, .invokevirtual 313, 3), (8, .ireturn, 1)] = true := by decide +kernel
noncomputable def fX11_unlike_b5 (t0 : Option Nat) (h : PH) : Option ((Int32 × PH) ⊕ (Nat × PH)) :=
  gs t0 (fun a4 =>
  gd (hK h a4 = 8) (bd (fX8_countUnlike a4 h) (fun z7 =>
  some (.inl ((z7, h))))))
set_option maxRecDepth 100000 in
theorem mX11_unlike_b5 {t0 : Option Nat} {h : PH} {r : ((Int32 × PH) ⊕ (Nat × PH))} (hf : fX11_unlike_b5 t0 h = some r) : lez h (xT2 r) (vT2 r) := by
  unfold fX11_unlike_b5 at hf
  have hle := lez_rf h
  obtain ⟨a4, e5, hf⟩ := gs_some hf
  obtain ⟨hk6, hf⟩ := gd_some hf
  obtain ⟨z7, hz7, hf⟩ := bd_some hf
  have ee := Option.some.inj hf; subst ee; exact hle
set_option maxRecDepth 100000 in
theorem wX11_unlike_b5 {E : PE} {p : Program} {l : Launch} {e : Env} {s : State} {m : MethodId} {args : Array Value} {below : List Frame} {meth : Method} {c : Code} {X0 V0 MC MS uc us : Nat} (X : Cx E p l e (rmv 9 MC MS) s m args below meth c RX11 cX11_unlike 2 (some .int)) (hG : Gs E l) (hex : ∀ x ∈ c.exceptionTable.toList, False) {t0 : Option Nat} {h : PH} {r : ((Int32 × PH) ⊕ (Nat × PH))} (hM : MC + X0 = (xT2 r)) (hN : MS + V0 = (vT2 r)) (hu : uc + X0 = hX h) (hv : us + V0 = hV h) (hf : fX11_unlike_b5 t0 h = some r)  : PW E p l e (rmv 9 MC MS) s m args below meth c 2 uc us (vx_MQ below (QG E (fun v u => ∃ z, r = .inl z ∧ v = some (.int z.1) ∧ u = z.2)) (XG E (fun En u => ∃ (z : Nat × PH) (n : Nat), r = .inr z ∧ En = exn z.1 ∧ hX z.2 ≤ n ∧ u = hbump z.2 n)) args s MC MS (pA E)) h 5 [] [va_rf t0] := by
  have hm1 : lez h (xT2 r) (vT2 r) := mX11_unlike_b5 hf
  have hcm : uc ≤ MC := (by have o0 := hm1.1; have o1 := hM; have o2 := hu; (try simp only [hX_sI, hX_sR, hX_sL, hX_sD, hX_sIa, hX_sRa, hV_sI, hV_sR, hV_sL, hV_sD, hV_sIa, hV_sRa, hX_new, hV_new] at o0 o1 o2 ⊢); omega)
  have hsm : us ≤ MS := (by have o0 := hm1.2; have o1 := hN; have o2 := hv; (try simp only [hX_sI, hX_sR, hX_sL, hX_sD, hX_sIa, hX_sRa, hV_sI, hV_sR, hV_sL, hV_sD, hV_sIa, hV_sRa, hX_new, hV_new] at o0 o1 o2 ⊢); omega)
  clear hm1
  unfold fX11_unlike_b5 at hf
  obtain ⟨a4, e5, hf⟩ := gs_some hf
  first | subst e5 | (try rw [e5])
  obtain ⟨hk6, hf⟩ := gd_some hf
  obtain ⟨z7, hz7, hf⟩ := bd_some hf
  refine p_callV (As := []) X ml_X11_313 (dcg dc_X11_unlike 3 rfl) rfl rfl hk6 (wX8_countUnlike hG hz7) (by decide) (room4 (Nat.le_of_ble_eq_true rfl)) hcm hsm ?_
  rintro _ u9 ⟨rfl, e9⟩; have e9 := e9.symm; subst e9
  have er := Option.some.inj hf
  subst er
  refine p_vx ?_
  exact p_iret X rfl (dcg dc_X11_unlike 4 rfl) ⟨_, rfl, rfl, rfl⟩ hcm hsm
noncomputable def fX11_unlike_b0 (v0 : Nat) (v1 : Int32) (h : PH) : Option ((Int32 × PH) ⊕ (Nat × PH)) :=
  gd (hK h v0 = 11) (bx (fX11_demandText v0 v1 h) (fun z2 =>
  fX11_unlike_b5 z2.1 z2.2))
set_option maxRecDepth 100000 in
theorem mX11_unlike_b0 {v0 : Nat} {v1 : Int32} {h : PH} {r : ((Int32 × PH) ⊕ (Nat × PH))} (hf : fX11_unlike_b0 v0 v1 h = some r) : lez h (xT2 r) (vT2 r) := by
  unfold fX11_unlike_b0 at hf
  have hle := lez_rf h
  obtain ⟨hk1, hf⟩ := gd_some hf
  obtain ⟨y3, hy3, h1y3, h2y3⟩ := bx_some hf
  have hc1 := mX11_demandText hy3
  rcases y3 with z2 | z2
  · have hf := h1y3 z2 rfl
    have hle : lez h (hX z2.2) (hV z2.2) := lez_rt hc1 hle
    exact lez_rt (mX11_unlike_b5 hf) hle
  · have hr9 := h2y3 z2 rfl
    subst hr9
    exact lez_rt hc1 hle
set_option maxRecDepth 100000 in
theorem wX11_unlike_b0 {E : PE} {p : Program} {l : Launch} {e : Env} {s : State} {m : MethodId} {args : Array Value} {below : List Frame} {meth : Method} {c : Code} {X0 V0 MC MS uc us : Nat} (X : Cx E p l e (rmv 9 MC MS) s m args below meth c RX11 cX11_unlike 2 (some .int)) (hG : Gs E l) (hex : ∀ x ∈ c.exceptionTable.toList, False) {v0 : Nat} {v1 : Int32} {h : PH} {r : ((Int32 × PH) ⊕ (Nat × PH))} (hM : MC + X0 = (xT2 r)) (hN : MS + V0 = (vT2 r)) (hu : uc + X0 = hX h) (hv : us + V0 = hV h) (hf : fX11_unlike_b0 v0 v1 h = some r)  : PW E p l e (rmv 9 MC MS) s m args below meth c 2 uc us (vx_MQ below (QG E (fun v u => ∃ z, r = .inl z ∧ v = some (.int z.1) ∧ u = z.2)) (XG E (fun En u => ∃ (z : Nat × PH) (n : Nat), r = .inr z ∧ En = exn z.1 ∧ hX z.2 ≤ n ∧ u = hbump z.2 n)) args s MC MS (pA E)) h 0 [(0, some (.ref v0)), (1, some (.int v1))] [] := by
  have hm1 : lez h (xT2 r) (vT2 r) := mX11_unlike_b0 hf
  have hcm : uc ≤ MC := (by have o0 := hm1.1; have o1 := hM; have o2 := hu; (try simp only [hX_sI, hX_sR, hX_sL, hX_sD, hX_sIa, hX_sRa, hV_sI, hV_sR, hV_sL, hV_sD, hV_sIa, hV_sRa, hX_new, hV_new] at o0 o1 o2 ⊢); omega)
  have hsm : us ≤ MS := (by have o0 := hm1.2; have o1 := hN; have o2 := hv; (try simp only [hX_sI, hX_sR, hX_sL, hX_sD, hX_sIa, hX_sRa, hV_sI, hV_sR, hV_sL, hV_sD, hV_sIa, hV_sRa, hX_new, hV_new] at o0 o1 o2 ⊢); omega)
  clear hm1
  unfold fX11_unlike_b0 at hf
  refine p_aload_n X (dcg dc_X11_unlike 0 rfl) rfl rfl ?_
  refine p_iload_n X (dcg dc_X11_unlike 1 rfl) rfl rfl ?_
  obtain ⟨hk1, hf⟩ := gd_some hf
  obtain ⟨y3, hy3, h1y3, h2y3⟩ := bx_some hf
  have hc1 := mX11_demandText hy3
  rcases y3 with z2 | z2
  · have hf := h1y3 z2 rfl
    have hm1 : lez _ (xT2 r) (vT2 r) := mX11_unlike_b5 hf
    refine p_callVX (As := [_]) X hex ml_X11_119 (dcg dc_X11_unlike 2 rfl) rfl rfl hk1 (wX11_demandText hG hy3) (by decide) (room4 (Nat.le_of_ble_eq_true rfl)) (show uc + (hX z2.2 - hX h) ≤ MC from (by have o0 := hm1.1; have o1 := (show lez h (hX z2.2) (hV z2.2) from hc1).1; have o2 := hM; have o3 := hu; (try simp only [hX_sI, hX_sR, hX_sL, hX_sD, hX_sIa, hX_sRa, hV_sI, hV_sR, hV_sL, hV_sD, hV_sIa, hV_sRa, hX_new, hV_new] at o0 o1 o2 o3 ⊢); omega)) (show us + (hV z2.2 - hV h) ≤ MS from (by have o0 := hm1.2; have o1 := (show lez h (hX z2.2) (hV z2.2) from hc1).2; have o2 := hN; have o3 := hv; (try simp only [hX_sI, hX_sR, hX_sL, hX_sD, hX_sIa, hX_sRa, hV_sI, hV_sR, hV_sL, hV_sD, hV_sIa, hV_sRa, hX_new, hV_new] at o0 o1 o2 o3 ⊢); omega)) (show uc + (hX z2.2 - hX h) ≤ MC from (by have o0 := hm1.1; have o1 := (show lez h (hX z2.2) (hV z2.2) from hc1).1; have o2 := hM; have o3 := hu; (try simp only [hX_sI, hX_sR, hX_sL, hX_sD, hX_sIa, hX_sRa, hV_sI, hV_sR, hV_sL, hV_sD, hV_sIa, hV_sRa, hX_new, hV_new] at o0 o1 o2 o3 ⊢); omega)) (show us + (hV z2.2 - hV h) ≤ MS from (by have o0 := hm1.2; have o1 := (show lez h (hX z2.2) (hV z2.2) from hc1).2; have o2 := hN; have o3 := hv; (try simp only [hX_sI, hX_sR, hX_sL, hX_sD, hX_sIa, hX_sRa, hV_sI, hV_sR, hV_sL, hV_sD, hV_sIa, hV_sRa, hX_new, hV_new] at o0 o1 o2 o3 ⊢); omega)) (fun En u q => by obtain ⟨z9, n9, q9, _⟩ := q; cases q9) ?_
    rintro _ _ ⟨z9, hz9, rfl, rfl⟩
    cases hz9
    refine p_pick [] ?_
    exact wX11_unlike_b5 X hG hex hM hN (show uc + (hX z2.2 - hX h) + X0 = hX z2.2 from (by have o0 := (show lez h (hX z2.2) (hV z2.2) from hc1).1; have o1 := hu; (try simp only [hX_sI, hX_sR, hX_sL, hX_sD, hX_sIa, hX_sRa, hV_sI, hV_sR, hV_sL, hV_sD, hV_sIa, hV_sRa, hX_new, hV_new] at o0 o1 ⊢); omega)) (show us + (hV z2.2 - hV h) + V0 = hV z2.2 from (by have o0 := (show lez h (hX z2.2) (hV z2.2) from hc1).2; have o1 := hv; (try simp only [hX_sI, hX_sR, hX_sL, hX_sD, hX_sIa, hX_sRa, hV_sI, hV_sR, hV_sL, hV_sD, hV_sIa, hV_sRa, hX_new, hV_new] at o0 o1 ⊢); omega)) hf 
  · have hr9 := h2y3 z2 rfl
    subst hr9
    refine p_callVX (As := [_]) X hex ml_X11_119 (dcg dc_X11_unlike 2 rfl) rfl rfl hk1 (wX11_demandText hG hy3) (by decide) (room4 (Nat.le_of_ble_eq_true rfl)) (show uc + (hX z2.2 + 1 - hX h) ≤ MC from (by have o0 := (show lez h (hX z2.2 + 1) (hV z2.2 + 6) from hc1).1; have o1 := (show MC + X0 = hX z2.2 + 1 from hM); have o2 := hu; (try simp only [hX_sI, hX_sR, hX_sL, hX_sD, hX_sIa, hX_sRa, hV_sI, hV_sR, hV_sL, hV_sD, hV_sIa, hV_sRa, hX_new, hV_new] at o0 o1 o2 ⊢); omega)) (show us + (hV z2.2 + 6 - hV h) ≤ MS from (by have o0 := (show lez h (hX z2.2 + 1) (hV z2.2 + 6) from hc1).2; have o1 := (show MS + V0 = hV z2.2 + 6 from hN); have o2 := hv; (try simp only [hX_sI, hX_sR, hX_sL, hX_sD, hX_sIa, hX_sRa, hV_sI, hV_sR, hV_sL, hV_sD, hV_sIa, hV_sRa, hX_new, hV_new] at o0 o1 o2 ⊢); omega)) (show uc + (hX z2.2 + 1 - hX h) ≤ MC from (by have o0 := (show lez h (hX z2.2 + 1) (hV z2.2 + 6) from hc1).1; have o1 := (show MC + X0 = hX z2.2 + 1 from hM); have o2 := hu; (try simp only [hX_sI, hX_sR, hX_sL, hX_sD, hX_sIa, hX_sRa, hV_sI, hV_sR, hV_sL, hV_sD, hV_sIa, hV_sRa, hX_new, hV_new] at o0 o1 o2 ⊢); omega)) (show us + (hV z2.2 + 6 - hV h) ≤ MS from (by have o0 := (show lez h (hX z2.2 + 1) (hV z2.2 + 6) from hc1).2; have o1 := (show MS + V0 = hV z2.2 + 6 from hN); have o2 := hv; (try simp only [hX_sI, hX_sR, hX_sL, hX_sD, hX_sIa, hX_sRa, hV_sI, hV_sR, hV_sL, hV_sD, hV_sIa, hV_sRa, hX_new, hV_new] at o0 o1 o2 ⊢); omega)) (fun En u q => by obtain ⟨z9, n9, q9, q8⟩ := q; cases q9; exact ⟨_, n9, rfl, q8⟩) ?_
    rintro _ _ ⟨z9, hz9, _⟩
    cases hz9
noncomputable def fX11_unlike (v0 : Nat) (v1 : Int32) (h : PH) : Option ((Int32 × PH) ⊕ (Nat × PH)) :=
  fX11_unlike_b0 v0 v1 h
set_option maxRecDepth 100000 in
theorem mX11_unlike {v0 : Nat} {v1 : Int32} {h : PH} {r : ((Int32 × PH) ⊕ (Nat × PH))} (hf : fX11_unlike v0 v1 h = some r) : lez h (xT2 r) (vT2 r) := by
  unfold fX11_unlike at hf
  have hle := lez_rf h
  exact lez_rt (mX11_unlike_b0 hf) hle
set_option maxRecDepth 100000 in
theorem wX11_unlike {E : PE} {l : Launch} (hG : Gs E l) {v0 : Nat} {v1 : Int32} {h : PH} {r : ((Int32 × PH) ⊕ (Nat × PH))} (hf : fX11_unlike v0 v1 h = some r) : CtX E l 9 ((xT2 r) - hX h) ((vT2 r) - hV h) yX11_unlike cX11_unlike 2 (some .int) [.ref v0, .int v1] h (fun v u => ∃ z, r = .inl z ∧ v = some (.int z.1) ∧ u = z.2) (fun En u => ∃ (z : Nat × PH) (n : Nat), r = .inr z ∧ En = exn z.1 ∧ hX z.2 ≤ n ∧ u = hbump z.2 n) := by
  have hmm := mX11_unlike hf
  refine ctx_of hG (by decide) (Nat.le_of_ble_eq_true rfl) ?_
  intro p e s m args below meth c X hex
  show PW E p l e _ s m args below meth c _ 0 0 _ h 0 [(0, some (.ref v0)), (1, some (.int v1))] []
  unfold fX11_unlike at hf
  have hM := Nat.sub_add_cancel hmm.1
  have hN := Nat.sub_add_cancel hmm.2
  refine p_pick [0, 1] ?_
  exact wX11_unlike_b0 X hG hex hM hN (Nat.zero_add _) (Nat.zero_add _) hf
theorem dc_X11_common : decs cX11_common [(0, .aload_n 0, 1), (1, .iload_n 1, 1), (2, .invokevirtual 119, 3), (5, .astore_n 3, 1), (6, .aload_n 0, 1), (7, .iload_n 2, 1), (8, .invokevirtual 119, 3), (11, .astore 4, 2), (13, .aload_n 3, 1), (14, .aload 4, 2), (16, .invokevirtual 316, 3), (19, .ireturn, 1)] = true := by decide +kernel
noncomputable def fX11_common_b11 (v3 : Option Nat) (t0 : Option Nat) (h : PH) : Option ((Int32 × PH) ⊕ (Nat × PH)) :=
  gs v3 (fun a7 =>
  gd (hK h a7 = 8) (bd (fX8_countCommon a7 t0 h) (fun z10 =>
  some (.inl ((z10, h))))))
set_option maxRecDepth 100000 in
theorem mX11_common_b11 {v3 : Option Nat} {t0 : Option Nat} {h : PH} {r : ((Int32 × PH) ⊕ (Nat × PH))} (hf : fX11_common_b11 v3 t0 h = some r) : lez h (xT2 r) (vT2 r) := by
  unfold fX11_common_b11 at hf
  have hle := lez_rf h
  obtain ⟨a7, e8, hf⟩ := gs_some hf
  obtain ⟨hk9, hf⟩ := gd_some hf
  obtain ⟨z10, hz10, hf⟩ := bd_some hf
  have ee := Option.some.inj hf; subst ee; exact hle
set_option maxRecDepth 100000 in
theorem wX11_common_b11 {E : PE} {p : Program} {l : Launch} {e : Env} {s : State} {m : MethodId} {args : Array Value} {below : List Frame} {meth : Method} {c : Code} {X0 V0 MC MS uc us : Nat} (X : Cx E p l e (rmv 9 MC MS) s m args below meth c RX11 cX11_common 5 (some .int)) (hG : Gs E l) (hex : ∀ x ∈ c.exceptionTable.toList, False) {v3 : Option Nat} {t0 : Option Nat} {h : PH} {r : ((Int32 × PH) ⊕ (Nat × PH))} (hM : MC + X0 = (xT2 r)) (hN : MS + V0 = (vT2 r)) (hu : uc + X0 = hX h) (hv : us + V0 = hV h) (hf : fX11_common_b11 v3 t0 h = some r)  : PW E p l e (rmv 9 MC MS) s m args below meth c 5 uc us (vx_MQ below (QG E (fun v u => ∃ z, r = .inl z ∧ v = some (.int z.1) ∧ u = z.2)) (XG E (fun En u => ∃ (z : Nat × PH) (n : Nat), r = .inr z ∧ En = exn z.1 ∧ hX z.2 ≤ n ∧ u = hbump z.2 n)) args s MC MS (pA E)) h 11 [(3, some (va_rf v3))] [va_rf t0] := by
  have hm1 : lez h (xT2 r) (vT2 r) := mX11_common_b11 hf
  have hcm : uc ≤ MC := (by have o0 := hm1.1; have o1 := hM; have o2 := hu; (try simp only [hX_sI, hX_sR, hX_sL, hX_sD, hX_sIa, hX_sRa, hV_sI, hV_sR, hV_sL, hV_sD, hV_sIa, hV_sRa, hX_new, hV_new] at o0 o1 o2 ⊢); omega)
  have hsm : us ≤ MS := (by have o0 := hm1.2; have o1 := hN; have o2 := hv; (try simp only [hX_sI, hX_sR, hX_sL, hX_sD, hX_sIa, hX_sRa, hV_sI, hV_sR, hV_sL, hV_sD, hV_sIa, hV_sRa, hX_new, hV_new] at o0 o1 o2 ⊢); omega)
  clear hm1
  unfold fX11_common_b11 at hf
  refine p_astoreq X (dcg dc_X11_common 7 rfl) (by decide) (nwq (k := 3) rfl) ?_
  refine p_aloadq_n X (dcg dc_X11_common 8 rfl) rfl rfl ?_
  refine p_aloadq X (dcg dc_X11_common 9 rfl) rfl ?_
  obtain ⟨a7, e8, hf⟩ := gs_some hf
  first | subst e8 | (try rw [e8])
  obtain ⟨hk9, hf⟩ := gd_some hf
  obtain ⟨z10, hz10, hf⟩ := bd_some hf
  refine p_callV (As := [va_rf _]) X ml_X11_316 (dcg dc_X11_common 10 rfl) rfl rfl hk9 (wX8_countCommon hG hz10) (by decide) (room4 (Nat.le_of_ble_eq_true rfl)) hcm hsm ?_
  rintro _ u9 ⟨rfl, e9⟩; have e9 := e9.symm; subst e9
  have er := Option.some.inj hf
  subst er
  refine p_vx ?_
  exact p_iret X rfl (dcg dc_X11_common 11 rfl) ⟨_, rfl, rfl, rfl⟩ hcm hsm
noncomputable def fX11_common_b5 (v0 : Nat) (v2 : Int32) (t0 : Option Nat) (h : PH) : Option ((Int32 × PH) ⊕ (Nat × PH)) :=
  gd (hK h v0 = 11) (bx (fX11_demandText v0 v2 h) (fun z5 =>
  fX11_common_b11 t0 z5.1 z5.2))
set_option maxRecDepth 100000 in
theorem mX11_common_b5 {v0 : Nat} {v2 : Int32} {t0 : Option Nat} {h : PH} {r : ((Int32 × PH) ⊕ (Nat × PH))} (hf : fX11_common_b5 v0 v2 t0 h = some r) : lez h (xT2 r) (vT2 r) := by
  unfold fX11_common_b5 at hf
  have hle := lez_rf h
  obtain ⟨hk4, hf⟩ := gd_some hf
  obtain ⟨y6, hy6, h1y6, h2y6⟩ := bx_some hf
  have hc1 := mX11_demandText hy6
  rcases y6 with z5 | z5
  · have hf := h1y6 z5 rfl
    have hle : lez h (hX z5.2) (hV z5.2) := lez_rt hc1 hle
    exact lez_rt (mX11_common_b11 hf) hle
  · have hr9 := h2y6 z5 rfl
    subst hr9
    exact lez_rt hc1 hle
set_option maxRecDepth 100000 in
theorem wX11_common_b5 {E : PE} {p : Program} {l : Launch} {e : Env} {s : State} {m : MethodId} {args : Array Value} {below : List Frame} {meth : Method} {c : Code} {X0 V0 MC MS uc us : Nat} (X : Cx E p l e (rmv 9 MC MS) s m args below meth c RX11 cX11_common 5 (some .int)) (hG : Gs E l) (hex : ∀ x ∈ c.exceptionTable.toList, False) {v0 : Nat} {v2 : Int32} {t0 : Option Nat} {h : PH} {r : ((Int32 × PH) ⊕ (Nat × PH))} (hM : MC + X0 = (xT2 r)) (hN : MS + V0 = (vT2 r)) (hu : uc + X0 = hX h) (hv : us + V0 = hV h) (hf : fX11_common_b5 v0 v2 t0 h = some r)  : PW E p l e (rmv 9 MC MS) s m args below meth c 5 uc us (vx_MQ below (QG E (fun v u => ∃ z, r = .inl z ∧ v = some (.int z.1) ∧ u = z.2)) (XG E (fun En u => ∃ (z : Nat × PH) (n : Nat), r = .inr z ∧ En = exn z.1 ∧ hX z.2 ≤ n ∧ u = hbump z.2 n)) args s MC MS (pA E)) h 5 [(0, some (.ref v0)), (2, some (.int v2))] [va_rf t0] := by
  have hm1 : lez h (xT2 r) (vT2 r) := mX11_common_b5 hf
  have hcm : uc ≤ MC := (by have o0 := hm1.1; have o1 := hM; have o2 := hu; (try simp only [hX_sI, hX_sR, hX_sL, hX_sD, hX_sIa, hX_sRa, hV_sI, hV_sR, hV_sL, hV_sD, hV_sIa, hV_sRa, hX_new, hV_new] at o0 o1 o2 ⊢); omega)
  have hsm : us ≤ MS := (by have o0 := hm1.2; have o1 := hN; have o2 := hv; (try simp only [hX_sI, hX_sR, hX_sL, hX_sD, hX_sIa, hX_sRa, hV_sI, hV_sR, hV_sL, hV_sD, hV_sIa, hV_sRa, hX_new, hV_new] at o0 o1 o2 ⊢); omega)
  clear hm1
  unfold fX11_common_b5 at hf
  refine p_astoreq_n X (dcg dc_X11_common 3 rfl) rfl (by decide) rfl ?_
  refine p_aload_n X (dcg dc_X11_common 4 rfl) rfl rfl ?_
  refine p_iload_n X (dcg dc_X11_common 5 rfl) rfl rfl ?_
  obtain ⟨hk4, hf⟩ := gd_some hf
  obtain ⟨y6, hy6, h1y6, h2y6⟩ := bx_some hf
  have hc1 := mX11_demandText hy6
  rcases y6 with z5 | z5
  · have hf := h1y6 z5 rfl
    have hm1 : lez _ (xT2 r) (vT2 r) := mX11_common_b11 hf
    refine p_callVX (As := [_]) X hex ml_X11_119 (dcg dc_X11_common 6 rfl) rfl rfl hk4 (wX11_demandText hG hy6) (by decide) (room4 (Nat.le_of_ble_eq_true rfl)) (show uc + (hX z5.2 - hX h) ≤ MC from (by have o0 := hm1.1; have o1 := (show lez h (hX z5.2) (hV z5.2) from hc1).1; have o2 := hM; have o3 := hu; (try simp only [hX_sI, hX_sR, hX_sL, hX_sD, hX_sIa, hX_sRa, hV_sI, hV_sR, hV_sL, hV_sD, hV_sIa, hV_sRa, hX_new, hV_new] at o0 o1 o2 o3 ⊢); omega)) (show us + (hV z5.2 - hV h) ≤ MS from (by have o0 := hm1.2; have o1 := (show lez h (hX z5.2) (hV z5.2) from hc1).2; have o2 := hN; have o3 := hv; (try simp only [hX_sI, hX_sR, hX_sL, hX_sD, hX_sIa, hX_sRa, hV_sI, hV_sR, hV_sL, hV_sD, hV_sIa, hV_sRa, hX_new, hV_new] at o0 o1 o2 o3 ⊢); omega)) (show uc + (hX z5.2 - hX h) ≤ MC from (by have o0 := hm1.1; have o1 := (show lez h (hX z5.2) (hV z5.2) from hc1).1; have o2 := hM; have o3 := hu; (try simp only [hX_sI, hX_sR, hX_sL, hX_sD, hX_sIa, hX_sRa, hV_sI, hV_sR, hV_sL, hV_sD, hV_sIa, hV_sRa, hX_new, hV_new] at o0 o1 o2 o3 ⊢); omega)) (show us + (hV z5.2 - hV h) ≤ MS from (by have o0 := hm1.2; have o1 := (show lez h (hX z5.2) (hV z5.2) from hc1).2; have o2 := hN; have o3 := hv; (try simp only [hX_sI, hX_sR, hX_sL, hX_sD, hX_sIa, hX_sRa, hV_sI, hV_sR, hV_sL, hV_sD, hV_sIa, hV_sRa, hX_new, hV_new] at o0 o1 o2 o3 ⊢); omega)) (fun En u q => by obtain ⟨z9, n9, q9, _⟩ := q; cases q9) ?_
    rintro _ _ ⟨z9, hz9, rfl, rfl⟩
    cases hz9
    refine p_pick [3] ?_
    exact wX11_common_b11 X hG hex hM hN (show uc + (hX z5.2 - hX h) + X0 = hX z5.2 from (by have o0 := (show lez h (hX z5.2) (hV z5.2) from hc1).1; have o1 := hu; (try simp only [hX_sI, hX_sR, hX_sL, hX_sD, hX_sIa, hX_sRa, hV_sI, hV_sR, hV_sL, hV_sD, hV_sIa, hV_sRa, hX_new, hV_new] at o0 o1 ⊢); omega)) (show us + (hV z5.2 - hV h) + V0 = hV z5.2 from (by have o0 := (show lez h (hX z5.2) (hV z5.2) from hc1).2; have o1 := hv; (try simp only [hX_sI, hX_sR, hX_sL, hX_sD, hX_sIa, hX_sRa, hV_sI, hV_sR, hV_sL, hV_sD, hV_sIa, hV_sRa, hX_new, hV_new] at o0 o1 ⊢); omega)) hf 
  · have hr9 := h2y6 z5 rfl
    subst hr9
    refine p_callVX (As := [_]) X hex ml_X11_119 (dcg dc_X11_common 6 rfl) rfl rfl hk4 (wX11_demandText hG hy6) (by decide) (room4 (Nat.le_of_ble_eq_true rfl)) (show uc + (hX z5.2 + 1 - hX h) ≤ MC from (by have o0 := (show lez h (hX z5.2 + 1) (hV z5.2 + 6) from hc1).1; have o1 := (show MC + X0 = hX z5.2 + 1 from hM); have o2 := hu; (try simp only [hX_sI, hX_sR, hX_sL, hX_sD, hX_sIa, hX_sRa, hV_sI, hV_sR, hV_sL, hV_sD, hV_sIa, hV_sRa, hX_new, hV_new] at o0 o1 o2 ⊢); omega)) (show us + (hV z5.2 + 6 - hV h) ≤ MS from (by have o0 := (show lez h (hX z5.2 + 1) (hV z5.2 + 6) from hc1).2; have o1 := (show MS + V0 = hV z5.2 + 6 from hN); have o2 := hv; (try simp only [hX_sI, hX_sR, hX_sL, hX_sD, hX_sIa, hX_sRa, hV_sI, hV_sR, hV_sL, hV_sD, hV_sIa, hV_sRa, hX_new, hV_new] at o0 o1 o2 ⊢); omega)) (show uc + (hX z5.2 + 1 - hX h) ≤ MC from (by have o0 := (show lez h (hX z5.2 + 1) (hV z5.2 + 6) from hc1).1; have o1 := (show MC + X0 = hX z5.2 + 1 from hM); have o2 := hu; (try simp only [hX_sI, hX_sR, hX_sL, hX_sD, hX_sIa, hX_sRa, hV_sI, hV_sR, hV_sL, hV_sD, hV_sIa, hV_sRa, hX_new, hV_new] at o0 o1 o2 ⊢); omega)) (show us + (hV z5.2 + 6 - hV h) ≤ MS from (by have o0 := (show lez h (hX z5.2 + 1) (hV z5.2 + 6) from hc1).2; have o1 := (show MS + V0 = hV z5.2 + 6 from hN); have o2 := hv; (try simp only [hX_sI, hX_sR, hX_sL, hX_sD, hX_sIa, hX_sRa, hV_sI, hV_sR, hV_sL, hV_sD, hV_sIa, hV_sRa, hX_new, hV_new] at o0 o1 o2 ⊢); omega)) (fun En u q => by obtain ⟨z9, n9, q9, q8⟩ := q; cases q9; exact ⟨_, n9, rfl, q8⟩) ?_
    rintro _ _ ⟨z9, hz9, _⟩
    cases hz9
noncomputable def fX11_common_b0 (v0 : Nat) (v1 : Int32) (v2 : Int32) (h : PH) : Option ((Int32 × PH) ⊕ (Nat × PH)) :=
  gd (hK h v0 = 11) (bx (fX11_demandText v0 v1 h) (fun z2 =>
  fX11_common_b5 v0 v2 z2.1 z2.2))
set_option maxRecDepth 100000 in
theorem mX11_common_b0 {v0 : Nat} {v1 : Int32} {v2 : Int32} {h : PH} {r : ((Int32 × PH) ⊕ (Nat × PH))} (hf : fX11_common_b0 v0 v1 v2 h = some r) : lez h (xT2 r) (vT2 r) := by
  unfold fX11_common_b0 at hf
  have hle := lez_rf h
  obtain ⟨hk1, hf⟩ := gd_some hf
  obtain ⟨y3, hy3, h1y3, h2y3⟩ := bx_some hf
  have hc1 := mX11_demandText hy3
  rcases y3 with z2 | z2
  · have hf := h1y3 z2 rfl
    have hle : lez h (hX z2.2) (hV z2.2) := lez_rt hc1 hle
    exact lez_rt (mX11_common_b5 hf) hle
  · have hr9 := h2y3 z2 rfl
    subst hr9
    exact lez_rt hc1 hle
set_option maxRecDepth 100000 in
theorem wX11_common_b0 {E : PE} {p : Program} {l : Launch} {e : Env} {s : State} {m : MethodId} {args : Array Value} {below : List Frame} {meth : Method} {c : Code} {X0 V0 MC MS uc us : Nat} (X : Cx E p l e (rmv 9 MC MS) s m args below meth c RX11 cX11_common 5 (some .int)) (hG : Gs E l) (hex : ∀ x ∈ c.exceptionTable.toList, False) {v0 : Nat} {v1 : Int32} {v2 : Int32} {h : PH} {r : ((Int32 × PH) ⊕ (Nat × PH))} (hM : MC + X0 = (xT2 r)) (hN : MS + V0 = (vT2 r)) (hu : uc + X0 = hX h) (hv : us + V0 = hV h) (hf : fX11_common_b0 v0 v1 v2 h = some r)  : PW E p l e (rmv 9 MC MS) s m args below meth c 5 uc us (vx_MQ below (QG E (fun v u => ∃ z, r = .inl z ∧ v = some (.int z.1) ∧ u = z.2)) (XG E (fun En u => ∃ (z : Nat × PH) (n : Nat), r = .inr z ∧ En = exn z.1 ∧ hX z.2 ≤ n ∧ u = hbump z.2 n)) args s MC MS (pA E)) h 0 [(0, some (.ref v0)), (1, some (.int v1)), (2, some (.int v2))] [] := by
  have hm1 : lez h (xT2 r) (vT2 r) := mX11_common_b0 hf
  have hcm : uc ≤ MC := (by have o0 := hm1.1; have o1 := hM; have o2 := hu; (try simp only [hX_sI, hX_sR, hX_sL, hX_sD, hX_sIa, hX_sRa, hV_sI, hV_sR, hV_sL, hV_sD, hV_sIa, hV_sRa, hX_new, hV_new] at o0 o1 o2 ⊢); omega)
  have hsm : us ≤ MS := (by have o0 := hm1.2; have o1 := hN; have o2 := hv; (try simp only [hX_sI, hX_sR, hX_sL, hX_sD, hX_sIa, hX_sRa, hV_sI, hV_sR, hV_sL, hV_sD, hV_sIa, hV_sRa, hX_new, hV_new] at o0 o1 o2 ⊢); omega)
  clear hm1
  unfold fX11_common_b0 at hf
  refine p_aload_n X (dcg dc_X11_common 0 rfl) rfl rfl ?_
  refine p_iload_n X (dcg dc_X11_common 1 rfl) rfl rfl ?_
  obtain ⟨hk1, hf⟩ := gd_some hf
  obtain ⟨y3, hy3, h1y3, h2y3⟩ := bx_some hf
  have hc1 := mX11_demandText hy3
  rcases y3 with z2 | z2
  · have hf := h1y3 z2 rfl
    have hm1 : lez _ (xT2 r) (vT2 r) := mX11_common_b5 hf
    refine p_callVX (As := [_]) X hex ml_X11_119 (dcg dc_X11_common 2 rfl) rfl rfl hk1 (wX11_demandText hG hy3) (by decide) (room4 (Nat.le_of_ble_eq_true rfl)) (show uc + (hX z2.2 - hX h) ≤ MC from (by have o0 := hm1.1; have o1 := (show lez h (hX z2.2) (hV z2.2) from hc1).1; have o2 := hM; have o3 := hu; (try simp only [hX_sI, hX_sR, hX_sL, hX_sD, hX_sIa, hX_sRa, hV_sI, hV_sR, hV_sL, hV_sD, hV_sIa, hV_sRa, hX_new, hV_new] at o0 o1 o2 o3 ⊢); omega)) (show us + (hV z2.2 - hV h) ≤ MS from (by have o0 := hm1.2; have o1 := (show lez h (hX z2.2) (hV z2.2) from hc1).2; have o2 := hN; have o3 := hv; (try simp only [hX_sI, hX_sR, hX_sL, hX_sD, hX_sIa, hX_sRa, hV_sI, hV_sR, hV_sL, hV_sD, hV_sIa, hV_sRa, hX_new, hV_new] at o0 o1 o2 o3 ⊢); omega)) (show uc + (hX z2.2 - hX h) ≤ MC from (by have o0 := hm1.1; have o1 := (show lez h (hX z2.2) (hV z2.2) from hc1).1; have o2 := hM; have o3 := hu; (try simp only [hX_sI, hX_sR, hX_sL, hX_sD, hX_sIa, hX_sRa, hV_sI, hV_sR, hV_sL, hV_sD, hV_sIa, hV_sRa, hX_new, hV_new] at o0 o1 o2 o3 ⊢); omega)) (show us + (hV z2.2 - hV h) ≤ MS from (by have o0 := hm1.2; have o1 := (show lez h (hX z2.2) (hV z2.2) from hc1).2; have o2 := hN; have o3 := hv; (try simp only [hX_sI, hX_sR, hX_sL, hX_sD, hX_sIa, hX_sRa, hV_sI, hV_sR, hV_sL, hV_sD, hV_sIa, hV_sRa, hX_new, hV_new] at o0 o1 o2 o3 ⊢); omega)) (fun En u q => by obtain ⟨z9, n9, q9, _⟩ := q; cases q9) ?_
    rintro _ _ ⟨z9, hz9, rfl, rfl⟩
    cases hz9
    refine p_pick [0, 2] ?_
    exact wX11_common_b5 X hG hex hM hN (show uc + (hX z2.2 - hX h) + X0 = hX z2.2 from (by have o0 := (show lez h (hX z2.2) (hV z2.2) from hc1).1; have o1 := hu; (try simp only [hX_sI, hX_sR, hX_sL, hX_sD, hX_sIa, hX_sRa, hV_sI, hV_sR, hV_sL, hV_sD, hV_sIa, hV_sRa, hX_new, hV_new] at o0 o1 ⊢); omega)) (show us + (hV z2.2 - hV h) + V0 = hV z2.2 from (by have o0 := (show lez h (hX z2.2) (hV z2.2) from hc1).2; have o1 := hv; (try simp only [hX_sI, hX_sR, hX_sL, hX_sD, hX_sIa, hX_sRa, hV_sI, hV_sR, hV_sL, hV_sD, hV_sIa, hV_sRa, hX_new, hV_new] at o0 o1 ⊢); omega)) hf 
  · have hr9 := h2y3 z2 rfl
    subst hr9
    refine p_callVX (As := [_]) X hex ml_X11_119 (dcg dc_X11_common 2 rfl) rfl rfl hk1 (wX11_demandText hG hy3) (by decide) (room4 (Nat.le_of_ble_eq_true rfl)) (show uc + (hX z2.2 + 1 - hX h) ≤ MC from (by have o0 := (show lez h (hX z2.2 + 1) (hV z2.2 + 6) from hc1).1; have o1 := (show MC + X0 = hX z2.2 + 1 from hM); have o2 := hu; (try simp only [hX_sI, hX_sR, hX_sL, hX_sD, hX_sIa, hX_sRa, hV_sI, hV_sR, hV_sL, hV_sD, hV_sIa, hV_sRa, hX_new, hV_new] at o0 o1 o2 ⊢); omega)) (show us + (hV z2.2 + 6 - hV h) ≤ MS from (by have o0 := (show lez h (hX z2.2 + 1) (hV z2.2 + 6) from hc1).2; have o1 := (show MS + V0 = hV z2.2 + 6 from hN); have o2 := hv; (try simp only [hX_sI, hX_sR, hX_sL, hX_sD, hX_sIa, hX_sRa, hV_sI, hV_sR, hV_sL, hV_sD, hV_sIa, hV_sRa, hX_new, hV_new] at o0 o1 o2 ⊢); omega)) (show uc + (hX z2.2 + 1 - hX h) ≤ MC from (by have o0 := (show lez h (hX z2.2 + 1) (hV z2.2 + 6) from hc1).1; have o1 := (show MC + X0 = hX z2.2 + 1 from hM); have o2 := hu; (try simp only [hX_sI, hX_sR, hX_sL, hX_sD, hX_sIa, hX_sRa, hV_sI, hV_sR, hV_sL, hV_sD, hV_sIa, hV_sRa, hX_new, hV_new] at o0 o1 o2 ⊢); omega)) (show us + (hV z2.2 + 6 - hV h) ≤ MS from (by have o0 := (show lez h (hX z2.2 + 1) (hV z2.2 + 6) from hc1).2; have o1 := (show MS + V0 = hV z2.2 + 6 from hN); have o2 := hv; (try simp only [hX_sI, hX_sR, hX_sL, hX_sD, hX_sIa, hX_sRa, hV_sI, hV_sR, hV_sL, hV_sD, hV_sIa, hV_sRa, hX_new, hV_new] at o0 o1 o2 ⊢); omega)) (fun En u q => by obtain ⟨z9, n9, q9, q8⟩ := q; cases q9; exact ⟨_, n9, rfl, q8⟩) ?_
    rintro _ _ ⟨z9, hz9, _⟩
    cases hz9
noncomputable def fX11_common (v0 : Nat) (v1 : Int32) (v2 : Int32) (h : PH) : Option ((Int32 × PH) ⊕ (Nat × PH)) :=
  fX11_common_b0 v0 v1 v2 h
set_option maxRecDepth 100000 in
theorem mX11_common {v0 : Nat} {v1 : Int32} {v2 : Int32} {h : PH} {r : ((Int32 × PH) ⊕ (Nat × PH))} (hf : fX11_common v0 v1 v2 h = some r) : lez h (xT2 r) (vT2 r) := by
  unfold fX11_common at hf
  have hle := lez_rf h
  exact lez_rt (mX11_common_b0 hf) hle
set_option maxRecDepth 100000 in
theorem wX11_common {E : PE} {l : Launch} (hG : Gs E l) {v0 : Nat} {v1 : Int32} {v2 : Int32} {h : PH} {r : ((Int32 × PH) ⊕ (Nat × PH))} (hf : fX11_common v0 v1 v2 h = some r) : CtX E l 9 ((xT2 r) - hX h) ((vT2 r) - hV h) yX11_common cX11_common 5 (some .int) [.ref v0, .int v1, .int v2] h (fun v u => ∃ z, r = .inl z ∧ v = some (.int z.1) ∧ u = z.2) (fun En u => ∃ (z : Nat × PH) (n : Nat), r = .inr z ∧ En = exn z.1 ∧ hX z.2 ≤ n ∧ u = hbump z.2 n) := by
  have hmm := mX11_common hf
  refine ctx_of hG (by decide) (Nat.le_of_ble_eq_true rfl) ?_
  intro p e s m args below meth c X hex
  show PW E p l e _ s m args below meth c _ 0 0 _ h 0 [(0, some (.ref v0)), (1, some (.int v1)), (2, some (.int v2))] []
  unfold fX11_common at hf
  have hM := Nat.sub_add_cancel hmm.1
  have hN := Nat.sub_add_cancel hmm.2
  refine p_pick [0, 1, 2] ?_
  exact wX11_common_b0 X hG hex hM hN (Nat.zero_add _) (Nat.zero_add _) hf
theorem dc_X11_nearest : decs cX11_nearest [(0, .aload_n 0, 1), (1, .iload_n 1, 1), (2, .invokevirtual 119, 3), (5, .astore_n 2, 1), (6, .aload_n 2, 1), (7, .invokevirtual 313, 3), (10, .istore_n 3, 1), (11, .iconst (-1), 1), (12, .istore 4, 2), (14, .iconst 0, 1), (15, .istore 5, 2), (17, .iconst 1, 1), (18, .istore 6, 2), (20, .iconst 0, 1), (21, .istore 7, 2), (23, .iload 7, 2), (25, .bipush 100, 2), (27, .if_icmp .ge 87, 3), (30, .aload_n 0, 1), (31, .getfield 27, 3), (34, .iload 7, 2), (36, .aaload, 1), (37, .astore 8, 2), (39, .iload 7, 2), (41, .iload_n 1, 1), (42, .if_icmp .eq 66, 3), (45, .aload 8, 2), (47, .ifnonnull 6, 3), (50, .goto 58, 3), (53, .aload_n 2, 1), (54, .aload 8, 2), (56, .invokevirtual 316, 3), (59, .istore 9, 2), (61, .iload_n 3, 1), (62, .aload 8, 2), (64, .invokevirtual 313, 3), (67, .iadd, 1), (68, .iload 9, 2), (70, .isub, 1), (71, .istore 10, 2), (73, .iload 4, 2), (75, .iconst (-1), 1), (76, .if_icmp .eq 16, 3), (79, .iload 9, 2), (81, .iload 6, 2), (83, .imul, 1), (84, .iload 5, 2), (86, .iload 10, 2), (88, .imul, 1), (89, .if_icmp .le 19, 3), (92, .iload 7, 2), (94, .istore 4, 2), (96, .iload 9, 2), (98, .istore 5, 2), (100, .iload 10, 2), (102, .iconst 1, 1), (103, .invokestatic 163, 3), (106, .istore 6, 2), (108, .iinc 7 1, 3), (111, .goto (-88), 3), (114, .iload 4, 2), (116, .ireturn, 1)] = true := by decide +kernel
noncomputable def fX11_nearest_b108 (v0 : Nat) (v1 : Int32) (v2 : Option Nat) (v3 : Int32) (v4 : Int32) (v5 : Int32) (v6 : Int32) (v7 : Int32) (h : PH) : Option ((Int32 × Int32 × Int32 × Int32) ⊕ ((Int32 × PH) ⊕ (Nat × PH))) :=
  some (.inl (v4, v5, v6, (v7 + 1)))
set_option maxRecDepth 100000 in
theorem mX11_nearest_b108 {v0 : Nat} {v1 : Int32} {v2 : Option Nat} {v3 : Int32} {v4 : Int32} {v5 : Int32} {v6 : Int32} {v7 : Int32} {h : PH} {x : ((Int32 × Int32 × Int32 × Int32) ⊕ ((Int32 × PH) ⊕ (Nat × PH)))} (hf : fX11_nearest_b108 v0 v1 v2 v3 v4 v5 v6 v7 h = some x) : (∀ w9 : ((Int32 × PH) ⊕ (Nat × PH)), x = .inr w9 → lez h (xT2 w9) (vT2 w9)) := by
  unfold fX11_nearest_b108 at hf
  have hle := lez_rf h
  have ee := Option.some.inj hf; subst ee
  exact (fun z e => nomatch e)
set_option maxRecDepth 100000 in
theorem wX11_nearest_b108 {E : PE} {p : Program} {l : Launch} {e : Env} {s : State} {m : MethodId} {args : Array Value} {below : List Frame} {meth : Method} {c : Code} {X0 V0 MC MS uc us : Nat} (X : Cx E p l e (rmv 9 MC MS) s m args below meth c RX11 cX11_nearest 11 (some .int)) (hG : Gs E l) (hex : ∀ x ∈ c.exceptionTable.toList, False) {v0 : Nat} {v1 : Int32} {v2 : Option Nat} {v3 : Int32} {v4 : Int32} {v5 : Int32} {v6 : Int32} {v7 : Int32} {h : PH} {r : ((Int32 × PH) ⊕ (Nat × PH))} {x : ((Int32 × Int32 × Int32 × Int32) ⊕ ((Int32 × PH) ⊕ (Nat × PH)))} (hM : MC + X0 = (xT2 r)) (hN : MS + V0 = (vT2 r)) (hu : uc + X0 = hX h) (hv : us + V0 = hV h) (hf : fX11_nearest_b108 v0 v1 v2 v3 v4 v5 v6 v7 h = some x) (k0 : ∀ (z : (Int32 × Int32 × Int32 × Int32)) (uc us : Nat), x = .inl z → uc + X0 = hX h → us + V0 = hV h → PW E p l e (rmv 9 MC MS) s m args below meth c 11 uc us (vx_MQ below (QG E (fun v u => ∃ z, r = .inl z ∧ v = some (.int z.1) ∧ u = z.2)) (XG E (fun En u => ∃ (z : Nat × PH) (n : Nat), r = .inr z ∧ En = exn z.1 ∧ hX z.2 ≤ n ∧ u = hbump z.2 n)) args s MC MS (pA E)) h 23 [(0, some (.ref v0)), (1, some (.int v1)), (2, some (va_rf v2)), (3, some (.int v3)), (4, some (.int (z.1))), (5, some (.int (z.2.1))), (6, some (.int (z.2.2.1))), (7, some (.int (z.2.2.2)))] []) (kl0 : ∀ z : (Int32 × Int32 × Int32 × Int32), x = .inl z → lez h (xT2 r) (vT2 r)) (kf : ∀ z : ((Int32 × PH) ⊕ (Nat × PH)), x = .inr z → z = r) : PW E p l e (rmv 9 MC MS) s m args below meth c 11 uc us (vx_MQ below (QG E (fun v u => ∃ z, r = .inl z ∧ v = some (.int z.1) ∧ u = z.2)) (XG E (fun En u => ∃ (z : Nat × PH) (n : Nat), r = .inr z ∧ En = exn z.1 ∧ hX z.2 ≤ n ∧ u = hbump z.2 n)) args s MC MS (pA E)) h 108 [(0, some (.ref v0)), (1, some (.int v1)), (2, some (va_rf v2)), (3, some (.int v3)), (4, some (.int v4)), (5, some (.int v5)), (6, some (.int v6)), (7, some (.int v7))] [] := by
  have hm1 : lez h (xT2 r) (vT2 r) := by
    obtain cf := mX11_nearest_b108 hf
    rcases hxx : x with zz | zz
    · exact kl0 zz hxx
    · have ee := kf zz hxx; subst ee; exact cf zz hxx
  have hcm : uc ≤ MC := (by have o0 := hm1.1; have o1 := hM; have o2 := hu; (try simp only [hX_sI, hX_sR, hX_sL, hX_sD, hX_sIa, hX_sRa, hV_sI, hV_sR, hV_sL, hV_sD, hV_sIa, hV_sRa, hX_new, hV_new] at o0 o1 o2 ⊢); omega)
  have hsm : us ≤ MS := (by have o0 := hm1.2; have o1 := hN; have o2 := hv; (try simp only [hX_sI, hX_sR, hX_sL, hX_sD, hX_sIa, hX_sRa, hV_sI, hV_sR, hV_sL, hV_sD, hV_sIa, hV_sRa, hX_new, hV_new] at o0 o1 o2 ⊢); omega)
  clear hm1
  unfold fX11_nearest_b108 at hf
  refine p_iinc (v := 1) X (dcg dc_X11_nearest 58 rfl) rfl (by decide) (by decide) rfl ?_
  refine p_goto (tgt := 23) X (dcg dc_X11_nearest 59 rfl) (by decide) ?_
  refine p_pick [0, 1, 2, 3, 4, 5, 6, 7] ?_
  exact k0 _ _ _ (Option.some.inj hf).symm hu hv
noncomputable def fX11_nearest_b92 (v0 : Nat) (v1 : Int32) (v2 : Option Nat) (v3 : Int32) (v7 : Int32) (v9 : Int32) (v10 : Int32) (h : PH) : Option ((Int32 × Int32 × Int32 × Int32) ⊕ ((Int32 × PH) ⊕ (Nat × PH))) :=
  fX11_nearest_b108 v0 v1 v2 v3 v7 v9 (if v10 < (1 : Int32) then (1 : Int32) else v10) v7 h
set_option maxRecDepth 100000 in
theorem mX11_nearest_b92 {v0 : Nat} {v1 : Int32} {v2 : Option Nat} {v3 : Int32} {v7 : Int32} {v9 : Int32} {v10 : Int32} {h : PH} {x : ((Int32 × Int32 × Int32 × Int32) ⊕ ((Int32 × PH) ⊕ (Nat × PH)))} (hf : fX11_nearest_b92 v0 v1 v2 v3 v7 v9 v10 h = some x) : (∀ w9 : ((Int32 × PH) ⊕ (Nat × PH)), x = .inr w9 → lez h (xT2 w9) (vT2 w9)) := by
  unfold fX11_nearest_b92 at hf
  have hle := lez_rf h
  obtain cf := mX11_nearest_b108 hf
  exact fun z e => lez_rt (cf z (e)) hle
set_option maxRecDepth 100000 in
theorem wX11_nearest_b92 {E : PE} {p : Program} {l : Launch} {e : Env} {s : State} {m : MethodId} {args : Array Value} {below : List Frame} {meth : Method} {c : Code} {X0 V0 MC MS uc us : Nat} (X : Cx E p l e (rmv 9 MC MS) s m args below meth c RX11 cX11_nearest 11 (some .int)) (hG : Gs E l) (hex : ∀ x ∈ c.exceptionTable.toList, False) {v0 : Nat} {v1 : Int32} {v2 : Option Nat} {v3 : Int32} {v7 : Int32} {v9 : Int32} {v10 : Int32} {h : PH} {r : ((Int32 × PH) ⊕ (Nat × PH))} {x : ((Int32 × Int32 × Int32 × Int32) ⊕ ((Int32 × PH) ⊕ (Nat × PH)))} (hM : MC + X0 = (xT2 r)) (hN : MS + V0 = (vT2 r)) (hu : uc + X0 = hX h) (hv : us + V0 = hV h) (hf : fX11_nearest_b92 v0 v1 v2 v3 v7 v9 v10 h = some x) (k0 : ∀ (z : (Int32 × Int32 × Int32 × Int32)) (uc us : Nat), x = .inl z → uc + X0 = hX h → us + V0 = hV h → PW E p l e (rmv 9 MC MS) s m args below meth c 11 uc us (vx_MQ below (QG E (fun v u => ∃ z, r = .inl z ∧ v = some (.int z.1) ∧ u = z.2)) (XG E (fun En u => ∃ (z : Nat × PH) (n : Nat), r = .inr z ∧ En = exn z.1 ∧ hX z.2 ≤ n ∧ u = hbump z.2 n)) args s MC MS (pA E)) h 23 [(0, some (.ref v0)), (1, some (.int v1)), (2, some (va_rf v2)), (3, some (.int v3)), (4, some (.int (z.1))), (5, some (.int (z.2.1))), (6, some (.int (z.2.2.1))), (7, some (.int (z.2.2.2)))] []) (kl0 : ∀ z : (Int32 × Int32 × Int32 × Int32), x = .inl z → lez h (xT2 r) (vT2 r)) (kf : ∀ z : ((Int32 × PH) ⊕ (Nat × PH)), x = .inr z → z = r) : PW E p l e (rmv 9 MC MS) s m args below meth c 11 uc us (vx_MQ below (QG E (fun v u => ∃ z, r = .inl z ∧ v = some (.int z.1) ∧ u = z.2)) (XG E (fun En u => ∃ (z : Nat × PH) (n : Nat), r = .inr z ∧ En = exn z.1 ∧ hX z.2 ≤ n ∧ u = hbump z.2 n)) args s MC MS (pA E)) h 92 [(0, some (.ref v0)), (1, some (.int v1)), (2, some (va_rf v2)), (3, some (.int v3)), (7, some (.int v7)), (9, some (.int v9)), (10, some (.int v10))] [] := by
  have hm1 : lez h (xT2 r) (vT2 r) := by
    obtain cf := mX11_nearest_b92 hf
    rcases hxx : x with zz | zz
    · exact kl0 zz hxx
    · have ee := kf zz hxx; subst ee; exact cf zz hxx
  have hcm : uc ≤ MC := (by have o0 := hm1.1; have o1 := hM; have o2 := hu; (try simp only [hX_sI, hX_sR, hX_sL, hX_sD, hX_sIa, hX_sRa, hV_sI, hV_sR, hV_sL, hV_sD, hV_sIa, hV_sRa, hX_new, hV_new] at o0 o1 o2 ⊢); omega)
  have hsm : us ≤ MS := (by have o0 := hm1.2; have o1 := hN; have o2 := hv; (try simp only [hX_sI, hX_sR, hX_sL, hX_sD, hX_sIa, hX_sRa, hV_sI, hV_sR, hV_sL, hV_sD, hV_sIa, hV_sRa, hX_new, hV_new] at o0 o1 o2 ⊢); omega)
  clear hm1
  unfold fX11_nearest_b92 at hf
  refine p_iload X (dcg dc_X11_nearest 50 rfl) rfl ?_
  refine p_istore X (dcg dc_X11_nearest 51 rfl) (by decide) rfl ?_
  refine p_iload X (dcg dc_X11_nearest 52 rfl) rfl ?_
  refine p_istore X (dcg dc_X11_nearest 53 rfl) (by decide) rfl ?_
  refine p_iload X (dcg dc_X11_nearest 54 rfl) rfl ?_
  refine p_iconst (v := 1) X (dcg dc_X11_nearest 55 rfl) (by decide) ?_
  refine p_mmax X tw_999 tw_445 tw_123 tw_446 (dcg dc_X11_nearest 56 rfl) (Nat.le_of_ble_eq_true rfl) (Nat.le_trans (Nat.add_le_add_right (room4 (Nat.le_of_ble_eq_true rfl)) 13) (Nat.le_of_ble_eq_true rfl)) hcm hsm (fun ls hl => X.2.2.1.trans hl.1.symm) ?_
  refine p_istore X (dcg dc_X11_nearest 57 rfl) (by decide) rfl ?_
  refine p_pick [0, 1, 2, 3, 4, 5, 6, 7] ?_
  exact wX11_nearest_b108 X hG hex hM hN hu hv hf k0 kl0 kf
noncomputable def fX11_nearest_c23 (v0 : Nat) (v1 : Int32) (v2 : Option Nat) (v3 : Int32) (v4 : Int32) (v5 : Int32) (v6 : Int32) (v7 : Int32) (h : PH) : Option ((Int32 × Int32 × Int32 × Int32) ⊕ ((Int32 × PH) ⊕ (Nat × PH))) :=
  if ((100 : Int32) ≤ v7) then (mr (some (.inl ((v4, h))))) else
  gd (hK h v0 = 11) (gs (hR h 11 v0 2) (fun a11 =>
  gd (hK h a11 = 26 ∧ inb v7 (hN h a11)) (if (v7 = v1) then (fX11_nearest_b108 v0 v1 v2 v3 v4 v5 v6 v7 h) else
  mq (hR h 26 a11 (Int32.toNatClampNeg v7)) (fX11_nearest_b108 v0 v1 v2 v3 v4 v5 v6 v7 h) (fun a15 =>
  gs v2 (fun a16 =>
  gd (hK h a16 = 8) (bd (fX8_countCommon a16 (some a15) h) (fun z19 =>
  gd (hK h a15 = 8) (bd (fX8_countUnlike a15 h) (fun z21 =>
  if (v4 = (-1 : Int32)) then (fX11_nearest_b92 v0 v1 (some a16) v3 v7 z19 ((v3 + z21) - z19) h) else
  if ((z19 * v6) ≤ (v5 * ((v3 + z21) - z19))) then (fX11_nearest_b108 v0 v1 (some a16) v3 v4 v5 v6 v7 h) else
  fX11_nearest_b92 v0 v1 (some a16) v3 v7 z19 ((v3 + z21) - z19) h)))))))))
set_option maxRecDepth 100000 in
theorem mX11_nearest_c23 {v0 : Nat} {v1 : Int32} {v2 : Option Nat} {v3 : Int32} {v4 : Int32} {v5 : Int32} {v6 : Int32} {v7 : Int32} {h : PH} {x : ((Int32 × Int32 × Int32 × Int32) ⊕ ((Int32 × PH) ⊕ (Nat × PH)))} (hf : fX11_nearest_c23 v0 v1 v2 v3 v4 v5 v6 v7 h = some x) : (∀ w9 : ((Int32 × PH) ⊕ (Nat × PH)), x = .inr w9 → lez h (xT2 w9) (vT2 w9)) := by
  unfold fX11_nearest_c23 at hf
  have hle := lez_rf h
  rcases ite_or hf with ⟨q, hf⟩ | ⟨q, hf⟩
  · have hf := if_t q hf
    obtain ⟨y8, hfm, rfl⟩ := mr_some hf; have hf := hfm; clear hfm
    have ee := Option.some.inj hf; subst ee
    exact (fun z e => by have ee := Sum.inr.inj (e); subst ee; exact hle)
  · have hf := if_f q hf
    obtain ⟨hk10, hf⟩ := gd_some hf
    obtain ⟨a11, e12, hf⟩ := gs_some hf
    obtain ⟨⟨hk14, hb13⟩, hf⟩ := gd_some hf
    rcases ite_or hf with ⟨q, hf⟩ | ⟨q, hf⟩
    · have hf := if_t q hf
      obtain cf := mX11_nearest_b108 hf
      exact fun z e => lez_rt (cf z (e)) hle
    · have hf := if_f q hf
      rcases mq_or hf with ⟨q, hf⟩ | ⟨a15, q, hf⟩
      · have hf := mq_n q hf
        obtain cf := mX11_nearest_b108 hf
        exact fun z e => lez_rt (cf z (e)) hle
      · have hk22 := mq_s q hf
        first | subst q | skip
        have hf := hk22
        obtain ⟨a16, e17, hf⟩ := gs_some hf
        obtain ⟨hk18, hf⟩ := gd_some hf
        obtain ⟨z19, hz19, hf⟩ := bd_some hf
        obtain ⟨hk20, hf⟩ := gd_some hf
        obtain ⟨z21, hz21, hf⟩ := bd_some hf
        rcases ite_or hf with ⟨q, hf⟩ | ⟨q, hf⟩
        · have hf := if_t q hf
          obtain cf := mX11_nearest_b92 hf
          exact fun z e => lez_rt (cf z (e)) hle
        · have hf := if_f q hf
          rcases ite_or hf with ⟨q, hf⟩ | ⟨q, hf⟩
          · have hf := if_t q hf
            obtain cf := mX11_nearest_b108 hf
            exact fun z e => lez_rt (cf z (e)) hle
          · have hf := if_f q hf
            obtain cf := mX11_nearest_b92 hf
            exact fun z e => lez_rt (cf z (e)) hle
set_option maxRecDepth 100000 in
theorem wX11_nearest_c23 {E : PE} {p : Program} {l : Launch} {e : Env} {s : State} {m : MethodId} {args : Array Value} {below : List Frame} {meth : Method} {c : Code} {X0 V0 MC MS uc us : Nat} (X : Cx E p l e (rmv 9 MC MS) s m args below meth c RX11 cX11_nearest 11 (some .int)) (hG : Gs E l) (hex : ∀ x ∈ c.exceptionTable.toList, False) {v0 : Nat} {v1 : Int32} {v2 : Option Nat} {v3 : Int32} {v4 : Int32} {v5 : Int32} {v6 : Int32} {v7 : Int32} {h : PH} {r : ((Int32 × PH) ⊕ (Nat × PH))} {x : ((Int32 × Int32 × Int32 × Int32) ⊕ ((Int32 × PH) ⊕ (Nat × PH)))} (hM : MC + X0 = (xT2 r)) (hN : MS + V0 = (vT2 r)) (hu : uc + X0 = hX h) (hv : us + V0 = hV h) (hf : fX11_nearest_c23 v0 v1 v2 v3 v4 v5 v6 v7 h = some x) (k0 : ∀ (z : (Int32 × Int32 × Int32 × Int32)) (uc us : Nat), x = .inl z → uc + X0 = hX h → us + V0 = hV h → PW E p l e (rmv 9 MC MS) s m args below meth c 11 uc us (vx_MQ below (QG E (fun v u => ∃ z, r = .inl z ∧ v = some (.int z.1) ∧ u = z.2)) (XG E (fun En u => ∃ (z : Nat × PH) (n : Nat), r = .inr z ∧ En = exn z.1 ∧ hX z.2 ≤ n ∧ u = hbump z.2 n)) args s MC MS (pA E)) h 23 [(0, some (.ref v0)), (1, some (.int v1)), (2, some (va_rf v2)), (3, some (.int v3)), (4, some (.int (z.1))), (5, some (.int (z.2.1))), (6, some (.int (z.2.2.1))), (7, some (.int (z.2.2.2)))] []) (kl0 : ∀ z : (Int32 × Int32 × Int32 × Int32), x = .inl z → lez h (xT2 r) (vT2 r)) (kf : ∀ z : ((Int32 × PH) ⊕ (Nat × PH)), x = .inr z → z = r) : PW E p l e (rmv 9 MC MS) s m args below meth c 11 uc us (vx_MQ below (QG E (fun v u => ∃ z, r = .inl z ∧ v = some (.int z.1) ∧ u = z.2)) (XG E (fun En u => ∃ (z : Nat × PH) (n : Nat), r = .inr z ∧ En = exn z.1 ∧ hX z.2 ≤ n ∧ u = hbump z.2 n)) args s MC MS (pA E)) h 23 [(0, some (.ref v0)), (1, some (.int v1)), (2, some (va_rf v2)), (3, some (.int v3)), (4, some (.int v4)), (5, some (.int v5)), (6, some (.int v6)), (7, some (.int v7))] [] := by
  have hm1 : lez h (xT2 r) (vT2 r) := by
    obtain cf := mX11_nearest_c23 hf
    rcases hxx : x with zz | zz
    · exact kl0 zz hxx
    · have ee := kf zz hxx; subst ee; exact cf zz hxx
  have hcm : uc ≤ MC := (by have o0 := hm1.1; have o1 := hM; have o2 := hu; (try simp only [hX_sI, hX_sR, hX_sL, hX_sD, hX_sIa, hX_sRa, hV_sI, hV_sR, hV_sL, hV_sD, hV_sIa, hV_sRa, hX_new, hV_new] at o0 o1 o2 ⊢); omega)
  have hsm : us ≤ MS := (by have o0 := hm1.2; have o1 := hN; have o2 := hv; (try simp only [hX_sI, hX_sR, hX_sL, hX_sD, hX_sIa, hX_sRa, hV_sI, hV_sR, hV_sL, hV_sD, hV_sIa, hV_sRa, hX_new, hV_new] at o0 o1 o2 ⊢); omega)
  clear hm1
  unfold fX11_nearest_c23 at hf
  refine p_iload X (dcg dc_X11_nearest 15 rfl) rfl ?_
  refine p_bipush (v := 100) X (dcg dc_X11_nearest 16 rfl) (by decide) ?_
  refine p_icmp_ge (tgt := 114) X (dcg dc_X11_nearest 17 rfl) (by decide) (fun q => ?_) (fun q => ?_)
  · have hf := if_t q hf
    obtain ⟨y8, hf, hy9⟩ := mr_some hf
    have hy9f := kf y8 hy9
    subst hy9f
    refine p_iload X (dcg dc_X11_nearest 60 rfl) rfl ?_
    have er := Option.some.inj hf
    subst er
    refine p_vx ?_
    exact p_iret X rfl (dcg dc_X11_nearest 61 rfl) ⟨_, rfl, rfl, rfl⟩ hcm hsm
  · have hf := if_f q hf
    refine p_aload_n X (dcg dc_X11_nearest 18 rfl) rfl rfl ?_
    obtain ⟨hk10, hf⟩ := gd_some hf
    refine p_getR X fl_X11_27 rfl (by decide) (dcg dc_X11_nearest 19 rfl) hk10 ?_
    refine p_iload X (dcg dc_X11_nearest 20 rfl) rfl ?_
    obtain ⟨a11, e12, hf⟩ := gs_some hf
    first | subst e12 | (try rw [e12])
    obtain ⟨⟨hk14, hb13⟩, hf⟩ := gd_some hf
    refine p_aald26 X (dcg dc_X11_nearest 21 rfl) hk14 (vp_of_inb hb13) ?_
    refine p_astoreq X (dcg dc_X11_nearest 22 rfl) (by decide) rfl ?_
    refine p_iload X (dcg dc_X11_nearest 23 rfl) rfl ?_
    refine p_iload_n X (dcg dc_X11_nearest 24 rfl) rfl rfl ?_
    refine p_icmp_eq (tgt := 108) X (dcg dc_X11_nearest 25 rfl) (by decide) (fun q => ?_) (fun q => ?_)
    · have hf := if_t q hf
      refine p_pick [0, 1, 2, 3, 4, 5, 6, 7] ?_
      exact wX11_nearest_b108 X hG hex hM hN hu hv hf k0 kl0 kf
    · have hf := if_f q hf
      refine p_aloadq X (dcg dc_X11_nearest 26 rfl) rfl ?_
      refine p_ifnonnull (tgt := 53) X (dcg dc_X11_nearest 27 rfl) (by decide) (fun a15 q => ?_) (fun q => ?_)
      · have hk22 := mq_s q hf
        first | subst q | (try rw [q])
        have hf := hk22
        refine p_aloadq_n X (dcg dc_X11_nearest 29 rfl) rfl rfl ?_
        refine p_aload X (dcg dc_X11_nearest 30 rfl) rfl ?_
        obtain ⟨a16, e17, hf⟩ := gs_some hf
        first | subst e17 | (try rw [e17])
        obtain ⟨hk18, hf⟩ := gd_some hf
        obtain ⟨z19, hz19, hf⟩ := bd_some hf
        refine p_callV (As := [va_rf (some _)]) X ml_X11_316 (dcg dc_X11_nearest 31 rfl) rfl rfl hk18 (wX8_countCommon hG hz19) (by decide) (room4 (Nat.le_of_ble_eq_true rfl)) hcm hsm ?_
        rintro _ u9 ⟨rfl, e9⟩; have e9 := e9.symm; subst e9
        refine p_istore X (dcg dc_X11_nearest 32 rfl) (by decide) rfl ?_
        refine p_iload_n X (dcg dc_X11_nearest 33 rfl) rfl rfl ?_
        refine p_aload X (dcg dc_X11_nearest 34 rfl) rfl ?_
        obtain ⟨hk20, hf⟩ := gd_some hf
        obtain ⟨z21, hz21, hf⟩ := bd_some hf
        refine p_callV (As := []) X ml_X11_313 (dcg dc_X11_nearest 35 rfl) rfl rfl hk20 (wX8_countUnlike hG hz21) (by decide) (room4 (Nat.le_of_ble_eq_true rfl)) hcm hsm ?_
        rintro _ u9 ⟨rfl, e9⟩; have e9 := e9.symm; subst e9
        refine p_iadd X (dcg dc_X11_nearest 36 rfl) ?_
        refine p_iload X (dcg dc_X11_nearest 37 rfl) rfl ?_
        refine p_isub X (dcg dc_X11_nearest 38 rfl) ?_
        refine p_istore X (dcg dc_X11_nearest 39 rfl) (by decide) rfl ?_
        refine p_iload X (dcg dc_X11_nearest 40 rfl) rfl ?_
        refine p_iconst (v := -1) X (dcg dc_X11_nearest 41 rfl) (by decide) ?_
        refine p_icmp_eq (tgt := 92) X (dcg dc_X11_nearest 42 rfl) (by decide) (fun q => ?_) (fun q => ?_)
        · have hf := if_t q hf
          refine p_pick [0, 1, 2, 3, 7, 9, 10] ?_
          exact wX11_nearest_b92 X hG hex hM hN hu hv hf k0 kl0 kf
        · have hf := if_f q hf
          refine p_iload X (dcg dc_X11_nearest 43 rfl) rfl ?_
          refine p_iload X (dcg dc_X11_nearest 44 rfl) rfl ?_
          refine p_imul X (dcg dc_X11_nearest 45 rfl) ?_
          refine p_iload X (dcg dc_X11_nearest 46 rfl) rfl ?_
          refine p_iload X (dcg dc_X11_nearest 47 rfl) rfl ?_
          refine p_imul X (dcg dc_X11_nearest 48 rfl) ?_
          refine p_icmp_le (tgt := 108) X (dcg dc_X11_nearest 49 rfl) (by decide) (fun q => ?_) (fun q => ?_)
          · have hf := if_t q hf
            refine p_pick [0, 1, 2, 3, 4, 5, 6, 7] ?_
            exact wX11_nearest_b108 X hG hex hM hN hu hv hf k0 kl0 kf
          · have hf := if_f q hf
            refine p_pick [0, 1, 2, 3, 7, 9, 10] ?_
            exact wX11_nearest_b92 X hG hex hM hN hu hv hf k0 kl0 kf
      · have hk22 := mq_n q hf
        first | subst q | (try rw [q])
        have hf := hk22
        refine p_goto (tgt := 108) X (dcg dc_X11_nearest 28 rfl) (by decide) ?_
        refine p_pick [0, 1, 2, 3, 4, 5, 6, 7] ?_
        exact wX11_nearest_b108 X hG hex hM hN hu hv hf k0 kl0 kf
noncomputable def fX11_nearest_l23 (v0 : Nat) (v1 : Int32) (v2 : Option Nat) (v3 : Int32) (v4 : Int32) (v5 : Int32) (v6 : Int32) (v7 : Int32) (h : PH) : Option ((Int32 × PH) ⊕ (Nat × PH)) := wh (fun z : (Int32 × Int32 × Int32 × Int32) => fX11_nearest_c23 v0 v1 v2 v3 (z.1) (z.2.1) (z.2.2.1) (z.2.2.2) h) (v4, v5, v6, v7)
set_option maxRecDepth 100000 in
theorem mX11_nearest_l23 {v0 : Nat} {v1 : Int32} {v2 : Option Nat} {v3 : Int32} {v4 : Int32} {v5 : Int32} {v6 : Int32} {v7 : Int32} {h : PH} {r : ((Int32 × PH) ⊕ (Nat × PH))} (hf : fX11_nearest_l23 v0 v1 v2 v3 v4 v5 v6 v7 h = some r) : lez h (xT2 r) (vT2 r) := by
  unfold fX11_nearest_l23 at hf
  refine wh_ind (P := fun z => lez h (xT2 r) (vT2 r)) (fun z x0 hs i1 i2 => ?_) _ hf
  obtain cf := mX11_nearest_c23 (v0 := v0) (v1 := v1) (v2 := v2) (v3 := v3) (v4 := z.1) (v5 := z.2.1) (v6 := z.2.2.1) (v7 := z.2.2.2) (h := h) hs
  rcases hxx : x0 with zz | zz
  · exact (i1 zz hxx)
  · have ee := i2 zz hxx; subst ee; exact cf zz hxx
set_option maxRecDepth 100000 in
theorem wX11_nearest_l23 {E : PE} {p : Program} {l : Launch} {e : Env} {s : State} {m : MethodId} {args : Array Value} {below : List Frame} {meth : Method} {c : Code} {X0 V0 MC MS uc us : Nat} (X : Cx E p l e (rmv 9 MC MS) s m args below meth c RX11 cX11_nearest 11 (some .int)) (hG : Gs E l) (hex : ∀ x ∈ c.exceptionTable.toList, False) {v0 : Nat} {v1 : Int32} {v2 : Option Nat} {v3 : Int32} {v4 : Int32} {v5 : Int32} {v6 : Int32} {v7 : Int32} {h : PH} {r : ((Int32 × PH) ⊕ (Nat × PH))} (hM : MC + X0 = (xT2 r)) (hN : MS + V0 = (vT2 r)) (hu : uc + X0 = hX h) (hv : us + V0 = hV h) (hf : fX11_nearest_l23 v0 v1 v2 v3 v4 v5 v6 v7 h = some r)  : PW E p l e (rmv 9 MC MS) s m args below meth c 11 uc us (vx_MQ below (QG E (fun v u => ∃ z, r = .inl z ∧ v = some (.int z.1) ∧ u = z.2)) (XG E (fun En u => ∃ (z : Nat × PH) (n : Nat), r = .inr z ∧ En = exn z.1 ∧ hX z.2 ≤ n ∧ u = hbump z.2 n)) args s MC MS (pA E)) h 23 [(0, some (.ref v0)), (1, some (.int v1)), (2, some (va_rf v2)), (3, some (.int v3)), (4, some (.int v4)), (5, some (.int v5)), (6, some (.int v6)), (7, some (.int v7))] [] := by
  unfold fX11_nearest_l23 at hf
  refine wh_ind2 (P := fun z => ∀ uc us : Nat, uc + X0 = hX h → us + V0 = hV h → PW E p l e (rmv 9 MC MS) s m args below meth c 11 uc us (vx_MQ below (QG E (fun v u => ∃ z, r = .inl z ∧ v = some (.int z.1) ∧ u = z.2)) (XG E (fun En u => ∃ (z : Nat × PH) (n : Nat), r = .inr z ∧ En = exn z.1 ∧ hX z.2 ≤ n ∧ u = hbump z.2 n)) args s MC MS (pA E)) h 23 [(0, some (.ref v0)), (1, some (.int v1)), (2, some (va_rf v2)), (3, some (.int v3)), (4, some (.int (z.1))), (5, some (.int (z.2.1))), (6, some (.int (z.2.2.1))), (7, some (.int (z.2.2.2)))] []) (fun z x0 hs i1 i2 uc us hu hv => ?_) _ hf uc us hu hv
  exact wX11_nearest_c23 (r := r) (v0 := v0) (v1 := v1) (v2 := v2) (v3 := v3) (v4 := z.1) (v5 := z.2.1) (v6 := z.2.2.1) (v7 := z.2.2.2) (h := h) X hG hex hM hN hu hv hs (fun z1 uc1 us1 e1 e2 e3 => (i1 z1 e1).1 uc1 us1 e2 e3) (fun z1 e1 => mX11_nearest_l23 (v0 := v0) (v1 := v1) (v2 := v2) (v3 := v3) (v4 := z1.1) (v5 := z1.2.1) (v6 := z1.2.2.1) (v7 := z1.2.2.2) (h := h) (by unfold fX11_nearest_l23; exact (i1 z1 e1).2))  i2
noncomputable def fX11_nearest_b5 (v0 : Nat) (v1 : Int32) (t0 : Option Nat) (h : PH) : Option ((Int32 × PH) ⊕ (Nat × PH)) :=
  gs t0 (fun a4 =>
  gd (hK h a4 = 8) (bd (fX8_countUnlike a4 h) (fun z7 =>
  fX11_nearest_l23 v0 v1 (some a4) z7 (-1 : Int32) (0 : Int32) (1 : Int32) (0 : Int32) h)))
set_option maxRecDepth 100000 in
theorem mX11_nearest_b5 {v0 : Nat} {v1 : Int32} {t0 : Option Nat} {h : PH} {r : ((Int32 × PH) ⊕ (Nat × PH))} (hf : fX11_nearest_b5 v0 v1 t0 h = some r) : lez h (xT2 r) (vT2 r) := by
  unfold fX11_nearest_b5 at hf
  have hle := lez_rf h
  obtain ⟨a4, e5, hf⟩ := gs_some hf
  obtain ⟨hk6, hf⟩ := gd_some hf
  obtain ⟨z7, hz7, hf⟩ := bd_some hf
  exact lez_rt (mX11_nearest_l23 hf) hle
set_option maxRecDepth 100000 in
theorem wX11_nearest_b5 {E : PE} {p : Program} {l : Launch} {e : Env} {s : State} {m : MethodId} {args : Array Value} {below : List Frame} {meth : Method} {c : Code} {X0 V0 MC MS uc us : Nat} (X : Cx E p l e (rmv 9 MC MS) s m args below meth c RX11 cX11_nearest 11 (some .int)) (hG : Gs E l) (hex : ∀ x ∈ c.exceptionTable.toList, False) {v0 : Nat} {v1 : Int32} {t0 : Option Nat} {h : PH} {r : ((Int32 × PH) ⊕ (Nat × PH))} (hM : MC + X0 = (xT2 r)) (hN : MS + V0 = (vT2 r)) (hu : uc + X0 = hX h) (hv : us + V0 = hV h) (hf : fX11_nearest_b5 v0 v1 t0 h = some r)  : PW E p l e (rmv 9 MC MS) s m args below meth c 11 uc us (vx_MQ below (QG E (fun v u => ∃ z, r = .inl z ∧ v = some (.int z.1) ∧ u = z.2)) (XG E (fun En u => ∃ (z : Nat × PH) (n : Nat), r = .inr z ∧ En = exn z.1 ∧ hX z.2 ≤ n ∧ u = hbump z.2 n)) args s MC MS (pA E)) h 5 [(0, some (.ref v0)), (1, some (.int v1))] [va_rf t0] := by
  have hm1 : lez h (xT2 r) (vT2 r) := mX11_nearest_b5 hf
  have hcm : uc ≤ MC := (by have o0 := hm1.1; have o1 := hM; have o2 := hu; (try simp only [hX_sI, hX_sR, hX_sL, hX_sD, hX_sIa, hX_sRa, hV_sI, hV_sR, hV_sL, hV_sD, hV_sIa, hV_sRa, hX_new, hV_new] at o0 o1 o2 ⊢); omega)
  have hsm : us ≤ MS := (by have o0 := hm1.2; have o1 := hN; have o2 := hv; (try simp only [hX_sI, hX_sR, hX_sL, hX_sD, hX_sIa, hX_sRa, hV_sI, hV_sR, hV_sL, hV_sD, hV_sIa, hV_sRa, hX_new, hV_new] at o0 o1 o2 ⊢); omega)
  clear hm1
  unfold fX11_nearest_b5 at hf
  refine p_astoreq_n X (dcg dc_X11_nearest 3 rfl) rfl (by decide) rfl ?_
  refine p_aloadq_n X (dcg dc_X11_nearest 4 rfl) rfl rfl ?_
  obtain ⟨a4, e5, hf⟩ := gs_some hf
  first | subst e5 | (try rw [e5])
  obtain ⟨hk6, hf⟩ := gd_some hf
  obtain ⟨z7, hz7, hf⟩ := bd_some hf
  refine p_callV (As := []) X ml_X11_313 (dcg dc_X11_nearest 5 rfl) rfl rfl hk6 (wX8_countUnlike hG hz7) (by decide) (room4 (Nat.le_of_ble_eq_true rfl)) hcm hsm ?_
  rintro _ u9 ⟨rfl, e9⟩; have e9 := e9.symm; subst e9
  refine p_istore_n X (dcg dc_X11_nearest 6 rfl) rfl (by decide) rfl ?_
  refine p_iconst (v := -1) X (dcg dc_X11_nearest 7 rfl) (by decide) ?_
  refine p_istore X (dcg dc_X11_nearest 8 rfl) (by decide) rfl ?_
  refine p_iconst (v := 0) X (dcg dc_X11_nearest 9 rfl) (by decide) ?_
  refine p_istore X (dcg dc_X11_nearest 10 rfl) (by decide) rfl ?_
  refine p_iconst (v := 1) X (dcg dc_X11_nearest 11 rfl) (by decide) ?_
  refine p_istore X (dcg dc_X11_nearest 12 rfl) (by decide) rfl ?_
  refine p_iconst (v := 0) X (dcg dc_X11_nearest 13 rfl) (by decide) ?_
  refine p_istore X (dcg dc_X11_nearest 14 rfl) (by decide) rfl ?_
  refine p_pick [0, 1, 2, 3, 4, 5, 6, 7] ?_
  exact wX11_nearest_l23 X hG hex hM hN hu hv hf 
noncomputable def fX11_nearest_b0 (v0 : Nat) (v1 : Int32) (h : PH) : Option ((Int32 × PH) ⊕ (Nat × PH)) :=
  gd (hK h v0 = 11) (bx (fX11_demandText v0 v1 h) (fun z2 =>
  fX11_nearest_b5 v0 v1 z2.1 z2.2))
set_option maxRecDepth 100000 in
theorem mX11_nearest_b0 {v0 : Nat} {v1 : Int32} {h : PH} {r : ((Int32 × PH) ⊕ (Nat × PH))} (hf : fX11_nearest_b0 v0 v1 h = some r) : lez h (xT2 r) (vT2 r) := by
  unfold fX11_nearest_b0 at hf
  have hle := lez_rf h
  obtain ⟨hk1, hf⟩ := gd_some hf
  obtain ⟨y3, hy3, h1y3, h2y3⟩ := bx_some hf
  have hc1 := mX11_demandText hy3
  rcases y3 with z2 | z2
  · have hf := h1y3 z2 rfl
    have hle : lez h (hX z2.2) (hV z2.2) := lez_rt hc1 hle
    exact lez_rt (mX11_nearest_b5 hf) hle
  · have hr9 := h2y3 z2 rfl
    subst hr9
    exact lez_rt hc1 hle
set_option maxRecDepth 100000 in
theorem wX11_nearest_b0 {E : PE} {p : Program} {l : Launch} {e : Env} {s : State} {m : MethodId} {args : Array Value} {below : List Frame} {meth : Method} {c : Code} {X0 V0 MC MS uc us : Nat} (X : Cx E p l e (rmv 9 MC MS) s m args below meth c RX11 cX11_nearest 11 (some .int)) (hG : Gs E l) (hex : ∀ x ∈ c.exceptionTable.toList, False) {v0 : Nat} {v1 : Int32} {h : PH} {r : ((Int32 × PH) ⊕ (Nat × PH))} (hM : MC + X0 = (xT2 r)) (hN : MS + V0 = (vT2 r)) (hu : uc + X0 = hX h) (hv : us + V0 = hV h) (hf : fX11_nearest_b0 v0 v1 h = some r)  : PW E p l e (rmv 9 MC MS) s m args below meth c 11 uc us (vx_MQ below (QG E (fun v u => ∃ z, r = .inl z ∧ v = some (.int z.1) ∧ u = z.2)) (XG E (fun En u => ∃ (z : Nat × PH) (n : Nat), r = .inr z ∧ En = exn z.1 ∧ hX z.2 ≤ n ∧ u = hbump z.2 n)) args s MC MS (pA E)) h 0 [(0, some (.ref v0)), (1, some (.int v1))] [] := by
  have hm1 : lez h (xT2 r) (vT2 r) := mX11_nearest_b0 hf
  have hcm : uc ≤ MC := (by have o0 := hm1.1; have o1 := hM; have o2 := hu; (try simp only [hX_sI, hX_sR, hX_sL, hX_sD, hX_sIa, hX_sRa, hV_sI, hV_sR, hV_sL, hV_sD, hV_sIa, hV_sRa, hX_new, hV_new] at o0 o1 o2 ⊢); omega)
  have hsm : us ≤ MS := (by have o0 := hm1.2; have o1 := hN; have o2 := hv; (try simp only [hX_sI, hX_sR, hX_sL, hX_sD, hX_sIa, hX_sRa, hV_sI, hV_sR, hV_sL, hV_sD, hV_sIa, hV_sRa, hX_new, hV_new] at o0 o1 o2 ⊢); omega)
  clear hm1
  unfold fX11_nearest_b0 at hf
  refine p_aload_n X (dcg dc_X11_nearest 0 rfl) rfl rfl ?_
  refine p_iload_n X (dcg dc_X11_nearest 1 rfl) rfl rfl ?_
  obtain ⟨hk1, hf⟩ := gd_some hf
  obtain ⟨y3, hy3, h1y3, h2y3⟩ := bx_some hf
  have hc1 := mX11_demandText hy3
  rcases y3 with z2 | z2
  · have hf := h1y3 z2 rfl
    have hm1 : lez _ (xT2 r) (vT2 r) := mX11_nearest_b5 hf
    refine p_callVX (As := [_]) X hex ml_X11_119 (dcg dc_X11_nearest 2 rfl) rfl rfl hk1 (wX11_demandText hG hy3) (by decide) (room4 (Nat.le_of_ble_eq_true rfl)) (show uc + (hX z2.2 - hX h) ≤ MC from (by have o0 := hm1.1; have o1 := (show lez h (hX z2.2) (hV z2.2) from hc1).1; have o2 := hM; have o3 := hu; (try simp only [hX_sI, hX_sR, hX_sL, hX_sD, hX_sIa, hX_sRa, hV_sI, hV_sR, hV_sL, hV_sD, hV_sIa, hV_sRa, hX_new, hV_new] at o0 o1 o2 o3 ⊢); omega)) (show us + (hV z2.2 - hV h) ≤ MS from (by have o0 := hm1.2; have o1 := (show lez h (hX z2.2) (hV z2.2) from hc1).2; have o2 := hN; have o3 := hv; (try simp only [hX_sI, hX_sR, hX_sL, hX_sD, hX_sIa, hX_sRa, hV_sI, hV_sR, hV_sL, hV_sD, hV_sIa, hV_sRa, hX_new, hV_new] at o0 o1 o2 o3 ⊢); omega)) (show uc + (hX z2.2 - hX h) ≤ MC from (by have o0 := hm1.1; have o1 := (show lez h (hX z2.2) (hV z2.2) from hc1).1; have o2 := hM; have o3 := hu; (try simp only [hX_sI, hX_sR, hX_sL, hX_sD, hX_sIa, hX_sRa, hV_sI, hV_sR, hV_sL, hV_sD, hV_sIa, hV_sRa, hX_new, hV_new] at o0 o1 o2 o3 ⊢); omega)) (show us + (hV z2.2 - hV h) ≤ MS from (by have o0 := hm1.2; have o1 := (show lez h (hX z2.2) (hV z2.2) from hc1).2; have o2 := hN; have o3 := hv; (try simp only [hX_sI, hX_sR, hX_sL, hX_sD, hX_sIa, hX_sRa, hV_sI, hV_sR, hV_sL, hV_sD, hV_sIa, hV_sRa, hX_new, hV_new] at o0 o1 o2 o3 ⊢); omega)) (fun En u q => by obtain ⟨z9, n9, q9, _⟩ := q; cases q9) ?_
    rintro _ _ ⟨z9, hz9, rfl, rfl⟩
    cases hz9
    refine p_pick [0, 1] ?_
    exact wX11_nearest_b5 X hG hex hM hN (show uc + (hX z2.2 - hX h) + X0 = hX z2.2 from (by have o0 := (show lez h (hX z2.2) (hV z2.2) from hc1).1; have o1 := hu; (try simp only [hX_sI, hX_sR, hX_sL, hX_sD, hX_sIa, hX_sRa, hV_sI, hV_sR, hV_sL, hV_sD, hV_sIa, hV_sRa, hX_new, hV_new] at o0 o1 ⊢); omega)) (show us + (hV z2.2 - hV h) + V0 = hV z2.2 from (by have o0 := (show lez h (hX z2.2) (hV z2.2) from hc1).2; have o1 := hv; (try simp only [hX_sI, hX_sR, hX_sL, hX_sD, hX_sIa, hX_sRa, hV_sI, hV_sR, hV_sL, hV_sD, hV_sIa, hV_sRa, hX_new, hV_new] at o0 o1 ⊢); omega)) hf 
  · have hr9 := h2y3 z2 rfl
    subst hr9
    refine p_callVX (As := [_]) X hex ml_X11_119 (dcg dc_X11_nearest 2 rfl) rfl rfl hk1 (wX11_demandText hG hy3) (by decide) (room4 (Nat.le_of_ble_eq_true rfl)) (show uc + (hX z2.2 + 1 - hX h) ≤ MC from (by have o0 := (show lez h (hX z2.2 + 1) (hV z2.2 + 6) from hc1).1; have o1 := (show MC + X0 = hX z2.2 + 1 from hM); have o2 := hu; (try simp only [hX_sI, hX_sR, hX_sL, hX_sD, hX_sIa, hX_sRa, hV_sI, hV_sR, hV_sL, hV_sD, hV_sIa, hV_sRa, hX_new, hV_new] at o0 o1 o2 ⊢); omega)) (show us + (hV z2.2 + 6 - hV h) ≤ MS from (by have o0 := (show lez h (hX z2.2 + 1) (hV z2.2 + 6) from hc1).2; have o1 := (show MS + V0 = hV z2.2 + 6 from hN); have o2 := hv; (try simp only [hX_sI, hX_sR, hX_sL, hX_sD, hX_sIa, hX_sRa, hV_sI, hV_sR, hV_sL, hV_sD, hV_sIa, hV_sRa, hX_new, hV_new] at o0 o1 o2 ⊢); omega)) (show uc + (hX z2.2 + 1 - hX h) ≤ MC from (by have o0 := (show lez h (hX z2.2 + 1) (hV z2.2 + 6) from hc1).1; have o1 := (show MC + X0 = hX z2.2 + 1 from hM); have o2 := hu; (try simp only [hX_sI, hX_sR, hX_sL, hX_sD, hX_sIa, hX_sRa, hV_sI, hV_sR, hV_sL, hV_sD, hV_sIa, hV_sRa, hX_new, hV_new] at o0 o1 o2 ⊢); omega)) (show us + (hV z2.2 + 6 - hV h) ≤ MS from (by have o0 := (show lez h (hX z2.2 + 1) (hV z2.2 + 6) from hc1).2; have o1 := (show MS + V0 = hV z2.2 + 6 from hN); have o2 := hv; (try simp only [hX_sI, hX_sR, hX_sL, hX_sD, hX_sIa, hX_sRa, hV_sI, hV_sR, hV_sL, hV_sD, hV_sIa, hV_sRa, hX_new, hV_new] at o0 o1 o2 ⊢); omega)) (fun En u q => by obtain ⟨z9, n9, q9, q8⟩ := q; cases q9; exact ⟨_, n9, rfl, q8⟩) ?_
    rintro _ _ ⟨z9, hz9, _⟩
    cases hz9
noncomputable def fX11_nearest (v0 : Nat) (v1 : Int32) (h : PH) : Option ((Int32 × PH) ⊕ (Nat × PH)) :=
  fX11_nearest_b0 v0 v1 h
set_option maxRecDepth 100000 in
theorem mX11_nearest {v0 : Nat} {v1 : Int32} {h : PH} {r : ((Int32 × PH) ⊕ (Nat × PH))} (hf : fX11_nearest v0 v1 h = some r) : lez h (xT2 r) (vT2 r) := by
  unfold fX11_nearest at hf
  have hle := lez_rf h
  exact lez_rt (mX11_nearest_b0 hf) hle
set_option maxRecDepth 100000 in
theorem wX11_nearest {E : PE} {l : Launch} (hG : Gs E l) {v0 : Nat} {v1 : Int32} {h : PH} {r : ((Int32 × PH) ⊕ (Nat × PH))} (hf : fX11_nearest v0 v1 h = some r) : CtX E l 9 ((xT2 r) - hX h) ((vT2 r) - hV h) yX11_nearest cX11_nearest 11 (some .int) [.ref v0, .int v1] h (fun v u => ∃ z, r = .inl z ∧ v = some (.int z.1) ∧ u = z.2) (fun En u => ∃ (z : Nat × PH) (n : Nat), r = .inr z ∧ En = exn z.1 ∧ hX z.2 ≤ n ∧ u = hbump z.2 n) := by
  have hmm := mX11_nearest hf
  refine ctx_of hG (by decide) (Nat.le_of_ble_eq_true rfl) ?_
  intro p e s m args below meth c X hex
  show PW E p l e _ s m args below meth c _ 0 0 _ h 0 [(0, some (.ref v0)), (1, some (.int v1))] []
  unfold fX11_nearest at hf
  have hM := Nat.sub_add_cancel hmm.1
  have hN := Nat.sub_add_cancel hmm.2
  refine p_pick [0, 1] ?_
  exact wX11_nearest_b0 X hG hex hM hN (Nat.zero_add _) (Nat.zero_add _) hf
theorem dc_X11_meanLength : decs cX11_meanLength [(0, .iconst 0, 1), (1, .istore_n 1, 1), (2, .iconst 0, 1), (3, .istore_n 2, 1), (4, .iconst 0, 1), (5, .istore_n 3, 1), (6, .iload_n 3, 1), (7, .bipush 100, 2), (9, .if_icmp .ge 33, 3), (12, .aload_n 0, 1), (13, .getfield 27, 3), (16, .iload_n 3, 1), (17, .aaload, 1), (18, .ifnull 18, 3), (21, .iload_n 1, 1), (22, .aload_n 0, 1), (23, .getfield 27, 3), (26, .iload_n 3, 1), (27, .aaload, 1), (28, .invokevirtual 123, 3), (31, .iadd, 1), (32, .istore_n 1, 1), (33, .iinc 2 1, 3), (36, .iinc 3 1, 3), (39, .goto (-33), 3), (42, .iload_n 2, 1), (43, .ifCond .ne 7, 3), (46, .dconst 0, 1), (47, .goto 8, 3), (50, .iload_n 1, 1), (51, .i2d, 1), (52, .iload_n 2, 1), (53, .i2d, 1), (54, .ddiv, 1), (55, .dreturn, 1)] = true := by decide +kernel
noncomputable def fX11_meanLength_b55 (t0 : UInt64) (h : PH) : Option UInt64 :=
  some (t0)
set_option maxRecDepth 100000 in
theorem wX11_meanLength_b55 {E : PE} {p : Program} {l : Launch} {e : Env} {s : State} {m : MethodId} {args : Array Value} {below : List Frame} {meth : Method} {c : Code} (X : Cx E p l e (rmv 1 0 0) s m args below meth c RX11 cX11_meanLength 4 (some .double)) (hG : Gs E l) (hnm : meth.name = yX11_meanLength.name) {t0 : UInt64} {h : PH} {r : UInt64} (hf : fX11_meanLength_b55 t0 h = some r)  : PW E p l e (rmv 1 0 0) s m args below meth c 4 0 0 (MQ below (QG E (fun v u => v = some (.double r) ∧ u = h)) args s 0 0 (pA E)) h 55 [] [.double t0] := by
  unfold fX11_meanLength_b55 at hf
  have er := Option.some.inj hf
  subst er
  exact p_dret X rfl (dcg dc_X11_meanLength 34 rfl) ⟨rfl, rfl⟩ (Nat.le_refl _) (Nat.le_refl _)
noncomputable def fX11_meanLength_b36 (v0 : Nat) (v1 : Int32) (v2 : Int32) (v3 : Int32) (h : PH) : Option ((Int32 × Int32 × Int32) ⊕ UInt64) :=
  some (.inl (v1, v2, (v3 + 1)))
set_option maxRecDepth 100000 in
theorem wX11_meanLength_b36 {E : PE} {p : Program} {l : Launch} {e : Env} {s : State} {m : MethodId} {args : Array Value} {below : List Frame} {meth : Method} {c : Code} (X : Cx E p l e (rmv 1 0 0) s m args below meth c RX11 cX11_meanLength 4 (some .double)) (hG : Gs E l) (hnm : meth.name = yX11_meanLength.name) {v0 : Nat} {v1 : Int32} {v2 : Int32} {v3 : Int32} {h : PH} {r : UInt64} {x : ((Int32 × Int32 × Int32) ⊕ UInt64)} (hf : fX11_meanLength_b36 v0 v1 v2 v3 h = some x) (k0 : ∀ z : (Int32 × Int32 × Int32), x = .inl z → PW E p l e (rmv 1 0 0) s m args below meth c 4 0 0 (MQ below (QG E (fun v u => v = some (.double r) ∧ u = h)) args s 0 0 (pA E)) h 6 [(0, some (.ref v0)), (1, some (.int (z.1))), (2, some (.int (z.2.1))), (3, some (.int (z.2.2)))] []) (kf : ∀ z : UInt64, x = .inr z → z = r) : PW E p l e (rmv 1 0 0) s m args below meth c 4 0 0 (MQ below (QG E (fun v u => v = some (.double r) ∧ u = h)) args s 0 0 (pA E)) h 36 [(0, some (.ref v0)), (1, some (.int v1)), (2, some (.int v2)), (3, some (.int v3))] [] := by
  unfold fX11_meanLength_b36 at hf
  refine p_iinc (v := 1) X (dcg dc_X11_meanLength 23 rfl) rfl (by decide) (by decide) rfl ?_
  refine p_goto (tgt := 6) X (dcg dc_X11_meanLength 24 rfl) (by decide) ?_
  refine p_pick [0, 1, 2, 3] ?_
  exact k0 _ (Option.some.inj hf).symm
noncomputable def fX11_meanLength_c6 (v0 : Nat) (v1 : Int32) (v2 : Int32) (v3 : Int32) (h : PH) : Option ((Int32 × Int32 × Int32) ⊕ UInt64) :=
  if ((100 : Int32) ≤ v3) then (mr (if (¬ v2 = 0) then (gd (n64 (FP.ddiv ((FP.i2d v1)) ((FP.i2d v2)))) (fX11_meanLength_b55 (FP.ddiv ((FP.i2d v1)) ((FP.i2d v2))) h)) else
  fX11_meanLength_b55 (dcn 0) h)) else
  gd (hK h v0 = 11) (gs (hR h 11 v0 2) (fun a5 =>
  gd (hK h a5 = 26 ∧ inb v3 (hN h a5)) (mq (hR h 26 a5 (Int32.toNatClampNeg v3)) (fX11_meanLength_b36 v0 v1 v2 v3 h) (fun a9 =>
  gs (hR h 11 v0 2) (fun a10 =>
  gd (hK h a10 = 26 ∧ inb v3 (hN h a10)) (gs (hR h 26 a10 (Int32.toNatClampNeg v3)) (fun a14 =>
  gd (hK h a14 = 8) (bd (fX8_size a14 h) (fun z17 =>
  fX11_meanLength_b36 v0 (v1 + z17) (v2 + 1) v3 h)))))))))
set_option maxRecDepth 100000 in
theorem wX11_meanLength_c6 {E : PE} {p : Program} {l : Launch} {e : Env} {s : State} {m : MethodId} {args : Array Value} {below : List Frame} {meth : Method} {c : Code} (X : Cx E p l e (rmv 1 0 0) s m args below meth c RX11 cX11_meanLength 4 (some .double)) (hG : Gs E l) (hnm : meth.name = yX11_meanLength.name) {v0 : Nat} {v1 : Int32} {v2 : Int32} {v3 : Int32} {h : PH} {r : UInt64} {x : ((Int32 × Int32 × Int32) ⊕ UInt64)} (hf : fX11_meanLength_c6 v0 v1 v2 v3 h = some x) (k0 : ∀ z : (Int32 × Int32 × Int32), x = .inl z → PW E p l e (rmv 1 0 0) s m args below meth c 4 0 0 (MQ below (QG E (fun v u => v = some (.double r) ∧ u = h)) args s 0 0 (pA E)) h 6 [(0, some (.ref v0)), (1, some (.int (z.1))), (2, some (.int (z.2.1))), (3, some (.int (z.2.2)))] []) (kf : ∀ z : UInt64, x = .inr z → z = r) : PW E p l e (rmv 1 0 0) s m args below meth c 4 0 0 (MQ below (QG E (fun v u => v = some (.double r) ∧ u = h)) args s 0 0 (pA E)) h 6 [(0, some (.ref v0)), (1, some (.int v1)), (2, some (.int v2)), (3, some (.int v3))] [] := by
  unfold fX11_meanLength_c6 at hf
  refine p_iload_n X (dcg dc_X11_meanLength 6 rfl) rfl rfl ?_
  refine p_bipush (v := 100) X (dcg dc_X11_meanLength 7 rfl) (by decide) ?_
  refine p_icmp_ge (tgt := 42) X (dcg dc_X11_meanLength 8 rfl) (by decide) (fun q => ?_) (fun q => ?_)
  · have hf := if_t q hf
    obtain ⟨y1, hf, hy2⟩ := mr_some hf
    have hy2f := kf y1 hy2
    subst hy2f
    refine p_iload_n X (dcg dc_X11_meanLength 25 rfl) rfl rfl ?_
    refine p_if_ne (tgt := 50) X (dcg dc_X11_meanLength 26 rfl) (by decide) (fun q => ?_) (fun q => ?_)
    · have hf := if_t q hf
      refine p_iload_n X (dcg dc_X11_meanLength 29 rfl) rfl rfl ?_
      refine p_i2d X (dcg dc_X11_meanLength 30 rfl) ?_
      refine p_iload_n X (dcg dc_X11_meanLength 31 rfl) rfl rfl ?_
      refine p_i2d X (dcg dc_X11_meanLength 32 rfl) ?_
      obtain ⟨hg3, hf⟩ := gd_some hf
      refine p_ddiv X (dcg dc_X11_meanLength 33 rfl) hg3 ?_
      refine p_pick [] ?_
      exact wX11_meanLength_b55 X hG hnm hf 
    · have hf := if_f q hf
      refine p_dconst X (dcg dc_X11_meanLength 27 rfl) ?_
      refine p_goto (tgt := 55) X (dcg dc_X11_meanLength 28 rfl) (by decide) ?_
      refine p_pick [] ?_
      exact wX11_meanLength_b55 X hG hnm hf 
  · have hf := if_f q hf
    refine p_aload_n X (dcg dc_X11_meanLength 9 rfl) rfl rfl ?_
    obtain ⟨hk4, hf⟩ := gd_some hf
    refine p_getR X fl_X11_27 rfl (by decide) (dcg dc_X11_meanLength 10 rfl) hk4 ?_
    refine p_iload_n X (dcg dc_X11_meanLength 11 rfl) rfl rfl ?_
    obtain ⟨a5, e6, hf⟩ := gs_some hf
    first | subst e6 | (try rw [e6])
    obtain ⟨⟨hk8, hb7⟩, hf⟩ := gd_some hf
    refine p_aald26 X (dcg dc_X11_meanLength 12 rfl) hk8 (vp_of_inb hb7) ?_
    refine p_ifnull (tgt := 36) X (dcg dc_X11_meanLength 13 rfl) (by decide) (fun q => ?_) (fun a9 q => ?_)
    · have hk18 := mq_n q hf
      first | subst q | (try rw [q])
      have hf := hk18
      refine p_pick [0, 1, 2, 3] ?_
      exact wX11_meanLength_b36 X hG hnm hf k0 kf
    · have hk18 := mq_s q hf
      first | subst q | (try rw [q])
      have hf := hk18
      refine p_iload_n X (dcg dc_X11_meanLength 14 rfl) rfl rfl ?_
      refine p_aload_n X (dcg dc_X11_meanLength 15 rfl) rfl rfl ?_
      refine p_getR X fl_X11_27 rfl (by decide) (dcg dc_X11_meanLength 16 rfl) hk4 ?_
      refine p_iload_n X (dcg dc_X11_meanLength 17 rfl) rfl rfl ?_
      obtain ⟨a10, e11, hf⟩ := gs_some hf
      first | subst e11 | (try rw [e11])
      obtain ⟨⟨hk13, hb12⟩, hf⟩ := gd_some hf
      refine p_aald26 X (dcg dc_X11_meanLength 18 rfl) hk13 (vp_of_inb hb12) ?_
      obtain ⟨a14, e15, hf⟩ := gs_some hf
      first | subst e15 | (try rw [e15])
      obtain ⟨hk16, hf⟩ := gd_some hf
      obtain ⟨z17, hz17, hf⟩ := bd_some hf
      refine p_callV (As := []) X ml_X11_123 (dcg dc_X11_meanLength 19 rfl) rfl rfl hk16 (wX8_size hG hz17) (by decide) (room4 (Nat.le_of_ble_eq_true rfl)) (Nat.le_refl _) (Nat.le_refl _) ?_
      rintro _ u9 ⟨rfl, e9⟩; have e9 := e9.symm; subst e9
      refine p_iadd X (dcg dc_X11_meanLength 20 rfl) ?_
      refine p_istore_n X (dcg dc_X11_meanLength 21 rfl) rfl (by decide) rfl ?_
      refine p_iinc (v := 1) X (dcg dc_X11_meanLength 22 rfl) rfl (by decide) (by decide) rfl ?_
      refine p_pick [0, 1, 2, 3] ?_
      exact wX11_meanLength_b36 X hG hnm hf k0 kf
noncomputable def fX11_meanLength_l6 (v0 : Nat) (v1 : Int32) (v2 : Int32) (v3 : Int32) (h : PH) : Option UInt64 := wh (fun z : (Int32 × Int32 × Int32) => fX11_meanLength_c6 v0 (z.1) (z.2.1) (z.2.2) h) (v1, v2, v3)
set_option maxRecDepth 100000 in
theorem wX11_meanLength_l6 {E : PE} {p : Program} {l : Launch} {e : Env} {s : State} {m : MethodId} {args : Array Value} {below : List Frame} {meth : Method} {c : Code} (X : Cx E p l e (rmv 1 0 0) s m args below meth c RX11 cX11_meanLength 4 (some .double)) (hG : Gs E l) (hnm : meth.name = yX11_meanLength.name) {v0 : Nat} {v1 : Int32} {v2 : Int32} {v3 : Int32} {h : PH} {r : UInt64} (hf : fX11_meanLength_l6 v0 v1 v2 v3 h = some r)  : PW E p l e (rmv 1 0 0) s m args below meth c 4 0 0 (MQ below (QG E (fun v u => v = some (.double r) ∧ u = h)) args s 0 0 (pA E)) h 6 [(0, some (.ref v0)), (1, some (.int v1)), (2, some (.int v2)), (3, some (.int v3))] [] := by
  unfold fX11_meanLength_l6 at hf
  refine wh_ind (P := fun z => PW E p l e (rmv 1 0 0) s m args below meth c 4 0 0 (MQ below (QG E (fun v u => v = some (.double r) ∧ u = h)) args s 0 0 (pA E)) h 6 [(0, some (.ref v0)), (1, some (.int (z.1))), (2, some (.int (z.2.1))), (3, some (.int (z.2.2)))] []) (fun z x0 hs i1 i2 => ?_) _ hf
  exact wX11_meanLength_c6 (r := r) (v0 := v0) (v1 := z.1) (v2 := z.2.1) (v3 := z.2.2) (h := h) X hG hnm hs i1  i2
noncomputable def fX11_meanLength (v0 : Nat) (h : PH) : Option UInt64 :=
  fX11_meanLength_l6 v0 (0 : Int32) (0 : Int32) (0 : Int32) h
set_option maxRecDepth 100000 in
theorem wX11_meanLength {E : PE} {l : Launch} (hG : Gs E l) {v0 : Nat} {h : PH} {r : UInt64} (hf : fX11_meanLength v0 h = some r) : Ct E l 1 0 0 yX11_meanLength cX11_meanLength 4 (some .double) [.ref v0] h (fun v u => v = some (.double r) ∧ u = h) := by
  refine ct_of hG (by decide) (Nat.le_of_ble_eq_true rfl) ?_
  intro p e s m args below meth c X hnm
  show PW E p l e _ s m args below meth c _ 0 0 _ h 0 [(0, some (.ref v0))] []
  unfold fX11_meanLength at hf
  refine p_iconst (v := 0) X (dcg dc_X11_meanLength 0 rfl) (by decide) ?_
  refine p_istore_n X (dcg dc_X11_meanLength 1 rfl) rfl (by decide) rfl ?_
  refine p_iconst (v := 0) X (dcg dc_X11_meanLength 2 rfl) (by decide) ?_
  refine p_istore_n X (dcg dc_X11_meanLength 3 rfl) rfl (by decide) rfl ?_
  refine p_iconst (v := 0) X (dcg dc_X11_meanLength 4 rfl) (by decide) ?_
  refine p_istore_n X (dcg dc_X11_meanLength 5 rfl) rfl (by decide) rfl ?_
  refine p_pick [0, 1, 2, 3] ?_
  exact wX11_meanLength_l6 X hG hnm hf 
