/-! methods of the program (by program: wip/whole/gen2.py) -/
theorem dc_X11_share : decs cX11_share [(0, .aload_n 0, 1), (1, .iload_n 1, 1), (2, .invokevirtual 320, 3), (5, .istore_n 2, 1), (6, .aload_n 0, 1), (7, .invokevirtual 323, 3), (10, .istore_n 3, 1), (11, .iload_n 3, 1), (12, .ifCond .ne 7, 3), (15, .fconst 0, 1), (16, .goto 8, 3), (19, .iload_n 2, 1), (20, .i2f, 1), (21, .iload_n 3, 1), (22, .i2f, 1), (23, .fdiv, 1), (24, .freturn, 1)] = true := by decide +kernel
noncomputable def fX11_share_b24 (t0 : UInt32) (h : PH) : Option ((UInt32 × PH) ⊕ (Nat × PH)) :=
  some (.inl ((t0, h)))
set_option maxRecDepth 100000 in
theorem mX11_share_b24 {t0 : UInt32} {h : PH} {r : ((UInt32 × PH) ⊕ (Nat × PH))} (hf : fX11_share_b24 t0 h = some r) : lez h (xT2 r) (vT2 r) := by
  unfold fX11_share_b24 at hf
  have hle := lez_rf h
  have ee := Option.some.inj hf; subst ee; exact hle
set_option maxRecDepth 100000 in
theorem wX11_share_b24 {E : PE} {p : Program} {l : Launch} {e : Env} {s : State} {m : MethodId} {args : Array Value} {below : List Frame} {meth : Method} {c : Code} {X0 V0 MC MS uc us : Nat} (X : Cx E p l e (rmv 10 MC MS) s m args below meth c RX11 cX11_share 4 (some .float)) (hG : Gs E l) (hex : ∀ x ∈ c.exceptionTable.toList, False) {t0 : UInt32} {h : PH} {r : ((UInt32 × PH) ⊕ (Nat × PH))} (hM : MC + X0 = (xT2 r)) (hN : MS + V0 = (vT2 r)) (hu : uc + X0 = hX h) (hv : us + V0 = hV h) (hf : fX11_share_b24 t0 h = some r)  : PW E p l e (rmv 10 MC MS) s m args below meth c 4 uc us (vx_MQ below (QG E (fun v u => ∃ z, r = .inl z ∧ v = some (.float z.1) ∧ u = z.2)) (XG E (fun En u => ∃ (z : Nat × PH) (n : Nat), r = .inr z ∧ En = exn z.1 ∧ hX z.2 ≤ n ∧ u = hbump z.2 n)) args s MC MS (pA E)) h 24 [] [.float t0] := by
  have hm1 : lez h (xT2 r) (vT2 r) := mX11_share_b24 hf
  have hcm : uc ≤ MC := (by have o0 := hm1.1; have o1 := hM; have o2 := hu; (try simp only [hX_sI, hX_sR, hX_sL, hX_sD, hX_sIa, hX_sRa, hV_sI, hV_sR, hV_sL, hV_sD, hV_sIa, hV_sRa, hX_new, hV_new] at o0 o1 o2 ⊢); omega)
  have hsm : us ≤ MS := (by have o0 := hm1.2; have o1 := hN; have o2 := hv; (try simp only [hX_sI, hX_sR, hX_sL, hX_sD, hX_sIa, hX_sRa, hV_sI, hV_sR, hV_sL, hV_sD, hV_sIa, hV_sRa, hX_new, hV_new] at o0 o1 o2 ⊢); omega)
  clear hm1
  unfold fX11_share_b24 at hf
  have er := Option.some.inj hf
  subst er
  refine p_vx ?_
  exact p_fret X rfl (dcg dc_X11_share 16 rfl) ⟨_, rfl, rfl, rfl⟩ hcm hsm
noncomputable def fX11_share_b5 (v0 : Nat) (t0 : Int32) (h : PH) : Option ((UInt32 × PH) ⊕ (Nat × PH)) :=
  gd (hK h v0 = 11) (bd (fX11_texts v0 h) (fun z5 =>
  if (¬ z5 = 0) then (gd (n32 (FP.fdiv ((FP.i2f t0)) ((FP.i2f z5)))) (fX11_share_b24 (FP.fdiv ((FP.i2f t0)) ((FP.i2f z5))) h)) else
  fX11_share_b24 (fcn 0) h))
set_option maxRecDepth 100000 in
theorem mX11_share_b5 {v0 : Nat} {t0 : Int32} {h : PH} {r : ((UInt32 × PH) ⊕ (Nat × PH))} (hf : fX11_share_b5 v0 t0 h = some r) : lez h (xT2 r) (vT2 r) := by
  unfold fX11_share_b5 at hf
  have hle := lez_rf h
  obtain ⟨hk4, hf⟩ := gd_some hf
  obtain ⟨z5, hz5, hf⟩ := bd_some hf
  rcases ite_or hf with ⟨q, hf⟩ | ⟨q, hf⟩
  · have hf := if_t q hf
    obtain ⟨hg6, hf⟩ := gd_some hf
    exact lez_rt (mX11_share_b24 hf) hle
  · have hf := if_f q hf
    exact lez_rt (mX11_share_b24 hf) hle
set_option maxRecDepth 100000 in
theorem wX11_share_b5 {E : PE} {p : Program} {l : Launch} {e : Env} {s : State} {m : MethodId} {args : Array Value} {below : List Frame} {meth : Method} {c : Code} {X0 V0 MC MS uc us : Nat} (X : Cx E p l e (rmv 10 MC MS) s m args below meth c RX11 cX11_share 4 (some .float)) (hG : Gs E l) (hex : ∀ x ∈ c.exceptionTable.toList, False) {v0 : Nat} {t0 : Int32} {h : PH} {r : ((UInt32 × PH) ⊕ (Nat × PH))} (hM : MC + X0 = (xT2 r)) (hN : MS + V0 = (vT2 r)) (hu : uc + X0 = hX h) (hv : us + V0 = hV h) (hf : fX11_share_b5 v0 t0 h = some r)  : PW E p l e (rmv 10 MC MS) s m args below meth c 4 uc us (vx_MQ below (QG E (fun v u => ∃ z, r = .inl z ∧ v = some (.float z.1) ∧ u = z.2)) (XG E (fun En u => ∃ (z : Nat × PH) (n : Nat), r = .inr z ∧ En = exn z.1 ∧ hX z.2 ≤ n ∧ u = hbump z.2 n)) args s MC MS (pA E)) h 5 [(0, some (.ref v0))] [.int t0] := by
  have hm1 : lez h (xT2 r) (vT2 r) := mX11_share_b5 hf
  have hcm : uc ≤ MC := (by have o0 := hm1.1; have o1 := hM; have o2 := hu; (try simp only [hX_sI, hX_sR, hX_sL, hX_sD, hX_sIa, hX_sRa, hV_sI, hV_sR, hV_sL, hV_sD, hV_sIa, hV_sRa, hX_new, hV_new] at o0 o1 o2 ⊢); omega)
  have hsm : us ≤ MS := (by have o0 := hm1.2; have o1 := hN; have o2 := hv; (try simp only [hX_sI, hX_sR, hX_sL, hX_sD, hX_sIa, hX_sRa, hV_sI, hV_sR, hV_sL, hV_sD, hV_sIa, hV_sRa, hX_new, hV_new] at o0 o1 o2 ⊢); omega)
  clear hm1
  unfold fX11_share_b5 at hf
  refine p_istore_n X (dcg dc_X11_share 3 rfl) rfl (by decide) rfl ?_
  refine p_aload_n X (dcg dc_X11_share 4 rfl) rfl rfl ?_
  obtain ⟨hk4, hf⟩ := gd_some hf
  obtain ⟨z5, hz5, hf⟩ := bd_some hf
  refine p_callV (As := []) X ml_X11_323 (dcg dc_X11_share 5 rfl) rfl rfl hk4 (wX11_texts hG hz5) (by decide) (room4 (Nat.le_of_ble_eq_true rfl)) hcm hsm ?_
  rintro _ u9 ⟨rfl, e9⟩; have e9 := e9.symm; subst e9
  refine p_istore_n X (dcg dc_X11_share 6 rfl) rfl (by decide) rfl ?_
  refine p_iload_n X (dcg dc_X11_share 7 rfl) rfl rfl ?_
  refine p_if_ne (tgt := 19) X (dcg dc_X11_share 8 rfl) (by decide) (fun q => ?_) (fun q => ?_)
  · have hf := if_t q hf
    refine p_iload_n X (dcg dc_X11_share 11 rfl) rfl rfl ?_
    refine p_i2f X (dcg dc_X11_share 12 rfl) ?_
    refine p_iload_n X (dcg dc_X11_share 13 rfl) rfl rfl ?_
    refine p_i2f X (dcg dc_X11_share 14 rfl) ?_
    obtain ⟨hg6, hf⟩ := gd_some hf
    refine p_fdiv X (dcg dc_X11_share 15 rfl) hg6 ?_
    refine p_pick [] ?_
    exact wX11_share_b24 X hG hex hM hN hu hv hf 
  · have hf := if_f q hf
    refine p_fconst X (dcg dc_X11_share 9 rfl) ?_
    refine p_goto (tgt := 24) X (dcg dc_X11_share 10 rfl) (by decide) ?_
    refine p_pick [] ?_
    exact wX11_share_b24 X hG hex hM hN hu hv hf 
noncomputable def fX11_share_b0 (v0 : Nat) (v1 : Int32) (h : PH) : Option ((UInt32 × PH) ⊕ (Nat × PH)) :=
  gd (hK h v0 = 11) (bx (fX11_textsWith v0 v1 h) (fun z2 =>
  fX11_share_b5 v0 z2.1 z2.2))
set_option maxRecDepth 100000 in
theorem mX11_share_b0 {v0 : Nat} {v1 : Int32} {h : PH} {r : ((UInt32 × PH) ⊕ (Nat × PH))} (hf : fX11_share_b0 v0 v1 h = some r) : lez h (xT2 r) (vT2 r) := by
  unfold fX11_share_b0 at hf
  have hle := lez_rf h
  obtain ⟨hk1, hf⟩ := gd_some hf
  obtain ⟨y3, hy3, h1y3, h2y3⟩ := bx_some hf
  have hc1 := mX11_textsWith hy3
  rcases y3 with z2 | z2
  · have hf := h1y3 z2 rfl
    have hle : lez h (hX z2.2) (hV z2.2) := lez_rt hc1 hle
    exact lez_rt (mX11_share_b5 hf) hle
  · have hr9 := h2y3 z2 rfl
    subst hr9
    exact lez_rt hc1 hle
set_option maxRecDepth 100000 in
theorem wX11_share_b0 {E : PE} {p : Program} {l : Launch} {e : Env} {s : State} {m : MethodId} {args : Array Value} {below : List Frame} {meth : Method} {c : Code} {X0 V0 MC MS uc us : Nat} (X : Cx E p l e (rmv 10 MC MS) s m args below meth c RX11 cX11_share 4 (some .float)) (hG : Gs E l) (hex : ∀ x ∈ c.exceptionTable.toList, False) {v0 : Nat} {v1 : Int32} {h : PH} {r : ((UInt32 × PH) ⊕ (Nat × PH))} (hM : MC + X0 = (xT2 r)) (hN : MS + V0 = (vT2 r)) (hu : uc + X0 = hX h) (hv : us + V0 = hV h) (hf : fX11_share_b0 v0 v1 h = some r)  : PW E p l e (rmv 10 MC MS) s m args below meth c 4 uc us (vx_MQ below (QG E (fun v u => ∃ z, r = .inl z ∧ v = some (.float z.1) ∧ u = z.2)) (XG E (fun En u => ∃ (z : Nat × PH) (n : Nat), r = .inr z ∧ En = exn z.1 ∧ hX z.2 ≤ n ∧ u = hbump z.2 n)) args s MC MS (pA E)) h 0 [(0, some (.ref v0)), (1, some (.int v1))] [] := by
  have hm1 : lez h (xT2 r) (vT2 r) := mX11_share_b0 hf
  have hcm : uc ≤ MC := (by have o0 := hm1.1; have o1 := hM; have o2 := hu; (try simp only [hX_sI, hX_sR, hX_sL, hX_sD, hX_sIa, hX_sRa, hV_sI, hV_sR, hV_sL, hV_sD, hV_sIa, hV_sRa, hX_new, hV_new] at o0 o1 o2 ⊢); omega)
  have hsm : us ≤ MS := (by have o0 := hm1.2; have o1 := hN; have o2 := hv; (try simp only [hX_sI, hX_sR, hX_sL, hX_sD, hX_sIa, hX_sRa, hV_sI, hV_sR, hV_sL, hV_sD, hV_sIa, hV_sRa, hX_new, hV_new] at o0 o1 o2 ⊢); omega)
  clear hm1
  unfold fX11_share_b0 at hf
  refine p_aload_n X (dcg dc_X11_share 0 rfl) rfl rfl ?_
  refine p_iload_n X (dcg dc_X11_share 1 rfl) rfl rfl ?_
  obtain ⟨hk1, hf⟩ := gd_some hf
  obtain ⟨y3, hy3, h1y3, h2y3⟩ := bx_some hf
  have hc1 := mX11_textsWith hy3
  rcases y3 with z2 | z2
  · have hf := h1y3 z2 rfl
    have hm1 : lez _ (xT2 r) (vT2 r) := mX11_share_b5 hf
    refine p_callVX (As := [_]) X hex ml_X11_320 (dcg dc_X11_share 2 rfl) rfl rfl hk1 (wX11_textsWith hG hy3) (by decide) (room4 (Nat.le_of_ble_eq_true rfl)) (show uc + (hX z2.2 - hX h) ≤ MC from (by have o0 := hm1.1; have o1 := (show lez h (hX z2.2) (hV z2.2) from hc1).1; have o2 := hM; have o3 := hu; (try simp only [hX_sI, hX_sR, hX_sL, hX_sD, hX_sIa, hX_sRa, hV_sI, hV_sR, hV_sL, hV_sD, hV_sIa, hV_sRa, hX_new, hV_new] at o0 o1 o2 o3 ⊢); omega)) (show us + (hV z2.2 - hV h) ≤ MS from (by have o0 := hm1.2; have o1 := (show lez h (hX z2.2) (hV z2.2) from hc1).2; have o2 := hN; have o3 := hv; (try simp only [hX_sI, hX_sR, hX_sL, hX_sD, hX_sIa, hX_sRa, hV_sI, hV_sR, hV_sL, hV_sD, hV_sIa, hV_sRa, hX_new, hV_new] at o0 o1 o2 o3 ⊢); omega)) (show uc + (hX z2.2 - hX h) ≤ MC from (by have o0 := hm1.1; have o1 := (show lez h (hX z2.2) (hV z2.2) from hc1).1; have o2 := hM; have o3 := hu; (try simp only [hX_sI, hX_sR, hX_sL, hX_sD, hX_sIa, hX_sRa, hV_sI, hV_sR, hV_sL, hV_sD, hV_sIa, hV_sRa, hX_new, hV_new] at o0 o1 o2 o3 ⊢); omega)) (show us + (hV z2.2 - hV h) ≤ MS from (by have o0 := hm1.2; have o1 := (show lez h (hX z2.2) (hV z2.2) from hc1).2; have o2 := hN; have o3 := hv; (try simp only [hX_sI, hX_sR, hX_sL, hX_sD, hX_sIa, hX_sRa, hV_sI, hV_sR, hV_sL, hV_sD, hV_sIa, hV_sRa, hX_new, hV_new] at o0 o1 o2 o3 ⊢); omega)) (fun En u q => by obtain ⟨z9, n9, q9, _⟩ := q; cases q9) ?_
    rintro _ _ ⟨z9, hz9, rfl, rfl⟩
    cases hz9
    refine p_pick [0] ?_
    exact wX11_share_b5 X hG hex hM hN (show uc + (hX z2.2 - hX h) + X0 = hX z2.2 from (by have o0 := (show lez h (hX z2.2) (hV z2.2) from hc1).1; have o1 := hu; (try simp only [hX_sI, hX_sR, hX_sL, hX_sD, hX_sIa, hX_sRa, hV_sI, hV_sR, hV_sL, hV_sD, hV_sIa, hV_sRa, hX_new, hV_new] at o0 o1 ⊢); omega)) (show us + (hV z2.2 - hV h) + V0 = hV z2.2 from (by have o0 := (show lez h (hX z2.2) (hV z2.2) from hc1).2; have o1 := hv; (try simp only [hX_sI, hX_sR, hX_sL, hX_sD, hX_sIa, hX_sRa, hV_sI, hV_sR, hV_sL, hV_sD, hV_sIa, hV_sRa, hX_new, hV_new] at o0 o1 ⊢); omega)) hf 
  · have hr9 := h2y3 z2 rfl
    subst hr9
    refine p_callVX (As := [_]) X hex ml_X11_320 (dcg dc_X11_share 2 rfl) rfl rfl hk1 (wX11_textsWith hG hy3) (by decide) (room4 (Nat.le_of_ble_eq_true rfl)) (show uc + (hX z2.2 + 1 - hX h) ≤ MC from (by have o0 := (show lez h (hX z2.2 + 1) (hV z2.2 + 6) from hc1).1; have o1 := (show MC + X0 = hX z2.2 + 1 from hM); have o2 := hu; (try simp only [hX_sI, hX_sR, hX_sL, hX_sD, hX_sIa, hX_sRa, hV_sI, hV_sR, hV_sL, hV_sD, hV_sIa, hV_sRa, hX_new, hV_new] at o0 o1 o2 ⊢); omega)) (show us + (hV z2.2 + 6 - hV h) ≤ MS from (by have o0 := (show lez h (hX z2.2 + 1) (hV z2.2 + 6) from hc1).2; have o1 := (show MS + V0 = hV z2.2 + 6 from hN); have o2 := hv; (try simp only [hX_sI, hX_sR, hX_sL, hX_sD, hX_sIa, hX_sRa, hV_sI, hV_sR, hV_sL, hV_sD, hV_sIa, hV_sRa, hX_new, hV_new] at o0 o1 o2 ⊢); omega)) (show uc + (hX z2.2 + 1 - hX h) ≤ MC from (by have o0 := (show lez h (hX z2.2 + 1) (hV z2.2 + 6) from hc1).1; have o1 := (show MC + X0 = hX z2.2 + 1 from hM); have o2 := hu; (try simp only [hX_sI, hX_sR, hX_sL, hX_sD, hX_sIa, hX_sRa, hV_sI, hV_sR, hV_sL, hV_sD, hV_sIa, hV_sRa, hX_new, hV_new] at o0 o1 o2 ⊢); omega)) (show us + (hV z2.2 + 6 - hV h) ≤ MS from (by have o0 := (show lez h (hX z2.2 + 1) (hV z2.2 + 6) from hc1).2; have o1 := (show MS + V0 = hV z2.2 + 6 from hN); have o2 := hv; (try simp only [hX_sI, hX_sR, hX_sL, hX_sD, hX_sIa, hX_sRa, hV_sI, hV_sR, hV_sL, hV_sD, hV_sIa, hV_sRa, hX_new, hV_new] at o0 o1 o2 ⊢); omega)) (fun En u q => by obtain ⟨z9, n9, q9, q8⟩ := q; cases q9; exact ⟨_, n9, rfl, q8⟩) ?_
    rintro _ _ ⟨z9, hz9, _⟩
    cases hz9
noncomputable def fX11_share (v0 : Nat) (v1 : Int32) (h : PH) : Option ((UInt32 × PH) ⊕ (Nat × PH)) :=
  fX11_share_b0 v0 v1 h
set_option maxRecDepth 100000 in
theorem mX11_share {v0 : Nat} {v1 : Int32} {h : PH} {r : ((UInt32 × PH) ⊕ (Nat × PH))} (hf : fX11_share v0 v1 h = some r) : lez h (xT2 r) (vT2 r) := by
  unfold fX11_share at hf
  have hle := lez_rf h
  exact lez_rt (mX11_share_b0 hf) hle
set_option maxRecDepth 100000 in
theorem wX11_share {E : PE} {l : Launch} (hG : Gs E l) {v0 : Nat} {v1 : Int32} {h : PH} {r : ((UInt32 × PH) ⊕ (Nat × PH))} (hf : fX11_share v0 v1 h = some r) : CtX E l 10 ((xT2 r) - hX h) ((vT2 r) - hV h) yX11_share cX11_share 4 (some .float) [.ref v0, .int v1] h (fun v u => ∃ z, r = .inl z ∧ v = some (.float z.1) ∧ u = z.2) (fun En u => ∃ (z : Nat × PH) (n : Nat), r = .inr z ∧ En = exn z.1 ∧ hX z.2 ≤ n ∧ u = hbump z.2 n) := by
  have hmm := mX11_share hf
  refine ctx_of hG (by decide) (Nat.le_of_ble_eq_true rfl) ?_
  intro p e s m args below meth c X hex
  show PW E p l e _ s m args below meth c _ 0 0 _ h 0 [(0, some (.ref v0)), (1, some (.int v1))] []
  unfold fX11_share at hf
  have hM := Nat.sub_add_cancel hmm.1
  have hN := Nat.sub_add_cancel hmm.2
  refine p_pick [0, 1] ?_
  exact wX11_share_b0 X hG hex hM hN (Nat.zero_add _) (Nat.zero_add _) hf
theorem dc_X11_isFoundWrongly : decs cX11_isFoundWrongly [(0, .iconst 0, 1), (1, .istore_n 2, 1), (2, .iload_n 2, 1), (3, .bipush 100, 2), (5, .if_icmp .ge 35, 3), (8, .aload_n 0, 1), (9, .getfield 53, 3), (12, .iload_n 1, 1), (13, .aaload, 1), (14, .iload_n 2, 1), (15, .invokevirtual 203, 3), (18, .aload_n 0, 1), (19, .aload_n 0, 1), (20, .getfield 47, 3), (23, .iload_n 1, 1), (24, .aaload, 1), (25, .iload_n 2, 1), (26, .invokevirtual 343, 3), (29, .if_icmp .eq 5, 3), (32, .iconst 1, 1), (33, .ireturn, 1), (34, .iinc 2 1, 3), (37, .goto (-35), 3), (40, .iconst 0, 1), (41, .ireturn, 1)] = true := by decide +kernel
noncomputable def fX11_isFoundWrongly_c2 (v0 : Nat) (v1 : Int32) (v2 : Int32) (h : PH) : Option ((Int32) ⊕ Int32) :=
  if ((100 : Int32) ≤ v2) then (mr (some ((0 : Int32)))) else
  gd (hK h v0 = 11) (gs (hR h 11 v0 6) (fun a4 =>
  gd (hK h a4 = 27 ∧ inb v1 (hN h a4)) (gs (hR h 27 a4 (Int32.toNatClampNeg v1)) (fun a8 =>
  gd (hK h a8 = 9) (bd (fX9_has a8 v2 h) (fun z11 =>
  gs (hR h 11 v0 5) (fun a12 =>
  gd (hK h a12 = 25 ∧ inb v1 (hN h a12)) (bd (fX11_isSatisfied v0 (hR h 25 a12 (Int32.toNatClampNeg v1)) v2 h) (fun z16 =>
  if (z11 = z16) then (some (.inl ((v2 + 1)))) else
  mr (some ((1 : Int32))))))))))))
set_option maxRecDepth 100000 in
theorem wX11_isFoundWrongly_c2 {E : PE} {p : Program} {l : Launch} {e : Env} {s : State} {m : MethodId} {args : Array Value} {below : List Frame} {meth : Method} {c : Code} (X : Cx E p l e (rmv 49 0 0) s m args below meth c RX11 cX11_isFoundWrongly 3 (some .boolean)) (hG : Gs E l) (hnm : meth.name = yX11_isFoundWrongly.name) {v0 : Nat} {v1 : Int32} {v2 : Int32} {h : PH} {r : Int32} {x : ((Int32) ⊕ Int32)} (hf : fX11_isFoundWrongly_c2 v0 v1 v2 h = some x) (k0 : ∀ z : (Int32), x = .inl z → PW E p l e (rmv 49 0 0) s m args below meth c 3 0 0 (MQ below (QG E (fun v u => v = some (.int r) ∧ u = h)) args s 0 0 (pA E)) h 2 [(0, some (.ref v0)), (1, some (.int v1)), (2, some (.int (z)))] []) (kf : ∀ z : Int32, x = .inr z → z = r) : PW E p l e (rmv 49 0 0) s m args below meth c 3 0 0 (MQ below (QG E (fun v u => v = some (.int r) ∧ u = h)) args s 0 0 (pA E)) h 2 [(0, some (.ref v0)), (1, some (.int v1)), (2, some (.int v2))] [] := by
  unfold fX11_isFoundWrongly_c2 at hf
  refine p_iload_n X (dcg dc_X11_isFoundWrongly 2 rfl) rfl rfl ?_
  refine p_bipush (v := 100) X (dcg dc_X11_isFoundWrongly 3 rfl) (by decide) ?_
  refine p_icmp_ge (tgt := 40) X (dcg dc_X11_isFoundWrongly 4 rfl) (by decide) (fun q => ?_) (fun q => ?_)
  · have hf := if_t q hf
    obtain ⟨y1, hf, hy2⟩ := mr_some hf
    have hy2f := kf y1 hy2
    subst hy2f
    refine p_iconst (v := 0) X (dcg dc_X11_isFoundWrongly 23 rfl) (by decide) ?_
    have er := Option.some.inj hf
    subst er
    exact p_zret X rfl rfl (dcg dc_X11_isFoundWrongly 24 rfl) ⟨rfl, rfl⟩ (Nat.le_refl _) (Nat.le_refl _)
  · have hf := if_f q hf
    refine p_aload_n X (dcg dc_X11_isFoundWrongly 5 rfl) rfl rfl ?_
    obtain ⟨hk3, hf⟩ := gd_some hf
    refine p_getR X fl_X11_53 rfl (by decide) (dcg dc_X11_isFoundWrongly 6 rfl) hk3 ?_
    refine p_iload_n X (dcg dc_X11_isFoundWrongly 7 rfl) rfl rfl ?_
    obtain ⟨a4, e5, hf⟩ := gs_some hf
    first | subst e5 | (try rw [e5])
    obtain ⟨⟨hk7, hb6⟩, hf⟩ := gd_some hf
    refine p_aald27 X (dcg dc_X11_isFoundWrongly 8 rfl) hk7 (vp_of_inb hb6) ?_
    refine p_iload_n X (dcg dc_X11_isFoundWrongly 9 rfl) rfl rfl ?_
    obtain ⟨a8, e9, hf⟩ := gs_some hf
    first | subst e9 | (try rw [e9])
    obtain ⟨hk10, hf⟩ := gd_some hf
    obtain ⟨z11, hz11, hf⟩ := bd_some hf
    refine p_callV (As := [_]) X ml_X11_203 (dcg dc_X11_isFoundWrongly 10 rfl) rfl rfl hk10 (wX9_has hG hz11) (by decide) (room4 (Nat.le_of_ble_eq_true rfl)) (Nat.le_refl _) (Nat.le_refl _) ?_
    rintro _ u9 ⟨rfl, e9⟩; have e9 := e9.symm; subst e9
    refine p_aload_n X (dcg dc_X11_isFoundWrongly 11 rfl) rfl rfl ?_
    refine p_aload_n X (dcg dc_X11_isFoundWrongly 12 rfl) rfl rfl ?_
    refine p_getR X fl_X11_47 rfl (by decide) (dcg dc_X11_isFoundWrongly 13 rfl) hk3 ?_
    refine p_iload_n X (dcg dc_X11_isFoundWrongly 14 rfl) rfl rfl ?_
    obtain ⟨a12, e13, hf⟩ := gs_some hf
    first | subst e13 | (try rw [e13])
    obtain ⟨⟨hk15, hb14⟩, hf⟩ := gd_some hf
    refine p_aald25 X (dcg dc_X11_isFoundWrongly 15 rfl) hk15 (vp_of_inb hb14) ?_
    refine p_iload_n X (dcg dc_X11_isFoundWrongly 16 rfl) rfl rfl ?_
    obtain ⟨z16, hz16, hf⟩ := bd_some hf
    refine p_callV (As := [va_rf _, _]) X ml_X11_343 (dcg dc_X11_isFoundWrongly 17 rfl) rfl rfl hk3 (wX11_isSatisfied hG hz16) (by decide) (room4 (Nat.le_of_ble_eq_true rfl)) (Nat.le_refl _) (Nat.le_refl _) ?_
    rintro _ u9 ⟨rfl, e9⟩; have e9 := e9.symm; subst e9
    refine p_icmp_eq (tgt := 34) X (dcg dc_X11_isFoundWrongly 18 rfl) (by decide) (fun q => ?_) (fun q => ?_)
    · have hf := if_t q hf
      refine p_iinc (v := 1) X (dcg dc_X11_isFoundWrongly 21 rfl) rfl (by decide) (by decide) rfl ?_
      refine p_goto (tgt := 2) X (dcg dc_X11_isFoundWrongly 22 rfl) (by decide) ?_
      refine p_pick [0, 1, 2] ?_
      exact k0 _ (Option.some.inj hf).symm
    · have hf := if_f q hf
      obtain ⟨y17, hf, hy18⟩ := mr_some hf
      have hy18f := kf y17 hy18
      subst hy18f
      refine p_iconst (v := 1) X (dcg dc_X11_isFoundWrongly 19 rfl) (by decide) ?_
      have er := Option.some.inj hf
      subst er
      exact p_zret X rfl rfl (dcg dc_X11_isFoundWrongly 20 rfl) ⟨rfl, rfl⟩ (Nat.le_refl _) (Nat.le_refl _)
noncomputable def fX11_isFoundWrongly_l2 (v0 : Nat) (v1 : Int32) (v2 : Int32) (h : PH) : Option Int32 := wh (fun z : (Int32) => fX11_isFoundWrongly_c2 v0 v1 (z) h) (v2)
set_option maxRecDepth 100000 in
theorem wX11_isFoundWrongly_l2 {E : PE} {p : Program} {l : Launch} {e : Env} {s : State} {m : MethodId} {args : Array Value} {below : List Frame} {meth : Method} {c : Code} (X : Cx E p l e (rmv 49 0 0) s m args below meth c RX11 cX11_isFoundWrongly 3 (some .boolean)) (hG : Gs E l) (hnm : meth.name = yX11_isFoundWrongly.name) {v0 : Nat} {v1 : Int32} {v2 : Int32} {h : PH} {r : Int32} (hf : fX11_isFoundWrongly_l2 v0 v1 v2 h = some r)  : PW E p l e (rmv 49 0 0) s m args below meth c 3 0 0 (MQ below (QG E (fun v u => v = some (.int r) ∧ u = h)) args s 0 0 (pA E)) h 2 [(0, some (.ref v0)), (1, some (.int v1)), (2, some (.int v2))] [] := by
  unfold fX11_isFoundWrongly_l2 at hf
  refine wh_ind (P := fun z => PW E p l e (rmv 49 0 0) s m args below meth c 3 0 0 (MQ below (QG E (fun v u => v = some (.int r) ∧ u = h)) args s 0 0 (pA E)) h 2 [(0, some (.ref v0)), (1, some (.int v1)), (2, some (.int (z)))] []) (fun z x0 hs i1 i2 => ?_) _ hf
  exact wX11_isFoundWrongly_c2 (r := r) (v0 := v0) (v1 := v1) (v2 := z) (h := h) X hG hnm hs i1  i2
noncomputable def fX11_isFoundWrongly (v0 : Nat) (v1 : Int32) (h : PH) : Option Int32 :=
  fX11_isFoundWrongly_l2 v0 v1 (0 : Int32) h
set_option maxRecDepth 100000 in
theorem wX11_isFoundWrongly {E : PE} {l : Launch} (hG : Gs E l) {v0 : Nat} {v1 : Int32} {h : PH} {r : Int32} (hf : fX11_isFoundWrongly v0 v1 h = some r) : Ct E l 49 0 0 yX11_isFoundWrongly cX11_isFoundWrongly 3 (some .boolean) [.ref v0, .int v1] h (fun v u => v = some (.int r) ∧ u = h) := by
  refine ct_of hG (by decide) (Nat.le_of_ble_eq_true rfl) ?_
  intro p e s m args below meth c X hnm
  show PW E p l e _ s m args below meth c _ 0 0 _ h 0 [(0, some (.ref v0)), (1, some (.int v1))] []
  unfold fX11_isFoundWrongly at hf
  refine p_iconst (v := 0) X (dcg dc_X11_isFoundWrongly 0 rfl) (by decide) ?_
  refine p_istore_n X (dcg dc_X11_isFoundWrongly 1 rfl) rfl (by decide) rfl ?_
  refine p_pick [0, 1, 2] ?_
  exact wX11_isFoundWrongly_l2 X hG hnm hf 
theorem dc_X11_errors : decs cX11_errors [(0, .aload_n 0, 1), (1, .getfield 34, 3), (4, .aload_n 0, 1), (5, .getfield 27, 3), (8, .invokevirtual 326, 3), (11, .istore_n 1, 1), (12, .iconst 0, 1), (13, .istore_n 2, 1), (14, .iload_n 2, 1), (15, .bipush 6, 2), (17, .if_icmp .ge 29, 3), (20, .aload_n 0, 1), (21, .getfield 47, 3), (24, .iload_n 2, 1), (25, .aaload, 1), (26, .ifnull 14, 3), (29, .aload_n 0, 1), (30, .iload_n 2, 1), (31, .invokevirtual 330, 3), (34, .ifCond .eq 6, 3), (37, .iinc 1 1, 3), (40, .iinc 2 1, 3), (43, .goto (-29), 3), (46, .iload_n 1, 1), (47, .ireturn, 1)] = true := by decide +kernel
noncomputable def fX11_errors_b40 (v0 : Nat) (v1 : Int32) (v2 : Int32) (h : PH) : Option ((Int32 × Int32) ⊕ (Int32 × PH)) :=
  some (.inl (v1, (v2 + 1)))
set_option maxRecDepth 100000 in
theorem mX11_errors_b40 {v0 : Nat} {v1 : Int32} {v2 : Int32} {h : PH} {x : ((Int32 × Int32) ⊕ (Int32 × PH))} (hf : fX11_errors_b40 v0 v1 v2 h = some x) : (∀ w9 : (Int32 × PH), x = .inr w9 → lez h (hX w9.2) (hV w9.2)) := by
  unfold fX11_errors_b40 at hf
  have hle := lez_rf h
  have ee := Option.some.inj hf; subst ee
  exact (fun z e => nomatch e)
set_option maxRecDepth 100000 in
theorem wX11_errors_b40 {E : PE} {p : Program} {l : Launch} {e : Env} {s : State} {m : MethodId} {args : Array Value} {below : List Frame} {meth : Method} {c : Code} {X0 V0 MC MS uc us : Nat} (X : Cx E p l e (rmv 50 MC MS) s m args below meth c RX11 cX11_errors 3 (some .int)) (hG : Gs E l) (hnm : meth.name = yX11_errors.name) {v0 : Nat} {v1 : Int32} {v2 : Int32} {h : PH} {r : (Int32 × PH)} {x : ((Int32 × Int32) ⊕ (Int32 × PH))} (hM : MC + X0 = (hX r.2)) (hN : MS + V0 = (hV r.2)) (hu : uc + X0 = hX h) (hv : us + V0 = hV h) (hf : fX11_errors_b40 v0 v1 v2 h = some x) (k0 : ∀ (z : (Int32 × Int32)) (uc us : Nat), x = .inl z → uc + X0 = hX h → us + V0 = hV h → PW E p l e (rmv 50 MC MS) s m args below meth c 3 uc us (MQ below (QG E (fun v u => v = some (.int r.1) ∧ u = r.2)) args s MC MS (pA E)) h 14 [(0, some (.ref v0)), (1, some (.int (z.1))), (2, some (.int (z.2)))] []) (kl0 : ∀ z : (Int32 × Int32), x = .inl z → lez h (hX r.2) (hV r.2)) (kf : ∀ z : (Int32 × PH), x = .inr z → z = r) : PW E p l e (rmv 50 MC MS) s m args below meth c 3 uc us (MQ below (QG E (fun v u => v = some (.int r.1) ∧ u = r.2)) args s MC MS (pA E)) h 40 [(0, some (.ref v0)), (1, some (.int v1)), (2, some (.int v2))] [] := by
  have hm1 : lez h (hX r.2) (hV r.2) := by
    obtain cf := mX11_errors_b40 hf
    rcases hxx : x with zz | zz
    · exact kl0 zz hxx
    · have ee := kf zz hxx; subst ee; exact cf zz hxx
  have hcm : uc ≤ MC := (by have o0 := hm1.1; have o1 := hM; have o2 := hu; (try simp only [hX_sI, hX_sR, hX_sL, hX_sD, hX_sIa, hX_sRa, hV_sI, hV_sR, hV_sL, hV_sD, hV_sIa, hV_sRa, hX_new, hV_new] at o0 o1 o2 ⊢); omega)
  have hsm : us ≤ MS := (by have o0 := hm1.2; have o1 := hN; have o2 := hv; (try simp only [hX_sI, hX_sR, hX_sL, hX_sD, hX_sIa, hX_sRa, hV_sI, hV_sR, hV_sL, hV_sD, hV_sIa, hV_sRa, hX_new, hV_new] at o0 o1 o2 ⊢); omega)
  clear hm1
  unfold fX11_errors_b40 at hf
  refine p_iinc (v := 1) X (dcg dc_X11_errors 21 rfl) rfl (by decide) (by decide) rfl ?_
  refine p_goto (tgt := 14) X (dcg dc_X11_errors 22 rfl) (by decide) ?_
  refine p_pick [0, 1, 2] ?_
  exact k0 _ _ _ (Option.some.inj hf).symm hu hv
noncomputable def fX11_errors_c14 (v0 : Nat) (v1 : Int32) (v2 : Int32) (h : PH) : Option ((Int32 × Int32) ⊕ (Int32 × PH)) :=
  if ((6 : Int32) ≤ v2) then (mr (some ((v1, h)))) else
  gd (hK h v0 = 11) (gs (hR h 11 v0 5) (fun a9 =>
  gd (hK h a9 = 25 ∧ inb v2 (hN h a9)) (mq (hR h 25 a9 (Int32.toNatClampNeg v2)) (fX11_errors_b40 v0 v1 v2 h) (fun a13 =>
  bd (fX11_isFoundWrongly v0 v2 h) (fun z14 =>
  if (z14 = 0) then (fX11_errors_b40 v0 v1 v2 h) else
  fX11_errors_b40 v0 (v1 + 1) v2 h)))))
set_option maxRecDepth 100000 in
theorem mX11_errors_c14 {v0 : Nat} {v1 : Int32} {v2 : Int32} {h : PH} {x : ((Int32 × Int32) ⊕ (Int32 × PH))} (hf : fX11_errors_c14 v0 v1 v2 h = some x) : (∀ w9 : (Int32 × PH), x = .inr w9 → lez h (hX w9.2) (hV w9.2)) := by
  unfold fX11_errors_c14 at hf
  have hle := lez_rf h
  rcases ite_or hf with ⟨q, hf⟩ | ⟨q, hf⟩
  · have hf := if_t q hf
    obtain ⟨y6, hfm, rfl⟩ := mr_some hf; have hf := hfm; clear hfm
    have ee := Option.some.inj hf; subst ee
    exact (fun z e => by have ee := Sum.inr.inj (e); subst ee; exact hle)
  · have hf := if_f q hf
    obtain ⟨hk8, hf⟩ := gd_some hf
    obtain ⟨a9, e10, hf⟩ := gs_some hf
    obtain ⟨⟨hk12, hb11⟩, hf⟩ := gd_some hf
    rcases mq_or hf with ⟨q, hf⟩ | ⟨a13, q, hf⟩
    · have hf := mq_n q hf
      obtain cf := mX11_errors_b40 hf
      exact fun z e => lez_rt (cf z (e)) hle
    · have hk15 := mq_s q hf
      first | subst q | skip
      have hf := hk15
      obtain ⟨z14, hz14, hf⟩ := bd_some hf
      rcases ite_or hf with ⟨q, hf⟩ | ⟨q, hf⟩
      · have hf := if_t q hf
        obtain cf := mX11_errors_b40 hf
        exact fun z e => lez_rt (cf z (e)) hle
      · have hf := if_f q hf
        obtain cf := mX11_errors_b40 hf
        exact fun z e => lez_rt (cf z (e)) hle
set_option maxRecDepth 100000 in
theorem wX11_errors_c14 {E : PE} {p : Program} {l : Launch} {e : Env} {s : State} {m : MethodId} {args : Array Value} {below : List Frame} {meth : Method} {c : Code} {X0 V0 MC MS uc us : Nat} (X : Cx E p l e (rmv 50 MC MS) s m args below meth c RX11 cX11_errors 3 (some .int)) (hG : Gs E l) (hnm : meth.name = yX11_errors.name) {v0 : Nat} {v1 : Int32} {v2 : Int32} {h : PH} {r : (Int32 × PH)} {x : ((Int32 × Int32) ⊕ (Int32 × PH))} (hM : MC + X0 = (hX r.2)) (hN : MS + V0 = (hV r.2)) (hu : uc + X0 = hX h) (hv : us + V0 = hV h) (hf : fX11_errors_c14 v0 v1 v2 h = some x) (k0 : ∀ (z : (Int32 × Int32)) (uc us : Nat), x = .inl z → uc + X0 = hX h → us + V0 = hV h → PW E p l e (rmv 50 MC MS) s m args below meth c 3 uc us (MQ below (QG E (fun v u => v = some (.int r.1) ∧ u = r.2)) args s MC MS (pA E)) h 14 [(0, some (.ref v0)), (1, some (.int (z.1))), (2, some (.int (z.2)))] []) (kl0 : ∀ z : (Int32 × Int32), x = .inl z → lez h (hX r.2) (hV r.2)) (kf : ∀ z : (Int32 × PH), x = .inr z → z = r) : PW E p l e (rmv 50 MC MS) s m args below meth c 3 uc us (MQ below (QG E (fun v u => v = some (.int r.1) ∧ u = r.2)) args s MC MS (pA E)) h 14 [(0, some (.ref v0)), (1, some (.int v1)), (2, some (.int v2))] [] := by
  have hm1 : lez h (hX r.2) (hV r.2) := by
    obtain cf := mX11_errors_c14 hf
    rcases hxx : x with zz | zz
    · exact kl0 zz hxx
    · have ee := kf zz hxx; subst ee; exact cf zz hxx
  have hcm : uc ≤ MC := (by have o0 := hm1.1; have o1 := hM; have o2 := hu; (try simp only [hX_sI, hX_sR, hX_sL, hX_sD, hX_sIa, hX_sRa, hV_sI, hV_sR, hV_sL, hV_sD, hV_sIa, hV_sRa, hX_new, hV_new] at o0 o1 o2 ⊢); omega)
  have hsm : us ≤ MS := (by have o0 := hm1.2; have o1 := hN; have o2 := hv; (try simp only [hX_sI, hX_sR, hX_sL, hX_sD, hX_sIa, hX_sRa, hV_sI, hV_sR, hV_sL, hV_sD, hV_sIa, hV_sRa, hX_new, hV_new] at o0 o1 o2 ⊢); omega)
  clear hm1
  unfold fX11_errors_c14 at hf
  refine p_iload_n X (dcg dc_X11_errors 8 rfl) rfl rfl ?_
  refine p_bipush (v := 6) X (dcg dc_X11_errors 9 rfl) (by decide) ?_
  refine p_icmp_ge (tgt := 46) X (dcg dc_X11_errors 10 rfl) (by decide) (fun q => ?_) (fun q => ?_)
  · have hf := if_t q hf
    obtain ⟨y6, hf, hy7⟩ := mr_some hf
    have hy7f := kf y6 hy7
    subst hy7f
    refine p_iload_n X (dcg dc_X11_errors 23 rfl) rfl rfl ?_
    have er := Option.some.inj hf
    subst er
    exact p_iret X rfl (dcg dc_X11_errors 24 rfl) ⟨rfl, rfl⟩ hcm hsm
  · have hf := if_f q hf
    refine p_aload_n X (dcg dc_X11_errors 11 rfl) rfl rfl ?_
    obtain ⟨hk8, hf⟩ := gd_some hf
    refine p_getR X fl_X11_47 rfl (by decide) (dcg dc_X11_errors 12 rfl) hk8 ?_
    refine p_iload_n X (dcg dc_X11_errors 13 rfl) rfl rfl ?_
    obtain ⟨a9, e10, hf⟩ := gs_some hf
    first | subst e10 | (try rw [e10])
    obtain ⟨⟨hk12, hb11⟩, hf⟩ := gd_some hf
    refine p_aald25 X (dcg dc_X11_errors 14 rfl) hk12 (vp_of_inb hb11) ?_
    refine p_ifnull (tgt := 40) X (dcg dc_X11_errors 15 rfl) (by decide) (fun q => ?_) (fun a13 q => ?_)
    · have hk15 := mq_n q hf
      first | subst q | (try rw [q])
      have hf := hk15
      refine p_pick [0, 1, 2] ?_
      exact wX11_errors_b40 X hG hnm hM hN hu hv hf k0 kl0 kf
    · have hk15 := mq_s q hf
      first | subst q | (try rw [q])
      have hf := hk15
      refine p_aload_n X (dcg dc_X11_errors 16 rfl) rfl rfl ?_
      refine p_iload_n X (dcg dc_X11_errors 17 rfl) rfl rfl ?_
      obtain ⟨z14, hz14, hf⟩ := bd_some hf
      refine p_callV (As := [_]) X ml_X11_330 (dcg dc_X11_errors 18 rfl) rfl rfl hk8 (wX11_isFoundWrongly hG hz14) (by decide) (room4 (Nat.le_of_ble_eq_true rfl)) hcm hsm ?_
      rintro _ u9 ⟨rfl, e9⟩; have e9 := e9.symm; subst e9
      refine p_if_eq (tgt := 40) X (dcg dc_X11_errors 19 rfl) (by decide) (fun q => ?_) (fun q => ?_)
      · have hf := if_t q hf
        refine p_pick [0, 1, 2] ?_
        exact wX11_errors_b40 X hG hnm hM hN hu hv hf k0 kl0 kf
      · have hf := if_f q hf
        refine p_iinc (v := 1) X (dcg dc_X11_errors 20 rfl) rfl (by decide) (by decide) rfl ?_
        refine p_pick [0, 1, 2] ?_
        exact wX11_errors_b40 X hG hnm hM hN hu hv hf k0 kl0 kf
noncomputable def fX11_errors_l14 (v0 : Nat) (v1 : Int32) (v2 : Int32) (h : PH) : Option (Int32 × PH) := wh (fun z : (Int32 × Int32) => fX11_errors_c14 v0 (z.1) (z.2) h) (v1, v2)
set_option maxRecDepth 100000 in
theorem mX11_errors_l14 {v0 : Nat} {v1 : Int32} {v2 : Int32} {h : PH} {r : (Int32 × PH)} (hf : fX11_errors_l14 v0 v1 v2 h = some r) : lez h (hX r.2) (hV r.2) := by
  unfold fX11_errors_l14 at hf
  refine wh_ind (P := fun z => lez h (hX r.2) (hV r.2)) (fun z x0 hs i1 i2 => ?_) _ hf
  obtain cf := mX11_errors_c14 (v0 := v0) (v1 := z.1) (v2 := z.2) (h := h) hs
  rcases hxx : x0 with zz | zz
  · exact (i1 zz hxx)
  · have ee := i2 zz hxx; subst ee; exact cf zz hxx
set_option maxRecDepth 100000 in
theorem wX11_errors_l14 {E : PE} {p : Program} {l : Launch} {e : Env} {s : State} {m : MethodId} {args : Array Value} {below : List Frame} {meth : Method} {c : Code} {X0 V0 MC MS uc us : Nat} (X : Cx E p l e (rmv 50 MC MS) s m args below meth c RX11 cX11_errors 3 (some .int)) (hG : Gs E l) (hnm : meth.name = yX11_errors.name) {v0 : Nat} {v1 : Int32} {v2 : Int32} {h : PH} {r : (Int32 × PH)} (hM : MC + X0 = (hX r.2)) (hN : MS + V0 = (hV r.2)) (hu : uc + X0 = hX h) (hv : us + V0 = hV h) (hf : fX11_errors_l14 v0 v1 v2 h = some r)  : PW E p l e (rmv 50 MC MS) s m args below meth c 3 uc us (MQ below (QG E (fun v u => v = some (.int r.1) ∧ u = r.2)) args s MC MS (pA E)) h 14 [(0, some (.ref v0)), (1, some (.int v1)), (2, some (.int v2))] [] := by
  unfold fX11_errors_l14 at hf
  refine wh_ind2 (P := fun z => ∀ uc us : Nat, uc + X0 = hX h → us + V0 = hV h → PW E p l e (rmv 50 MC MS) s m args below meth c 3 uc us (MQ below (QG E (fun v u => v = some (.int r.1) ∧ u = r.2)) args s MC MS (pA E)) h 14 [(0, some (.ref v0)), (1, some (.int (z.1))), (2, some (.int (z.2)))] []) (fun z x0 hs i1 i2 uc us hu hv => ?_) _ hf uc us hu hv
  exact wX11_errors_c14 (r := r) (v0 := v0) (v1 := z.1) (v2 := z.2) (h := h) X hG hnm hM hN hu hv hs (fun z1 uc1 us1 e1 e2 e3 => (i1 z1 e1).1 uc1 us1 e2 e3) (fun z1 e1 => mX11_errors_l14 (v0 := v0) (v1 := z1.1) (v2 := z1.2) (h := h) (by unfold fX11_errors_l14; exact (i1 z1 e1).2))  i2
noncomputable def fX11_errors_b11 (v0 : Nat) (t0 : Int32) (h : PH) : Option (Int32 × PH) :=
  fX11_errors_l14 v0 t0 (0 : Int32) h
set_option maxRecDepth 100000 in
theorem mX11_errors_b11 {v0 : Nat} {t0 : Int32} {h : PH} {r : (Int32 × PH)} (hf : fX11_errors_b11 v0 t0 h = some r) : lez h (hX r.2) (hV r.2) := by
  unfold fX11_errors_b11 at hf
  have hle := lez_rf h
  exact lez_rt (mX11_errors_l14 hf) hle
set_option maxRecDepth 100000 in
theorem wX11_errors_b11 {E : PE} {p : Program} {l : Launch} {e : Env} {s : State} {m : MethodId} {args : Array Value} {below : List Frame} {meth : Method} {c : Code} {X0 V0 MC MS uc us : Nat} (X : Cx E p l e (rmv 50 MC MS) s m args below meth c RX11 cX11_errors 3 (some .int)) (hG : Gs E l) (hnm : meth.name = yX11_errors.name) {v0 : Nat} {t0 : Int32} {h : PH} {r : (Int32 × PH)} (hM : MC + X0 = (hX r.2)) (hN : MS + V0 = (hV r.2)) (hu : uc + X0 = hX h) (hv : us + V0 = hV h) (hf : fX11_errors_b11 v0 t0 h = some r)  : PW E p l e (rmv 50 MC MS) s m args below meth c 3 uc us (MQ below (QG E (fun v u => v = some (.int r.1) ∧ u = r.2)) args s MC MS (pA E)) h 11 [(0, some (.ref v0))] [.int t0] := by
  have hm1 : lez h (hX r.2) (hV r.2) := mX11_errors_b11 hf
  have hcm : uc ≤ MC := (by have o0 := hm1.1; have o1 := hM; have o2 := hu; (try simp only [hX_sI, hX_sR, hX_sL, hX_sD, hX_sIa, hX_sRa, hV_sI, hV_sR, hV_sL, hV_sD, hV_sIa, hV_sRa, hX_new, hV_new] at o0 o1 o2 ⊢); omega)
  have hsm : us ≤ MS := (by have o0 := hm1.2; have o1 := hN; have o2 := hv; (try simp only [hX_sI, hX_sR, hX_sL, hX_sD, hX_sIa, hX_sRa, hV_sI, hV_sR, hV_sL, hV_sD, hV_sIa, hV_sRa, hX_new, hV_new] at o0 o1 o2 ⊢); omega)
  clear hm1
  unfold fX11_errors_b11 at hf
  refine p_istore_n X (dcg dc_X11_errors 5 rfl) rfl (by decide) rfl ?_
  refine p_iconst (v := 0) X (dcg dc_X11_errors 6 rfl) (by decide) ?_
  refine p_istore_n X (dcg dc_X11_errors 7 rfl) rfl (by decide) rfl ?_
  refine p_pick [0, 1, 2] ?_
  exact wX11_errors_l14 X hG hnm hM hN hu hv hf 
noncomputable def fX11_errors_b0 (v0 : Nat) (h : PH) : Option (Int32 × PH) :=
  gd (hK h v0 = 11) (gs (hR h 11 v0 3) (fun a2 =>
  gd (hK h a2 = 3) (bd (fX3_countWrongWords a2 (hR h 11 v0 2) h) (fun z5 =>
  fX11_errors_b11 v0 z5.1 z5.2))))
set_option maxRecDepth 100000 in
theorem mX11_errors_b0 {v0 : Nat} {h : PH} {r : (Int32 × PH)} (hf : fX11_errors_b0 v0 h = some r) : lez h (hX r.2) (hV r.2) := by
  unfold fX11_errors_b0 at hf
  have hle := lez_rf h
  obtain ⟨hk1, hf⟩ := gd_some hf
  obtain ⟨a2, e3, hf⟩ := gs_some hf
  obtain ⟨hk4, hf⟩ := gd_some hf
  obtain ⟨z5, hz5, hf⟩ := bd_some hf
  have hle := lez_rt (mX3_countWrongWords hz5) hle
  exact lez_rt (mX11_errors_b11 hf) hle
set_option maxRecDepth 100000 in
theorem wX11_errors_b0 {E : PE} {p : Program} {l : Launch} {e : Env} {s : State} {m : MethodId} {args : Array Value} {below : List Frame} {meth : Method} {c : Code} {X0 V0 MC MS uc us : Nat} (X : Cx E p l e (rmv 50 MC MS) s m args below meth c RX11 cX11_errors 3 (some .int)) (hG : Gs E l) (hnm : meth.name = yX11_errors.name) {v0 : Nat} {h : PH} {r : (Int32 × PH)} (hM : MC + X0 = (hX r.2)) (hN : MS + V0 = (hV r.2)) (hu : uc + X0 = hX h) (hv : us + V0 = hV h) (hf : fX11_errors_b0 v0 h = some r)  : PW E p l e (rmv 50 MC MS) s m args below meth c 3 uc us (MQ below (QG E (fun v u => v = some (.int r.1) ∧ u = r.2)) args s MC MS (pA E)) h 0 [(0, some (.ref v0))] [] := by
  have hm1 : lez h (hX r.2) (hV r.2) := mX11_errors_b0 hf
  have hcm : uc ≤ MC := (by have o0 := hm1.1; have o1 := hM; have o2 := hu; (try simp only [hX_sI, hX_sR, hX_sL, hX_sD, hX_sIa, hX_sRa, hV_sI, hV_sR, hV_sL, hV_sD, hV_sIa, hV_sRa, hX_new, hV_new] at o0 o1 o2 ⊢); omega)
  have hsm : us ≤ MS := (by have o0 := hm1.2; have o1 := hN; have o2 := hv; (try simp only [hX_sI, hX_sR, hX_sL, hX_sD, hX_sIa, hX_sRa, hV_sI, hV_sR, hV_sL, hV_sD, hV_sIa, hV_sRa, hX_new, hV_new] at o0 o1 o2 ⊢); omega)
  clear hm1
  unfold fX11_errors_b0 at hf
  refine p_aload_n X (dcg dc_X11_errors 0 rfl) rfl rfl ?_
  obtain ⟨hk1, hf⟩ := gd_some hf
  refine p_getR X fl_X11_34 rfl (by decide) (dcg dc_X11_errors 1 rfl) hk1 ?_
  refine p_aload_n X (dcg dc_X11_errors 2 rfl) rfl rfl ?_
  refine p_getR X fl_X11_27 rfl (by decide) (dcg dc_X11_errors 3 rfl) hk1 ?_
  obtain ⟨a2, e3, hf⟩ := gs_some hf
  first | subst e3 | (try rw [e3])
  obtain ⟨hk4, hf⟩ := gd_some hf
  obtain ⟨z5, hz5, hf⟩ := bd_some hf
  have hc1 := mX3_countWrongWords hz5
  have hm1 : lez _ (hX r.2) (hV r.2) := mX11_errors_b11 hf
  refine p_callV (As := [va_rf _]) X ml_X11_326 (dcg dc_X11_errors 4 rfl) rfl rfl hk4 (wX3_countWrongWords hG hz5) (by decide) (room4 (Nat.le_of_ble_eq_true rfl)) (by have o0 := hm1.1; have o1 := hc1.1; have o2 := hM; have o3 := hu; (try simp only [hX_sI, hX_sR, hX_sL, hX_sD, hX_sIa, hX_sRa, hV_sI, hV_sR, hV_sL, hV_sD, hV_sIa, hV_sRa, hX_new, hV_new] at o0 o1 o2 o3 ⊢); omega) (by have o0 := hm1.2; have o1 := hc1.2; have o2 := hN; have o3 := hv; (try simp only [hX_sI, hX_sR, hX_sL, hX_sD, hX_sIa, hX_sRa, hV_sI, hV_sR, hV_sL, hV_sD, hV_sIa, hV_sRa, hX_new, hV_new] at o0 o1 o2 o3 ⊢); omega) ?_
  rintro _ u9 ⟨rfl, e9⟩; have e9 := e9.symm; subst e9
  refine p_pick [0] ?_
  exact wX11_errors_b11 X hG hnm hM hN (by have o0 := hc1.1; have o1 := hu; (try simp only [hX_sI, hX_sR, hX_sL, hX_sD, hX_sIa, hX_sRa, hV_sI, hV_sR, hV_sL, hV_sD, hV_sIa, hV_sRa, hX_new, hV_new] at o0 o1 ⊢); omega) (by have o0 := hc1.2; have o1 := hv; (try simp only [hX_sI, hX_sR, hX_sL, hX_sD, hX_sIa, hX_sRa, hV_sI, hV_sR, hV_sL, hV_sD, hV_sIa, hV_sRa, hX_new, hV_new] at o0 o1 ⊢); omega) hf 
noncomputable def fX11_errors (v0 : Nat) (h : PH) : Option (Int32 × PH) :=
  fX11_errors_b0 v0 h
set_option maxRecDepth 100000 in
theorem mX11_errors {v0 : Nat} {h : PH} {r : (Int32 × PH)} (hf : fX11_errors v0 h = some r) : lez h (hX r.2) (hV r.2) := by
  unfold fX11_errors at hf
  have hle := lez_rf h
  exact lez_rt (mX11_errors_b0 hf) hle
set_option maxRecDepth 100000 in
theorem wX11_errors {E : PE} {l : Launch} (hG : Gs E l) {v0 : Nat} {h : PH} {r : (Int32 × PH)} (hf : fX11_errors v0 h = some r) : Ct E l 50 ((hX r.2) - hX h) ((hV r.2) - hV h) yX11_errors cX11_errors 3 (some .int) [.ref v0] h (fun v u => v = some (.int r.1) ∧ u = r.2) := by
  have hmm := mX11_errors hf
  refine ct_of hG (by decide) (Nat.le_of_ble_eq_true rfl) ?_
  intro p e s m args below meth c X hnm
  show PW E p l e _ s m args below meth c _ 0 0 _ h 0 [(0, some (.ref v0))] []
  unfold fX11_errors at hf
  have hM := Nat.sub_add_cancel hmm.1
  have hN := Nat.sub_add_cancel hmm.2
  refine p_pick [0] ?_
  exact wX11_errors_b0 X hG hnm hM hN (Nat.zero_add _) (Nat.zero_add _) hf
