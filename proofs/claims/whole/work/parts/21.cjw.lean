/-! methods of the program (by program: wip/whole/gen2.py) -/
theorem dc_X11_undo : decs cX11_undo [(0, .aload_n 0, 1), (1, .getfield 41, 3), (4, .getfield 148, 3), (7, .ifCond .ne 5, 3), (10, .iconst (-1), 1), (11, .ireturn, 1), (12, .aload_n 0, 1), (13, .getfield 41, 3), (16, .invokevirtual 151, 3), (19, .istore_n 1, 1), (20, .aload_n 0, 1), (21, .getfield 41, 3), (24, .invokevirtual 154, 3), (27, .astore_n 2, 1), (28, .aload_n 0, 1), (29, .getfield 41, 3), (32, .invokevirtual 157, 3), (35, .aload_n 0, 1), (36, .iload_n 1, 1), (37, .aload_n 2, 1), (38, .invokevirtual 160, 3), (41, .iload_n 1, 1), (42, .ireturn, 1)] = true := by decide +kernel
noncomputable def fX11_undo_b41 (v1 : Int32) (h : PH) : Option (Int32 × PH) :=
  some ((v1, h))
set_option maxRecDepth 100000 in
theorem mX11_undo_b41 {v1 : Int32} {h : PH} {r : (Int32 × PH)} (hf : fX11_undo_b41 v1 h = some r) : lez h (hX r.2) (hV r.2) := by
  unfold fX11_undo_b41 at hf
  have hle := lez_rf h
  have ee := Option.some.inj hf; subst ee; exact hle
set_option maxRecDepth 100000 in
theorem wX11_undo_b41 {E : PE} {p : Program} {l : Launch} {e : Env} {s : State} {m : MethodId} {args : Array Value} {below : List Frame} {meth : Method} {c : Code} {X0 V0 MC MS uc us : Nat} (X : Cx E p l e (rmv 50 MC MS) s m args below meth c RX11 cX11_undo 3 (some .int)) (hG : Gs E l) (hnm : meth.name = yX11_undo.name) {v1 : Int32} {h : PH} {r : (Int32 × PH)} (hM : MC + X0 = (hX r.2)) (hN : MS + V0 = (hV r.2)) (hu : uc + X0 = hX h) (hv : us + V0 = hV h) (hf : fX11_undo_b41 v1 h = some r)  : PW E p l e (rmv 50 MC MS) s m args below meth c 3 uc us (MQ below (QG E (fun v u => v = some (.int r.1) ∧ u = r.2)) args s MC MS (pA E)) h 41 [(1, some (.int v1))] [] := by
  have hm1 : lez h (hX r.2) (hV r.2) := mX11_undo_b41 hf
  have hcm : uc ≤ MC := (by have o0 := hm1.1; have o1 := hM; have o2 := hu; (try simp only [hX_sI, hX_sR, hX_sL, hX_sD, hX_sIa, hX_sRa, hV_sI, hV_sR, hV_sL, hV_sD, hV_sIa, hV_sRa, hX_new, hV_new] at o0 o1 o2 ⊢); omega)
  have hsm : us ≤ MS := (by have o0 := hm1.2; have o1 := hN; have o2 := hv; (try simp only [hX_sI, hX_sR, hX_sL, hX_sD, hX_sIa, hX_sRa, hV_sI, hV_sR, hV_sL, hV_sD, hV_sIa, hV_sRa, hX_new, hV_new] at o0 o1 o2 ⊢); omega)
  clear hm1
  unfold fX11_undo_b41 at hf
  refine p_iload_n X (dcg dc_X11_undo 21 rfl) rfl rfl ?_
  have er := Option.some.inj hf
  subst er
  exact p_iret X rfl (dcg dc_X11_undo 22 rfl) ⟨rfl, rfl⟩ hcm hsm
noncomputable def fX11_undo_b0 (v0 : Nat) (h : PH) : Option (Int32 × PH) :=
  gd (hK h v0 = 11) (gs (hR h 11 v0 4) (fun a2 =>
  gd (hK h a2 = 5) (if (¬ (hI h 5 a2 3) = 0) then (gs (hR h 11 v0 4) (fun a5 =>
  gd (hK h a5 = 5) (bd (fX5_latestNumber a5 h) (fun z8 =>
  gs (hR h 11 v0 4) (fun a9 =>
  gd (hK h a9 = 5) (bd (fX5_latestText a9 h) (fun z12 =>
  gs (hR h 11 v0 4) (fun a13 =>
  gd (hK h a13 = 5) (bd (fX5_forgetLatest a13 h) (fun z16 =>
  gd (hK z16 v0 = 11) (bd (fX11_exchange v0 z8 z12 z16) (fun z18 =>
  fX11_undo_b41 z8 z18)))))))))))) else
  some (((-1 : Int32), h)))))
set_option maxRecDepth 100000 in
theorem mX11_undo_b0 {v0 : Nat} {h : PH} {r : (Int32 × PH)} (hf : fX11_undo_b0 v0 h = some r) : lez h (hX r.2) (hV r.2) := by
  unfold fX11_undo_b0 at hf
  have hle := lez_rf h
  obtain ⟨hk1, hf⟩ := gd_some hf
  obtain ⟨a2, e3, hf⟩ := gs_some hf
  obtain ⟨hk4, hf⟩ := gd_some hf
  rcases ite_or hf with ⟨q, hf⟩ | ⟨q, hf⟩
  · have hf := if_t q hf
    obtain ⟨a5, e6, hf⟩ := gs_some hf
    obtain ⟨hk7, hf⟩ := gd_some hf
    obtain ⟨z8, hz8, hf⟩ := bd_some hf
    obtain ⟨a9, e10, hf⟩ := gs_some hf
    obtain ⟨hk11, hf⟩ := gd_some hf
    obtain ⟨z12, hz12, hf⟩ := bd_some hf
    obtain ⟨a13, e14, hf⟩ := gs_some hf
    obtain ⟨hk15, hf⟩ := gd_some hf
    obtain ⟨z16, hz16, hf⟩ := bd_some hf
    have hle := lez_rt (lez_eq (mX5_forgetLatest hz16)) hle
    obtain ⟨hk17, hf⟩ := gd_some hf
    obtain ⟨z18, hz18, hf⟩ := bd_some hf
    have hle := lez_rt (mX11_exchange hz18) hle
    exact lez_rt (mX11_undo_b41 hf) hle
  · have hf := if_f q hf
    have ee := Option.some.inj hf; subst ee; exact hle
set_option maxRecDepth 100000 in
theorem wX11_undo_b0 {E : PE} {p : Program} {l : Launch} {e : Env} {s : State} {m : MethodId} {args : Array Value} {below : List Frame} {meth : Method} {c : Code} {X0 V0 MC MS uc us : Nat} (X : Cx E p l e (rmv 50 MC MS) s m args below meth c RX11 cX11_undo 3 (some .int)) (hG : Gs E l) (hnm : meth.name = yX11_undo.name) {v0 : Nat} {h : PH} {r : (Int32 × PH)} (hM : MC + X0 = (hX r.2)) (hN : MS + V0 = (hV r.2)) (hu : uc + X0 = hX h) (hv : us + V0 = hV h) (hf : fX11_undo_b0 v0 h = some r)  : PW E p l e (rmv 50 MC MS) s m args below meth c 3 uc us (MQ below (QG E (fun v u => v = some (.int r.1) ∧ u = r.2)) args s MC MS (pA E)) h 0 [(0, some (.ref v0))] [] := by
  have hm1 : lez h (hX r.2) (hV r.2) := mX11_undo_b0 hf
  have hcm : uc ≤ MC := (by have o0 := hm1.1; have o1 := hM; have o2 := hu; (try simp only [hX_sI, hX_sR, hX_sL, hX_sD, hX_sIa, hX_sRa, hV_sI, hV_sR, hV_sL, hV_sD, hV_sIa, hV_sRa, hX_new, hV_new] at o0 o1 o2 ⊢); omega)
  have hsm : us ≤ MS := (by have o0 := hm1.2; have o1 := hN; have o2 := hv; (try simp only [hX_sI, hX_sR, hX_sL, hX_sD, hX_sIa, hX_sRa, hV_sI, hV_sR, hV_sL, hV_sD, hV_sIa, hV_sRa, hX_new, hV_new] at o0 o1 o2 ⊢); omega)
  clear hm1
  unfold fX11_undo_b0 at hf
  refine p_aload_n X (dcg dc_X11_undo 0 rfl) rfl rfl ?_
  obtain ⟨hk1, hf⟩ := gd_some hf
  refine p_getR X fl_X11_41 rfl (by decide) (dcg dc_X11_undo 1 rfl) hk1 ?_
  obtain ⟨a2, e3, hf⟩ := gs_some hf
  first | subst e3 | (try rw [e3])
  obtain ⟨hk4, hf⟩ := gd_some hf
  refine p_getIn X fl_X11_148 rfl (by decide) (dcg dc_X11_undo 2 rfl) hk4 ?_
  refine p_if_ne (tgt := 12) X (dcg dc_X11_undo 3 rfl) (by decide) (fun q => ?_) (fun q => ?_)
  · have hf := if_t q hf
    refine p_aload_n X (dcg dc_X11_undo 6 rfl) rfl rfl ?_
    refine p_getR X fl_X11_41 rfl (by decide) (dcg dc_X11_undo 7 rfl) hk1 ?_
    obtain ⟨a5, e6, hf⟩ := gs_some hf
    first | subst e6 | (try rw [e6])
    obtain ⟨hk7, hf⟩ := gd_some hf
    obtain ⟨z8, hz8, hf⟩ := bd_some hf
    refine p_callV (As := []) X ml_X11_151 (dcg dc_X11_undo 8 rfl) rfl rfl hk7 (wX5_latestNumber hG hz8) (by decide) (room4 (Nat.le_of_ble_eq_true rfl)) hcm hsm ?_
    rintro _ u9 ⟨rfl, e9⟩; have e9 := e9.symm; subst e9
    refine p_istore_n X (dcg dc_X11_undo 9 rfl) rfl (by decide) rfl ?_
    refine p_aload_n X (dcg dc_X11_undo 10 rfl) rfl rfl ?_
    refine p_getR X fl_X11_41 rfl (by decide) (dcg dc_X11_undo 11 rfl) hk1 ?_
    obtain ⟨a9, e10, hf⟩ := gs_some hf
    first | subst e10 | (try rw [e10])
    obtain ⟨hk11, hf⟩ := gd_some hf
    obtain ⟨z12, hz12, hf⟩ := bd_some hf
    refine p_callV (As := []) X ml_X11_154 (dcg dc_X11_undo 12 rfl) rfl rfl hk11 (wX5_latestText hG hz12) (by decide) (room4 (Nat.le_of_ble_eq_true rfl)) hcm hsm ?_
    rintro _ u9 ⟨rfl, e9⟩; have e9 := e9.symm; subst e9
    refine p_astoreq_n X (dcg dc_X11_undo 13 rfl) rfl (by decide) rfl ?_
    refine p_aload_n X (dcg dc_X11_undo 14 rfl) rfl rfl ?_
    refine p_getR X fl_X11_41 rfl (by decide) (dcg dc_X11_undo 15 rfl) hk1 ?_
    obtain ⟨a13, e14, hf⟩ := gs_some hf
    first | subst e14 | (try rw [e14])
    obtain ⟨hk15, hf⟩ := gd_some hf
    obtain ⟨z16, hz16, hf⟩ := bd_some hf
    refine p_callV (As := []) X ml_X11_157 (dcg dc_X11_undo 16 rfl) rfl rfl hk15 (wX5_forgetLatest hG hz16) (by decide) (room4 (Nat.le_of_ble_eq_true rfl)) hcm hsm ?_
    rintro _ u9 ⟨rfl, e9⟩; have e9 := e9.symm; subst e9
    have hu := hu.trans (mX5_forgetLatest hz16).1
    have hv := hv.trans (mX5_forgetLatest hz16).2
    refine p_aload_n X (dcg dc_X11_undo 17 rfl) rfl rfl ?_
    refine p_iload_n X (dcg dc_X11_undo 18 rfl) rfl rfl ?_
    refine p_aloadq_n X (dcg dc_X11_undo 19 rfl) rfl rfl ?_
    obtain ⟨hk17, hf⟩ := gd_some hf
    obtain ⟨z18, hz18, hf⟩ := bd_some hf
    have hc1 := mX11_exchange hz18
    have hm1 : lez _ (hX r.2) (hV r.2) := mX11_undo_b41 hf
    refine p_callV (As := [_, va_rf _]) X ml_X11_160 (dcg dc_X11_undo 20 rfl) rfl rfl hk17 (wX11_exchange hG hz18) (by decide) (room4 (Nat.le_of_ble_eq_true rfl)) (by have o0 := hm1.1; have o1 := hc1.1; have o2 := hM; have o3 := hu; (try simp only [hX_sI, hX_sR, hX_sL, hX_sD, hX_sIa, hX_sRa, hV_sI, hV_sR, hV_sL, hV_sD, hV_sIa, hV_sRa, hX_new, hV_new] at o0 o1 o2 o3 ⊢); omega) (by have o0 := hm1.2; have o1 := hc1.2; have o2 := hN; have o3 := hv; (try simp only [hX_sI, hX_sR, hX_sL, hX_sD, hX_sIa, hX_sRa, hV_sI, hV_sR, hV_sL, hV_sD, hV_sIa, hV_sRa, hX_new, hV_new] at o0 o1 o2 o3 ⊢); omega) ?_
    rintro _ u9 ⟨rfl, e9⟩; have e9 := e9.symm; subst e9
    refine p_pick [1] ?_
    exact wX11_undo_b41 X hG hnm hM hN (by have o0 := hc1.1; have o1 := hu; (try simp only [hX_sI, hX_sR, hX_sL, hX_sD, hX_sIa, hX_sRa, hV_sI, hV_sR, hV_sL, hV_sD, hV_sIa, hV_sRa, hX_new, hV_new] at o0 o1 ⊢); omega) (by have o0 := hc1.2; have o1 := hv; (try simp only [hX_sI, hX_sR, hX_sL, hX_sD, hX_sIa, hX_sRa, hV_sI, hV_sR, hV_sL, hV_sD, hV_sIa, hV_sRa, hX_new, hV_new] at o0 o1 ⊢); omega) hf 
  · have hf := if_f q hf
    refine p_iconst (v := -1) X (dcg dc_X11_undo 4 rfl) (by decide) ?_
    have er := Option.some.inj hf
    subst er
    exact p_iret X rfl (dcg dc_X11_undo 5 rfl) ⟨rfl, rfl⟩ hcm hsm
noncomputable def fX11_undo (v0 : Nat) (h : PH) : Option (Int32 × PH) :=
  fX11_undo_b0 v0 h
set_option maxRecDepth 100000 in
theorem mX11_undo {v0 : Nat} {h : PH} {r : (Int32 × PH)} (hf : fX11_undo v0 h = some r) : lez h (hX r.2) (hV r.2) := by
  unfold fX11_undo at hf
  have hle := lez_rf h
  exact lez_rt (mX11_undo_b0 hf) hle
set_option maxRecDepth 100000 in
theorem wX11_undo {E : PE} {l : Launch} (hG : Gs E l) {v0 : Nat} {h : PH} {r : (Int32 × PH)} (hf : fX11_undo v0 h = some r) : Ct E l 50 ((hX r.2) - hX h) ((hV r.2) - hV h) yX11_undo cX11_undo 3 (some .int) [.ref v0] h (fun v u => v = some (.int r.1) ∧ u = r.2) := by
  have hmm := mX11_undo hf
  refine ct_of hG (by decide) (Nat.le_of_ble_eq_true rfl) ?_
  intro p e s m args below meth c X hnm
  show PW E p l e _ s m args below meth c _ 0 0 _ h 0 [(0, some (.ref v0))] []
  unfold fX11_undo at hf
  have hM := Nat.sub_add_cancel hmm.1
  have hN := Nat.sub_add_cancel hmm.2
  refine p_pick [0] ?_
  exact wX11_undo_b0 X hG hnm hM hN (Nat.zero_add _) (Nat.zero_add _) hf
theorem dc_X11_undoable : decs cX11_undoable [(0, .aload_n 0, 1), (1, .getfield 41, 3), (4, .getfield 148, 3), (7, .ireturn, 1)] = true := by decide +kernel
noncomputable def fX11_undoable (v0 : Nat) (h : PH) : Option Int32 :=
  gd (hK h v0 = 11) (gs (hR h 11 v0 4) (fun a2 =>
  gd (hK h a2 = 5) (some ((hI h 5 a2 3)))))
set_option maxRecDepth 100000 in
theorem wX11_undoable {E : PE} {l : Launch} (hG : Gs E l) {v0 : Nat} {h : PH} {r : Int32} (hf : fX11_undoable v0 h = some r) : Ct E l 0 0 0 yX11_undoable cX11_undoable 1 (some .int) [.ref v0] h (fun v u => v = some (.int r) ∧ u = h) := by
  refine ct_of hG (by decide) (Nat.le_of_ble_eq_true rfl) ?_
  intro p e s m args below meth c X hnm
  show PW E p l e _ s m args below meth c _ 0 0 _ h 0 [(0, some (.ref v0))] []
  unfold fX11_undoable at hf
  refine p_aload_n X (dcg dc_X11_undoable 0 rfl) rfl rfl ?_
  obtain ⟨hk1, hf⟩ := gd_some hf
  refine p_getR X fl_X11_41 rfl (by decide) (dcg dc_X11_undoable 1 rfl) hk1 ?_
  obtain ⟨a2, e3, hf⟩ := gs_some hf
  first | subst e3 | (try rw [e3])
  obtain ⟨hk4, hf⟩ := gd_some hf
  refine p_getIn X fl_X11_148 rfl (by decide) (dcg dc_X11_undoable 2 rfl) hk4 ?_
  have er := Option.some.inj hf
  subst er
  exact p_iret X rfl (dcg dc_X11_undoable 3 rfl) ⟨rfl, rfl⟩ (Nat.le_refl _) (Nat.le_refl _)
theorem dc_X11_texts : decs cX11_texts [(0, .iconst 0, 1), (1, .istore_n 1, 1), (2, .iconst 0, 1), (3, .istore_n 2, 1), (4, .iload_n 2, 1), (5, .bipush 100, 2), (7, .if_icmp .ge 21, 3), (10, .aload_n 0, 1), (11, .getfield 27, 3), (14, .iload_n 2, 1), (15, .aaload, 1), (16, .ifnull 6, 3), (19, .iinc 1 1, 3), (22, .iinc 2 1, 3), (25, .goto (-21), 3), (28, .iload_n 1, 1), (29, .ireturn, 1)] = true := by decide +kernel
noncomputable def fX11_texts_b22 (v0 : Nat) (v1 : Int32) (v2 : Int32) (h : PH) : Option ((Int32 × Int32) ⊕ Int32) :=
  some (.inl (v1, (v2 + 1)))
set_option maxRecDepth 100000 in
theorem wX11_texts_b22 {E : PE} {p : Program} {l : Launch} {e : Env} {s : State} {m : MethodId} {args : Array Value} {below : List Frame} {meth : Method} {c : Code} (X : Cx E p l e (rmv 0 0 0) s m args below meth c RX11 cX11_texts 3 (some .int)) (hG : Gs E l) (hnm : meth.name = yX11_texts.name) {v0 : Nat} {v1 : Int32} {v2 : Int32} {h : PH} {r : Int32} {x : ((Int32 × Int32) ⊕ Int32)} (hf : fX11_texts_b22 v0 v1 v2 h = some x) (k0 : ∀ z : (Int32 × Int32), x = .inl z → PW E p l e (rmv 0 0 0) s m args below meth c 3 0 0 (MQ below (QG E (fun v u => v = some (.int r) ∧ u = h)) args s 0 0 (pA E)) h 4 [(0, some (.ref v0)), (1, some (.int (z.1))), (2, some (.int (z.2)))] []) (kf : ∀ z : Int32, x = .inr z → z = r) : PW E p l e (rmv 0 0 0) s m args below meth c 3 0 0 (MQ below (QG E (fun v u => v = some (.int r) ∧ u = h)) args s 0 0 (pA E)) h 22 [(0, some (.ref v0)), (1, some (.int v1)), (2, some (.int v2))] [] := by
  unfold fX11_texts_b22 at hf
  refine p_iinc (v := 1) X (dcg dc_X11_texts 13 rfl) rfl (by decide) (by decide) rfl ?_
  refine p_goto (tgt := 4) X (dcg dc_X11_texts 14 rfl) (by decide) ?_
  refine p_pick [0, 1, 2] ?_
  exact k0 _ (Option.some.inj hf).symm
noncomputable def fX11_texts_c4 (v0 : Nat) (v1 : Int32) (v2 : Int32) (h : PH) : Option ((Int32 × Int32) ⊕ Int32) :=
  if ((100 : Int32) ≤ v2) then (mr (some (v1))) else
  gd (hK h v0 = 11) (gs (hR h 11 v0 2) (fun a4 =>
  gd (hK h a4 = 26 ∧ inb v2 (hN h a4)) (mq (hR h 26 a4 (Int32.toNatClampNeg v2)) (fX11_texts_b22 v0 v1 v2 h) (fun a8 =>
  fX11_texts_b22 v0 (v1 + 1) v2 h))))
set_option maxRecDepth 100000 in
theorem wX11_texts_c4 {E : PE} {p : Program} {l : Launch} {e : Env} {s : State} {m : MethodId} {args : Array Value} {below : List Frame} {meth : Method} {c : Code} (X : Cx E p l e (rmv 0 0 0) s m args below meth c RX11 cX11_texts 3 (some .int)) (hG : Gs E l) (hnm : meth.name = yX11_texts.name) {v0 : Nat} {v1 : Int32} {v2 : Int32} {h : PH} {r : Int32} {x : ((Int32 × Int32) ⊕ Int32)} (hf : fX11_texts_c4 v0 v1 v2 h = some x) (k0 : ∀ z : (Int32 × Int32), x = .inl z → PW E p l e (rmv 0 0 0) s m args below meth c 3 0 0 (MQ below (QG E (fun v u => v = some (.int r) ∧ u = h)) args s 0 0 (pA E)) h 4 [(0, some (.ref v0)), (1, some (.int (z.1))), (2, some (.int (z.2)))] []) (kf : ∀ z : Int32, x = .inr z → z = r) : PW E p l e (rmv 0 0 0) s m args below meth c 3 0 0 (MQ below (QG E (fun v u => v = some (.int r) ∧ u = h)) args s 0 0 (pA E)) h 4 [(0, some (.ref v0)), (1, some (.int v1)), (2, some (.int v2))] [] := by
  unfold fX11_texts_c4 at hf
  refine p_iload_n X (dcg dc_X11_texts 4 rfl) rfl rfl ?_
  refine p_bipush (v := 100) X (dcg dc_X11_texts 5 rfl) (by decide) ?_
  refine p_icmp_ge (tgt := 28) X (dcg dc_X11_texts 6 rfl) (by decide) (fun q => ?_) (fun q => ?_)
  · have hf := if_t q hf
    obtain ⟨y1, hf, hy2⟩ := mr_some hf
    have hy2f := kf y1 hy2
    subst hy2f
    refine p_iload_n X (dcg dc_X11_texts 15 rfl) rfl rfl ?_
    have er := Option.some.inj hf
    subst er
    exact p_iret X rfl (dcg dc_X11_texts 16 rfl) ⟨rfl, rfl⟩ (Nat.le_refl _) (Nat.le_refl _)
  · have hf := if_f q hf
    refine p_aload_n X (dcg dc_X11_texts 7 rfl) rfl rfl ?_
    obtain ⟨hk3, hf⟩ := gd_some hf
    refine p_getR X fl_X11_27 rfl (by decide) (dcg dc_X11_texts 8 rfl) hk3 ?_
    refine p_iload_n X (dcg dc_X11_texts 9 rfl) rfl rfl ?_
    obtain ⟨a4, e5, hf⟩ := gs_some hf
    first | subst e5 | (try rw [e5])
    obtain ⟨⟨hk7, hb6⟩, hf⟩ := gd_some hf
    refine p_aald26 X (dcg dc_X11_texts 10 rfl) hk7 (vp_of_inb hb6) ?_
    refine p_ifnull (tgt := 22) X (dcg dc_X11_texts 11 rfl) (by decide) (fun q => ?_) (fun a8 q => ?_)
    · have hk9 := mq_n q hf
      first | subst q | (try rw [q])
      have hf := hk9
      refine p_pick [0, 1, 2] ?_
      exact wX11_texts_b22 X hG hnm hf k0 kf
    · have hk9 := mq_s q hf
      first | subst q | (try rw [q])
      have hf := hk9
      refine p_iinc (v := 1) X (dcg dc_X11_texts 12 rfl) rfl (by decide) (by decide) rfl ?_
      refine p_pick [0, 1, 2] ?_
      exact wX11_texts_b22 X hG hnm hf k0 kf
noncomputable def fX11_texts_l4 (v0 : Nat) (v1 : Int32) (v2 : Int32) (h : PH) : Option Int32 := wh (fun z : (Int32 × Int32) => fX11_texts_c4 v0 (z.1) (z.2) h) (v1, v2)
set_option maxRecDepth 100000 in
theorem wX11_texts_l4 {E : PE} {p : Program} {l : Launch} {e : Env} {s : State} {m : MethodId} {args : Array Value} {below : List Frame} {meth : Method} {c : Code} (X : Cx E p l e (rmv 0 0 0) s m args below meth c RX11 cX11_texts 3 (some .int)) (hG : Gs E l) (hnm : meth.name = yX11_texts.name) {v0 : Nat} {v1 : Int32} {v2 : Int32} {h : PH} {r : Int32} (hf : fX11_texts_l4 v0 v1 v2 h = some r)  : PW E p l e (rmv 0 0 0) s m args below meth c 3 0 0 (MQ below (QG E (fun v u => v = some (.int r) ∧ u = h)) args s 0 0 (pA E)) h 4 [(0, some (.ref v0)), (1, some (.int v1)), (2, some (.int v2))] [] := by
  unfold fX11_texts_l4 at hf
  refine wh_ind (P := fun z => PW E p l e (rmv 0 0 0) s m args below meth c 3 0 0 (MQ below (QG E (fun v u => v = some (.int r) ∧ u = h)) args s 0 0 (pA E)) h 4 [(0, some (.ref v0)), (1, some (.int (z.1))), (2, some (.int (z.2)))] []) (fun z x0 hs i1 i2 => ?_) _ hf
  exact wX11_texts_c4 (r := r) (v0 := v0) (v1 := z.1) (v2 := z.2) (h := h) X hG hnm hs i1  i2
noncomputable def fX11_texts (v0 : Nat) (h : PH) : Option Int32 :=
  fX11_texts_l4 v0 (0 : Int32) (0 : Int32) h
set_option maxRecDepth 100000 in
theorem wX11_texts {E : PE} {l : Launch} (hG : Gs E l) {v0 : Nat} {h : PH} {r : Int32} (hf : fX11_texts v0 h = some r) : Ct E l 0 0 0 yX11_texts cX11_texts 3 (some .int) [.ref v0] h (fun v u => v = some (.int r) ∧ u = h) := by
  refine ct_of hG (by decide) (Nat.le_of_ble_eq_true rfl) ?_
  intro p e s m args below meth c X hnm
  show PW E p l e _ s m args below meth c _ 0 0 _ h 0 [(0, some (.ref v0))] []
  unfold fX11_texts at hf
  refine p_iconst (v := 0) X (dcg dc_X11_texts 0 rfl) (by decide) ?_
  refine p_istore_n X (dcg dc_X11_texts 1 rfl) rfl (by decide) rfl ?_
  refine p_iconst (v := 0) X (dcg dc_X11_texts 2 rfl) (by decide) ?_
  refine p_istore_n X (dcg dc_X11_texts 3 rfl) rfl (by decide) rfl ?_
  refine p_pick [0, 1, 2] ?_
  exact wX11_texts_l4 X hG hnm hf 
theorem dc_X11_nextText : decs cX11_nextText [(0, .iload_n 1, 1), (1, .iconst 0, 1), (2, .invokestatic 163, 3), (5, .istore_n 2, 1), (6, .iload_n 2, 1), (7, .bipush 100, 2), (9, .if_icmp .ge 20, 3), (12, .aload_n 0, 1), (13, .getfield 27, 3), (16, .iload_n 2, 1), (17, .aaload, 1), (18, .ifnull 5, 3), (21, .iload_n 2, 1), (22, .ireturn, 1), (23, .iinc 2 1, 3), (26, .goto (-20), 3), (29, .iconst (-1), 1), (30, .ireturn, 1)] = true := by decide +kernel
noncomputable def fX11_nextText_c6 (v0 : Nat) (v2 : Int32) (h : PH) : Option ((Int32) ⊕ Int32) :=
  if ((100 : Int32) ≤ v2) then (mr (some ((-1 : Int32)))) else
  gd (hK h v0 = 11) (gs (hR h 11 v0 2) (fun a4 =>
  gd (hK h a4 = 26 ∧ inb v2 (hN h a4)) (mq (hR h 26 a4 (Int32.toNatClampNeg v2)) (some (.inl ((v2 + 1)))) (fun a8 =>
  mr (some (v2))))))
set_option maxRecDepth 100000 in
theorem wX11_nextText_c6 {E : PE} {p : Program} {l : Launch} {e : Env} {s : State} {m : MethodId} {args : Array Value} {below : List Frame} {meth : Method} {c : Code} (X : Cx E p l e (rmv 1 0 0) s m args below meth c RX11 cX11_nextText 3 (some .int)) (hG : Gs E l) (hnm : meth.name = yX11_nextText.name) {v0 : Nat} {v2 : Int32} {h : PH} {r : Int32} {x : ((Int32) ⊕ Int32)} (hf : fX11_nextText_c6 v0 v2 h = some x) (k0 : ∀ z : (Int32), x = .inl z → PW E p l e (rmv 1 0 0) s m args below meth c 3 0 0 (MQ below (QG E (fun v u => v = some (.int r) ∧ u = h)) args s 0 0 (pA E)) h 6 [(0, some (.ref v0)), (2, some (.int (z)))] []) (kf : ∀ z : Int32, x = .inr z → z = r) : PW E p l e (rmv 1 0 0) s m args below meth c 3 0 0 (MQ below (QG E (fun v u => v = some (.int r) ∧ u = h)) args s 0 0 (pA E)) h 6 [(0, some (.ref v0)), (2, some (.int v2))] [] := by
  unfold fX11_nextText_c6 at hf
  refine p_iload_n X (dcg dc_X11_nextText 4 rfl) rfl rfl ?_
  refine p_bipush (v := 100) X (dcg dc_X11_nextText 5 rfl) (by decide) ?_
  refine p_icmp_ge (tgt := 29) X (dcg dc_X11_nextText 6 rfl) (by decide) (fun q => ?_) (fun q => ?_)
  · have hf := if_t q hf
    obtain ⟨y1, hf, hy2⟩ := mr_some hf
    have hy2f := kf y1 hy2
    subst hy2f
    refine p_iconst (v := -1) X (dcg dc_X11_nextText 16 rfl) (by decide) ?_
    have er := Option.some.inj hf
    subst er
    exact p_iret X rfl (dcg dc_X11_nextText 17 rfl) ⟨rfl, rfl⟩ (Nat.le_refl _) (Nat.le_refl _)
  · have hf := if_f q hf
    refine p_aload_n X (dcg dc_X11_nextText 7 rfl) rfl rfl ?_
    obtain ⟨hk3, hf⟩ := gd_some hf
    refine p_getR X fl_X11_27 rfl (by decide) (dcg dc_X11_nextText 8 rfl) hk3 ?_
    refine p_iload_n X (dcg dc_X11_nextText 9 rfl) rfl rfl ?_
    obtain ⟨a4, e5, hf⟩ := gs_some hf
    first | subst e5 | (try rw [e5])
    obtain ⟨⟨hk7, hb6⟩, hf⟩ := gd_some hf
    refine p_aald26 X (dcg dc_X11_nextText 10 rfl) hk7 (vp_of_inb hb6) ?_
    refine p_ifnull (tgt := 23) X (dcg dc_X11_nextText 11 rfl) (by decide) (fun q => ?_) (fun a8 q => ?_)
    · have hk11 := mq_n q hf
      first | subst q | (try rw [q])
      have hf := hk11
      refine p_iinc (v := 1) X (dcg dc_X11_nextText 14 rfl) rfl (by decide) (by decide) rfl ?_
      refine p_goto (tgt := 6) X (dcg dc_X11_nextText 15 rfl) (by decide) ?_
      refine p_pick [0, 2] ?_
      exact k0 _ (Option.some.inj hf).symm
    · have hk11 := mq_s q hf
      first | subst q | (try rw [q])
      have hf := hk11
      obtain ⟨y9, hf, hy10⟩ := mr_some hf
      have hy10f := kf y9 hy10
      subst hy10f
      refine p_iload_n X (dcg dc_X11_nextText 12 rfl) rfl rfl ?_
      have er := Option.some.inj hf
      subst er
      exact p_iret X rfl (dcg dc_X11_nextText 13 rfl) ⟨rfl, rfl⟩ (Nat.le_refl _) (Nat.le_refl _)
noncomputable def fX11_nextText_l6 (v0 : Nat) (v2 : Int32) (h : PH) : Option Int32 := wh (fun z : (Int32) => fX11_nextText_c6 v0 (z) h) (v2)
set_option maxRecDepth 100000 in
theorem wX11_nextText_l6 {E : PE} {p : Program} {l : Launch} {e : Env} {s : State} {m : MethodId} {args : Array Value} {below : List Frame} {meth : Method} {c : Code} (X : Cx E p l e (rmv 1 0 0) s m args below meth c RX11 cX11_nextText 3 (some .int)) (hG : Gs E l) (hnm : meth.name = yX11_nextText.name) {v0 : Nat} {v2 : Int32} {h : PH} {r : Int32} (hf : fX11_nextText_l6 v0 v2 h = some r)  : PW E p l e (rmv 1 0 0) s m args below meth c 3 0 0 (MQ below (QG E (fun v u => v = some (.int r) ∧ u = h)) args s 0 0 (pA E)) h 6 [(0, some (.ref v0)), (2, some (.int v2))] [] := by
  unfold fX11_nextText_l6 at hf
  refine wh_ind (P := fun z => PW E p l e (rmv 1 0 0) s m args below meth c 3 0 0 (MQ below (QG E (fun v u => v = some (.int r) ∧ u = h)) args s 0 0 (pA E)) h 6 [(0, some (.ref v0)), (2, some (.int (z)))] []) (fun z x0 hs i1 i2 => ?_) _ hf
  exact wX11_nextText_c6 (r := r) (v0 := v0) (v2 := z) (h := h) X hG hnm hs i1  i2
noncomputable def fX11_nextText (v0 : Nat) (v1 : Int32) (h : PH) : Option Int32 :=
  fX11_nextText_l6 v0 (if v1 < (0 : Int32) then (0 : Int32) else v1) h
set_option maxRecDepth 100000 in
theorem wX11_nextText {E : PE} {l : Launch} (hG : Gs E l) {v0 : Nat} {v1 : Int32} {h : PH} {r : Int32} (hf : fX11_nextText v0 v1 h = some r) : Ct E l 1 0 0 yX11_nextText cX11_nextText 3 (some .int) [.ref v0, .int v1] h (fun v u => v = some (.int r) ∧ u = h) := by
  refine ct_of hG (by decide) (Nat.le_of_ble_eq_true rfl) ?_
  intro p e s m args below meth c X hnm
  show PW E p l e _ s m args below meth c _ 0 0 _ h 0 [(0, some (.ref v0)), (1, some (.int v1))] []
  unfold fX11_nextText at hf
  refine p_iload_n X (dcg dc_X11_nextText 0 rfl) rfl rfl ?_
  refine p_iconst (v := 0) X (dcg dc_X11_nextText 1 rfl) (by decide) ?_
  refine p_mmax X tw_999 tw_445 tw_123 tw_446 (dcg dc_X11_nextText 2 rfl) (Nat.le_of_ble_eq_true rfl) (Nat.le_trans (Nat.add_le_add_right (room4 (Nat.le_of_ble_eq_true rfl)) 13) (Nat.le_of_ble_eq_true rfl)) (Nat.le_refl _) (Nat.le_refl _) (fun ls hl => X.2.2.1.trans hl.1.symm) ?_
  refine p_istore_n X (dcg dc_X11_nextText 3 rfl) rfl (by decide) rfl ?_
  refine p_pick [0, 2] ?_
  exact wX11_nextText_l6 X hG hnm hf 
theorem dc_X11_length : decs cX11_length [(0, .aload_n 0, 1), (1, .iload_n 1, 1), (2, .invokevirtual 119, 3), (5, .invokevirtual 123, 3), (8, .ireturn, 1)] = true := by decide +kernel
noncomputable def fX11_length_b5 (t0 : Option Nat) (h : PH) : Option ((Int32 × PH) ⊕ (Nat × PH)) :=
  gs t0 (fun a4 =>
  gd (hK h a4 = 8) (bd (fX8_size a4 h) (fun z7 =>
  some (.inl ((z7, h))))))
set_option maxRecDepth 100000 in
theorem mX11_length_b5 {t0 : Option Nat} {h : PH} {r : ((Int32 × PH) ⊕ (Nat × PH))} (hf : fX11_length_b5 t0 h = some r) : lez h (xT2 r) (vT2 r) := by
  unfold fX11_length_b5 at hf
  have hle := lez_rf h
  obtain ⟨a4, e5, hf⟩ := gs_some hf
  obtain ⟨hk6, hf⟩ := gd_some hf
  obtain ⟨z7, hz7, hf⟩ := bd_some hf
  have ee := Option.some.inj hf; subst ee; exact hle
set_option maxRecDepth 100000 in
theorem wX11_length_b5 {E : PE} {p : Program} {l : Launch} {e : Env} {s : State} {m : MethodId} {args : Array Value} {below : List Frame} {meth : Method} {c : Code} {X0 V0 MC MS uc us : Nat} (X : Cx E p l e (rmv 9 MC MS) s m args below meth c RX11 cX11_length 2 (some .int)) (hG : Gs E l) (hex : ∀ x ∈ c.exceptionTable.toList, False) {t0 : Option Nat} {h : PH} {r : ((Int32 × PH) ⊕ (Nat × PH))} (hM : MC + X0 = (xT2 r)) (hN : MS + V0 = (vT2 r)) (hu : uc + X0 = hX h) (hv : us + V0 = hV h) (hf : fX11_length_b5 t0 h = some r)  : PW E p l e (rmv 9 MC MS) s m args below meth c 2 uc us (vx_MQ below (QG E (fun v u => ∃ z, r = .inl z ∧ v = some (.int z.1) ∧ u = z.2)) (XG E (fun En u => ∃ (z : Nat × PH) (n : Nat), r = .inr z ∧ En = exn z.1 ∧ hX z.2 ≤ n ∧ u = hbump z.2 n)) args s MC MS (pA E)) h 5 [] [va_rf t0] := by
  have hm1 : lez h (xT2 r) (vT2 r) := mX11_length_b5 hf
  have hcm : uc ≤ MC := (by have o0 := hm1.1; have o1 := hM; have o2 := hu; (try simp only [hX_sI, hX_sR, hX_sL, hX_sD, hX_sIa, hX_sRa, hV_sI, hV_sR, hV_sL, hV_sD, hV_sIa, hV_sRa, hX_new, hV_new] at o0 o1 o2 ⊢); omega)
  have hsm : us ≤ MS := (by have o0 := hm1.2; have o1 := hN; have o2 := hv; (try simp only [hX_sI, hX_sR, hX_sL, hX_sD, hX_sIa, hX_sRa, hV_sI, hV_sR, hV_sL, hV_sD, hV_sIa, hV_sRa, hX_new, hV_new] at o0 o1 o2 ⊢); omega)
  clear hm1
  unfold fX11_length_b5 at hf
  obtain ⟨a4, e5, hf⟩ := gs_some hf
  first | subst e5 | (try rw [e5])
  obtain ⟨hk6, hf⟩ := gd_some hf
  obtain ⟨z7, hz7, hf⟩ := bd_some hf
  refine p_callV (As := []) X ml_X11_123 (dcg dc_X11_length 3 rfl) rfl rfl hk6 (wX8_size hG hz7) (by decide) (room4 (Nat.le_of_ble_eq_true rfl)) hcm hsm ?_
  rintro _ u9 ⟨rfl, e9⟩; have e9 := e9.symm; subst e9
  have er := Option.some.inj hf
  subst er
  refine p_vx ?_
  exact p_iret X rfl (dcg dc_X11_length 4 rfl) ⟨_, rfl, rfl, rfl⟩ hcm hsm
noncomputable def fX11_length_b0 (v0 : Nat) (v1 : Int32) (h : PH) : Option ((Int32 × PH) ⊕ (Nat × PH)) :=
  gd (hK h v0 = 11) (bx (fX11_demandText v0 v1 h) (fun z2 =>
  fX11_length_b5 z2.1 z2.2))
set_option maxRecDepth 100000 in
theorem mX11_length_b0 {v0 : Nat} {v1 : Int32} {h : PH} {r : ((Int32 × PH) ⊕ (Nat × PH))} (hf : fX11_length_b0 v0 v1 h = some r) : lez h (xT2 r) (vT2 r) := by
  unfold fX11_length_b0 at hf
  have hle := lez_rf h
  obtain ⟨hk1, hf⟩ := gd_some hf
  obtain ⟨y3, hy3, h1y3, h2y3⟩ := bx_some hf
  have hc1 := mX11_demandText hy3
  rcases y3 with z2 | z2
  · have hf := h1y3 z2 rfl
    have hle : lez h (hX z2.2) (hV z2.2) := lez_rt hc1 hle
    exact lez_rt (mX11_length_b5 hf) hle
  · have hr9 := h2y3 z2 rfl
    subst hr9
    exact lez_rt hc1 hle
set_option maxRecDepth 100000 in
theorem wX11_length_b0 {E : PE} {p : Program} {l : Launch} {e : Env} {s : State} {m : MethodId} {args : Array Value} {below : List Frame} {meth : Method} {c : Code} {X0 V0 MC MS uc us : Nat} (X : Cx E p l e (rmv 9 MC MS) s m args below meth c RX11 cX11_length 2 (some .int)) (hG : Gs E l) (hex : ∀ x ∈ c.exceptionTable.toList, False) {v0 : Nat} {v1 : Int32} {h : PH} {r : ((Int32 × PH) ⊕ (Nat × PH))} (hM : MC + X0 = (xT2 r)) (hN : MS + V0 = (vT2 r)) (hu : uc + X0 = hX h) (hv : us + V0 = hV h) (hf : fX11_length_b0 v0 v1 h = some r)  : PW E p l e (rmv 9 MC MS) s m args below meth c 2 uc us (vx_MQ below (QG E (fun v u => ∃ z, r = .inl z ∧ v = some (.int z.1) ∧ u = z.2)) (XG E (fun En u => ∃ (z : Nat × PH) (n : Nat), r = .inr z ∧ En = exn z.1 ∧ hX z.2 ≤ n ∧ u = hbump z.2 n)) args s MC MS (pA E)) h 0 [(0, some (.ref v0)), (1, some (.int v1))] [] := by
  have hm1 : lez h (xT2 r) (vT2 r) := mX11_length_b0 hf
  have hcm : uc ≤ MC := (by have o0 := hm1.1; have o1 := hM; have o2 := hu; (try simp only [hX_sI, hX_sR, hX_sL, hX_sD, hX_sIa, hX_sRa, hV_sI, hV_sR, hV_sL, hV_sD, hV_sIa, hV_sRa, hX_new, hV_new] at o0 o1 o2 ⊢); omega)
  have hsm : us ≤ MS := (by have o0 := hm1.2; have o1 := hN; have o2 := hv; (try simp only [hX_sI, hX_sR, hX_sL, hX_sD, hX_sIa, hX_sRa, hV_sI, hV_sR, hV_sL, hV_sD, hV_sIa, hV_sRa, hX_new, hV_new] at o0 o1 o2 ⊢); omega)
  clear hm1
  unfold fX11_length_b0 at hf
  refine p_aload_n X (dcg dc_X11_length 0 rfl) rfl rfl ?_
  refine p_iload_n X (dcg dc_X11_length 1 rfl) rfl rfl ?_
  obtain ⟨hk1, hf⟩ := gd_some hf
  obtain ⟨y3, hy3, h1y3, h2y3⟩ := bx_some hf
  have hc1 := mX11_demandText hy3
  rcases y3 with z2 | z2
  · have hf := h1y3 z2 rfl
    have hm1 : lez _ (xT2 r) (vT2 r) := mX11_length_b5 hf
    refine p_callVX (As := [_]) X hex ml_X11_119 (dcg dc_X11_length 2 rfl) rfl rfl hk1 (wX11_demandText hG hy3) (by decide) (room4 (Nat.le_of_ble_eq_true rfl)) (show uc + (hX z2.2 - hX h) ≤ MC from (by have o0 := hm1.1; have o1 := (show lez h (hX z2.2) (hV z2.2) from hc1).1; have o2 := hM; have o3 := hu; (try simp only [hX_sI, hX_sR, hX_sL, hX_sD, hX_sIa, hX_sRa, hV_sI, hV_sR, hV_sL, hV_sD, hV_sIa, hV_sRa, hX_new, hV_new] at o0 o1 o2 o3 ⊢); omega)) (show us + (hV z2.2 - hV h) ≤ MS from (by have o0 := hm1.2; have o1 := (show lez h (hX z2.2) (hV z2.2) from hc1).2; have o2 := hN; have o3 := hv; (try simp only [hX_sI, hX_sR, hX_sL, hX_sD, hX_sIa, hX_sRa, hV_sI, hV_sR, hV_sL, hV_sD, hV_sIa, hV_sRa, hX_new, hV_new] at o0 o1 o2 o3 ⊢); omega)) (show uc + (hX z2.2 - hX h) ≤ MC from (by have o0 := hm1.1; have o1 := (show lez h (hX z2.2) (hV z2.2) from hc1).1; have o2 := hM; have o3 := hu; (try simp only [hX_sI, hX_sR, hX_sL, hX_sD, hX_sIa, hX_sRa, hV_sI, hV_sR, hV_sL, hV_sD, hV_sIa, hV_sRa, hX_new, hV_new] at o0 o1 o2 o3 ⊢); omega)) (show us + (hV z2.2 - hV h) ≤ MS from (by have o0 := hm1.2; have o1 := (show lez h (hX z2.2) (hV z2.2) from hc1).2; have o2 := hN; have o3 := hv; (try simp only [hX_sI, hX_sR, hX_sL, hX_sD, hX_sIa, hX_sRa, hV_sI, hV_sR, hV_sL, hV_sD, hV_sIa, hV_sRa, hX_new, hV_new] at o0 o1 o2 o3 ⊢); omega)) (fun En u q => by obtain ⟨z9, n9, q9, _⟩ := q; cases q9) ?_
    rintro _ _ ⟨z9, hz9, rfl, rfl⟩
    cases hz9
    refine p_pick [] ?_
    exact wX11_length_b5 X hG hex hM hN (show uc + (hX z2.2 - hX h) + X0 = hX z2.2 from (by have o0 := (show lez h (hX z2.2) (hV z2.2) from hc1).1; have o1 := hu; (try simp only [hX_sI, hX_sR, hX_sL, hX_sD, hX_sIa, hX_sRa, hV_sI, hV_sR, hV_sL, hV_sD, hV_sIa, hV_sRa, hX_new, hV_new] at o0 o1 ⊢); omega)) (show us + (hV z2.2 - hV h) + V0 = hV z2.2 from (by have o0 := (show lez h (hX z2.2) (hV z2.2) from hc1).2; have o1 := hv; (try simp only [hX_sI, hX_sR, hX_sL, hX_sD, hX_sIa, hX_sRa, hV_sI, hV_sR, hV_sL, hV_sD, hV_sIa, hV_sRa, hX_new, hV_new] at o0 o1 ⊢); omega)) hf 
  · have hr9 := h2y3 z2 rfl
    subst hr9
    refine p_callVX (As := [_]) X hex ml_X11_119 (dcg dc_X11_length 2 rfl) rfl rfl hk1 (wX11_demandText hG hy3) (by decide) (room4 (Nat.le_of_ble_eq_true rfl)) (show uc + (hX z2.2 + 1 - hX h) ≤ MC from (by have o0 := (show lez h (hX z2.2 + 1) (hV z2.2 + 6) from hc1).1; have o1 := (show MC + X0 = hX z2.2 + 1 from hM); have o2 := hu; (try simp only [hX_sI, hX_sR, hX_sL, hX_sD, hX_sIa, hX_sRa, hV_sI, hV_sR, hV_sL, hV_sD, hV_sIa, hV_sRa, hX_new, hV_new] at o0 o1 o2 ⊢); omega)) (show us + (hV z2.2 + 6 - hV h) ≤ MS from (by have o0 := (show lez h (hX z2.2 + 1) (hV z2.2 + 6) from hc1).2; have o1 := (show MS + V0 = hV z2.2 + 6 from hN); have o2 := hv; (try simp only [hX_sI, hX_sR, hX_sL, hX_sD, hX_sIa, hX_sRa, hV_sI, hV_sR, hV_sL, hV_sD, hV_sIa, hV_sRa, hX_new, hV_new] at o0 o1 o2 ⊢); omega)) (show uc + (hX z2.2 + 1 - hX h) ≤ MC from (by have o0 := (show lez h (hX z2.2 + 1) (hV z2.2 + 6) from hc1).1; have o1 := (show MC + X0 = hX z2.2 + 1 from hM); have o2 := hu; (try simp only [hX_sI, hX_sR, hX_sL, hX_sD, hX_sIa, hX_sRa, hV_sI, hV_sR, hV_sL, hV_sD, hV_sIa, hV_sRa, hX_new, hV_new] at o0 o1 o2 ⊢); omega)) (show us + (hV z2.2 + 6 - hV h) ≤ MS from (by have o0 := (show lez h (hX z2.2 + 1) (hV z2.2 + 6) from hc1).2; have o1 := (show MS + V0 = hV z2.2 + 6 from hN); have o2 := hv; (try simp only [hX_sI, hX_sR, hX_sL, hX_sD, hX_sIa, hX_sRa, hV_sI, hV_sR, hV_sL, hV_sD, hV_sIa, hV_sRa, hX_new, hV_new] at o0 o1 o2 ⊢); omega)) (fun En u q => by obtain ⟨z9, n9, q9, q8⟩ := q; cases q9; exact ⟨_, n9, rfl, q8⟩) ?_
    rintro _ _ ⟨z9, hz9, _⟩
    cases hz9
noncomputable def fX11_length (v0 : Nat) (v1 : Int32) (h : PH) : Option ((Int32 × PH) ⊕ (Nat × PH)) :=
  fX11_length_b0 v0 v1 h
set_option maxRecDepth 100000 in
theorem mX11_length {v0 : Nat} {v1 : Int32} {h : PH} {r : ((Int32 × PH) ⊕ (Nat × PH))} (hf : fX11_length v0 v1 h = some r) : lez h (xT2 r) (vT2 r) := by
  unfold fX11_length at hf
  have hle := lez_rf h
  exact lez_rt (mX11_length_b0 hf) hle
set_option maxRecDepth 100000 in
theorem wX11_length {E : PE} {l : Launch} (hG : Gs E l) {v0 : Nat} {v1 : Int32} {h : PH} {r : ((Int32 × PH) ⊕ (Nat × PH))} (hf : fX11_length v0 v1 h = some r) : CtX E l 9 ((xT2 r) - hX h) ((vT2 r) - hV h) yX11_length cX11_length 2 (some .int) [.ref v0, .int v1] h (fun v u => ∃ z, r = .inl z ∧ v = some (.int z.1) ∧ u = z.2) (fun En u => ∃ (z : Nat × PH) (n : Nat), r = .inr z ∧ En = exn z.1 ∧ hX z.2 ≤ n ∧ u = hbump z.2 n) := by
  have hmm := mX11_length hf
  refine ctx_of hG (by decide) (Nat.le_of_ble_eq_true rfl) ?_
  intro p e s m args below meth c X hex
  show PW E p l e _ s m args below meth c _ 0 0 _ h 0 [(0, some (.ref v0)), (1, some (.int v1))] []
  unfold fX11_length at hf
  have hM := Nat.sub_add_cancel hmm.1
  have hN := Nat.sub_add_cancel hmm.2
  refine p_pick [0, 1] ?_
  exact wX11_length_b0 X hG hex hM hN (Nat.zero_add _) (Nat.zero_add _) hf
theorem dc_X11_wordAt : decs cX11_wordAt [(0, .aload_n 0, 1), (1, .iload_n 1, 1), (2, .invokevirtual 119, 3), (5, .astore_n 3, 1), (6, .aload_n 3, 1), (7, .iload_n 2, 1), (8, .invokestatic 135, 3), (11, .aload_n 3, 1), (12, .iload_n 2, 1), (13, .invokevirtual 142, 3), (16, .ireturn, 1)] = true := by decide +kernel
noncomputable def fX11_wordAt_b11 (v2 : Int32) (v3 : Option Nat) (h : PH) : Option ((Int32 × PH) ⊕ (Nat × PH)) :=
  gs v3 (fun a6 =>
  gd (hK h a6 = 8) (bd (fX8_at a6 v2 h) (fun z9 =>
  some (.inl ((z9, h))))))
set_option maxRecDepth 100000 in
theorem mX11_wordAt_b11 {v2 : Int32} {v3 : Option Nat} {h : PH} {r : ((Int32 × PH) ⊕ (Nat × PH))} (hf : fX11_wordAt_b11 v2 v3 h = some r) : lez h (xT2 r) (vT2 r) := by
  unfold fX11_wordAt_b11 at hf
  have hle := lez_rf h
  obtain ⟨a6, e7, hf⟩ := gs_some hf
  obtain ⟨hk8, hf⟩ := gd_some hf
  obtain ⟨z9, hz9, hf⟩ := bd_some hf
  have ee := Option.some.inj hf; subst ee; exact hle
set_option maxRecDepth 100000 in
theorem wX11_wordAt_b11 {E : PE} {p : Program} {l : Launch} {e : Env} {s : State} {m : MethodId} {args : Array Value} {below : List Frame} {meth : Method} {c : Code} {X0 V0 MC MS uc us : Nat} (X : Cx E p l e (rmv 9 MC MS) s m args below meth c RX11 cX11_wordAt 4 (some .int)) (hG : Gs E l) (hex : ∀ x ∈ c.exceptionTable.toList, False) {v2 : Int32} {v3 : Option Nat} {h : PH} {r : ((Int32 × PH) ⊕ (Nat × PH))} (hM : MC + X0 = (xT2 r)) (hN : MS + V0 = (vT2 r)) (hu : uc + X0 = hX h) (hv : us + V0 = hV h) (hf : fX11_wordAt_b11 v2 v3 h = some r)  : PW E p l e (rmv 9 MC MS) s m args below meth c 4 uc us (vx_MQ below (QG E (fun v u => ∃ z, r = .inl z ∧ v = some (.int z.1) ∧ u = z.2)) (XG E (fun En u => ∃ (z : Nat × PH) (n : Nat), r = .inr z ∧ En = exn z.1 ∧ hX z.2 ≤ n ∧ u = hbump z.2 n)) args s MC MS (pA E)) h 11 [(2, some (.int v2)), (3, some (va_rf v3))] [] := by
  have hm1 : lez h (xT2 r) (vT2 r) := mX11_wordAt_b11 hf
  have hcm : uc ≤ MC := (by have o0 := hm1.1; have o1 := hM; have o2 := hu; (try simp only [hX_sI, hX_sR, hX_sL, hX_sD, hX_sIa, hX_sRa, hV_sI, hV_sR, hV_sL, hV_sD, hV_sIa, hV_sRa, hX_new, hV_new] at o0 o1 o2 ⊢); omega)
  have hsm : us ≤ MS := (by have o0 := hm1.2; have o1 := hN; have o2 := hv; (try simp only [hX_sI, hX_sR, hX_sL, hX_sD, hX_sIa, hX_sRa, hV_sI, hV_sR, hV_sL, hV_sD, hV_sIa, hV_sRa, hX_new, hV_new] at o0 o1 o2 ⊢); omega)
  clear hm1
  unfold fX11_wordAt_b11 at hf
  refine p_aloadq_n X (dcg dc_X11_wordAt 7 rfl) rfl rfl ?_
  refine p_iload_n X (dcg dc_X11_wordAt 8 rfl) rfl rfl ?_
  obtain ⟨a6, e7, hf⟩ := gs_some hf
  first | subst e7 | (try rw [e7])
  obtain ⟨hk8, hf⟩ := gd_some hf
  obtain ⟨z9, hz9, hf⟩ := bd_some hf
  refine p_callV (As := [_]) X ml_X11_142 (dcg dc_X11_wordAt 9 rfl) rfl rfl hk8 (wX8_at hG hz9) (by decide) (room4 (Nat.le_of_ble_eq_true rfl)) hcm hsm ?_
  rintro _ u9 ⟨rfl, e9⟩; have e9 := e9.symm; subst e9
  have er := Option.some.inj hf
  subst er
  refine p_vx ?_
  exact p_iret X rfl (dcg dc_X11_wordAt 10 rfl) ⟨_, rfl, rfl, rfl⟩ hcm hsm
noncomputable def fX11_wordAt_b5 (v2 : Int32) (t0 : Option Nat) (h : PH) : Option ((Int32 × PH) ⊕ (Nat × PH)) :=
  bx (fX11_demandPlace t0 v2 h) (fun z4 =>
  fX11_wordAt_b11 v2 t0 z4)
set_option maxRecDepth 100000 in
theorem mX11_wordAt_b5 {v2 : Int32} {t0 : Option Nat} {h : PH} {r : ((Int32 × PH) ⊕ (Nat × PH))} (hf : fX11_wordAt_b5 v2 t0 h = some r) : lez h (xT2 r) (vT2 r) := by
  unfold fX11_wordAt_b5 at hf
  have hle := lez_rf h
  obtain ⟨y5, hy5, h1y5, h2y5⟩ := bx_some hf
  have hc1 := mX11_demandPlace hy5
  rcases y5 with z4 | z4
  · have hf := h1y5 z4 rfl
    have hle : lez h (hX z4) (hV z4) := lez_rt hc1 hle
    exact lez_rt (mX11_wordAt_b11 hf) hle
  · have hr9 := h2y5 z4 rfl
    subst hr9
    exact lez_rt hc1 hle
set_option maxRecDepth 100000 in
theorem wX11_wordAt_b5 {E : PE} {p : Program} {l : Launch} {e : Env} {s : State} {m : MethodId} {args : Array Value} {below : List Frame} {meth : Method} {c : Code} {X0 V0 MC MS uc us : Nat} (X : Cx E p l e (rmv 9 MC MS) s m args below meth c RX11 cX11_wordAt 4 (some .int)) (hG : Gs E l) (hex : ∀ x ∈ c.exceptionTable.toList, False) {v2 : Int32} {t0 : Option Nat} {h : PH} {r : ((Int32 × PH) ⊕ (Nat × PH))} (hM : MC + X0 = (xT2 r)) (hN : MS + V0 = (vT2 r)) (hu : uc + X0 = hX h) (hv : us + V0 = hV h) (hf : fX11_wordAt_b5 v2 t0 h = some r)  : PW E p l e (rmv 9 MC MS) s m args below meth c 4 uc us (vx_MQ below (QG E (fun v u => ∃ z, r = .inl z ∧ v = some (.int z.1) ∧ u = z.2)) (XG E (fun En u => ∃ (z : Nat × PH) (n : Nat), r = .inr z ∧ En = exn z.1 ∧ hX z.2 ≤ n ∧ u = hbump z.2 n)) args s MC MS (pA E)) h 5 [(2, some (.int v2))] [va_rf t0] := by
  have hm1 : lez h (xT2 r) (vT2 r) := mX11_wordAt_b5 hf
  have hcm : uc ≤ MC := (by have o0 := hm1.1; have o1 := hM; have o2 := hu; (try simp only [hX_sI, hX_sR, hX_sL, hX_sD, hX_sIa, hX_sRa, hV_sI, hV_sR, hV_sL, hV_sD, hV_sIa, hV_sRa, hX_new, hV_new] at o0 o1 o2 ⊢); omega)
  have hsm : us ≤ MS := (by have o0 := hm1.2; have o1 := hN; have o2 := hv; (try simp only [hX_sI, hX_sR, hX_sL, hX_sD, hX_sIa, hX_sRa, hV_sI, hV_sR, hV_sL, hV_sD, hV_sIa, hV_sRa, hX_new, hV_new] at o0 o1 o2 ⊢); omega)
  clear hm1
  unfold fX11_wordAt_b5 at hf
  refine p_astoreq_n X (dcg dc_X11_wordAt 3 rfl) rfl (by decide) rfl ?_
  refine p_aloadq_n X (dcg dc_X11_wordAt 4 rfl) rfl rfl ?_
  refine p_iload_n X (dcg dc_X11_wordAt 5 rfl) rfl rfl ?_
  obtain ⟨y5, hy5, h1y5, h2y5⟩ := bx_some hf
  have hc1 := mX11_demandPlace hy5
  rcases y5 with z4 | z4
  · have hf := h1y5 z4 rfl
    have hm1 : lez _ (xT2 r) (vT2 r) := mX11_wordAt_b11 hf
    refine p_callSX (As := [va_rf _, _]) X hex ml_X11_135 (dcg dc_X11_wordAt 6 rfl) rfl rfl  (wX11_demandPlace hG hy5) (by decide) (room4 (Nat.le_of_ble_eq_true rfl)) (show uc + (hX z4 - hX h) ≤ MC from (by have o0 := hm1.1; have o1 := (show lez h (hX z4) (hV z4) from hc1).1; have o2 := hM; have o3 := hu; (try simp only [hX_sI, hX_sR, hX_sL, hX_sD, hX_sIa, hX_sRa, hV_sI, hV_sR, hV_sL, hV_sD, hV_sIa, hV_sRa, hX_new, hV_new] at o0 o1 o2 o3 ⊢); omega)) (show us + (hV z4 - hV h) ≤ MS from (by have o0 := hm1.2; have o1 := (show lez h (hX z4) (hV z4) from hc1).2; have o2 := hN; have o3 := hv; (try simp only [hX_sI, hX_sR, hX_sL, hX_sD, hX_sIa, hX_sRa, hV_sI, hV_sR, hV_sL, hV_sD, hV_sIa, hV_sRa, hX_new, hV_new] at o0 o1 o2 o3 ⊢); omega)) (show uc + (hX z4 - hX h) ≤ MC from (by have o0 := hm1.1; have o1 := (show lez h (hX z4) (hV z4) from hc1).1; have o2 := hM; have o3 := hu; (try simp only [hX_sI, hX_sR, hX_sL, hX_sD, hX_sIa, hX_sRa, hV_sI, hV_sR, hV_sL, hV_sD, hV_sIa, hV_sRa, hX_new, hV_new] at o0 o1 o2 o3 ⊢); omega)) (show us + (hV z4 - hV h) ≤ MS from (by have o0 := hm1.2; have o1 := (show lez h (hX z4) (hV z4) from hc1).2; have o2 := hN; have o3 := hv; (try simp only [hX_sI, hX_sR, hX_sL, hX_sD, hX_sIa, hX_sRa, hV_sI, hV_sR, hV_sL, hV_sD, hV_sIa, hV_sRa, hX_new, hV_new] at o0 o1 o2 o3 ⊢); omega)) (fun En u q => by obtain ⟨z9, n9, q9, _⟩ := q; cases q9) ?_
    rintro _ _ ⟨z9, hz9, rfl, rfl⟩
    cases hz9
    refine p_pick [2, 3] ?_
    exact wX11_wordAt_b11 X hG hex hM hN (show uc + (hX z4 - hX h) + X0 = hX z4 from (by have o0 := (show lez h (hX z4) (hV z4) from hc1).1; have o1 := hu; (try simp only [hX_sI, hX_sR, hX_sL, hX_sD, hX_sIa, hX_sRa, hV_sI, hV_sR, hV_sL, hV_sD, hV_sIa, hV_sRa, hX_new, hV_new] at o0 o1 ⊢); omega)) (show us + (hV z4 - hV h) + V0 = hV z4 from (by have o0 := (show lez h (hX z4) (hV z4) from hc1).2; have o1 := hv; (try simp only [hX_sI, hX_sR, hX_sL, hX_sD, hX_sIa, hX_sRa, hV_sI, hV_sR, hV_sL, hV_sD, hV_sIa, hV_sRa, hX_new, hV_new] at o0 o1 ⊢); omega)) hf 
  · have hr9 := h2y5 z4 rfl
    subst hr9
    refine p_callSX (As := [va_rf _, _]) X hex ml_X11_135 (dcg dc_X11_wordAt 6 rfl) rfl rfl  (wX11_demandPlace hG hy5) (by decide) (room4 (Nat.le_of_ble_eq_true rfl)) (show uc + (hX z4.2 + 1 - hX h) ≤ MC from (by have o0 := (show lez h (hX z4.2 + 1) (hV z4.2 + 6) from hc1).1; have o1 := (show MC + X0 = hX z4.2 + 1 from hM); have o2 := hu; (try simp only [hX_sI, hX_sR, hX_sL, hX_sD, hX_sIa, hX_sRa, hV_sI, hV_sR, hV_sL, hV_sD, hV_sIa, hV_sRa, hX_new, hV_new] at o0 o1 o2 ⊢); omega)) (show us + (hV z4.2 + 6 - hV h) ≤ MS from (by have o0 := (show lez h (hX z4.2 + 1) (hV z4.2 + 6) from hc1).2; have o1 := (show MS + V0 = hV z4.2 + 6 from hN); have o2 := hv; (try simp only [hX_sI, hX_sR, hX_sL, hX_sD, hX_sIa, hX_sRa, hV_sI, hV_sR, hV_sL, hV_sD, hV_sIa, hV_sRa, hX_new, hV_new] at o0 o1 o2 ⊢); omega)) (show uc + (hX z4.2 + 1 - hX h) ≤ MC from (by have o0 := (show lez h (hX z4.2 + 1) (hV z4.2 + 6) from hc1).1; have o1 := (show MC + X0 = hX z4.2 + 1 from hM); have o2 := hu; (try simp only [hX_sI, hX_sR, hX_sL, hX_sD, hX_sIa, hX_sRa, hV_sI, hV_sR, hV_sL, hV_sD, hV_sIa, hV_sRa, hX_new, hV_new] at o0 o1 o2 ⊢); omega)) (show us + (hV z4.2 + 6 - hV h) ≤ MS from (by have o0 := (show lez h (hX z4.2 + 1) (hV z4.2 + 6) from hc1).2; have o1 := (show MS + V0 = hV z4.2 + 6 from hN); have o2 := hv; (try simp only [hX_sI, hX_sR, hX_sL, hX_sD, hX_sIa, hX_sRa, hV_sI, hV_sR, hV_sL, hV_sD, hV_sIa, hV_sRa, hX_new, hV_new] at o0 o1 o2 ⊢); omega)) (fun En u q => by obtain ⟨z9, n9, q9, q8⟩ := q; cases q9; exact ⟨_, n9, rfl, q8⟩) ?_
    rintro _ _ ⟨z9, hz9, _⟩
    cases hz9
noncomputable def fX11_wordAt_b0 (v0 : Nat) (v1 : Int32) (v2 : Int32) (h : PH) : Option ((Int32 × PH) ⊕ (Nat × PH)) :=
  gd (hK h v0 = 11) (bx (fX11_demandText v0 v1 h) (fun z2 =>
  fX11_wordAt_b5 v2 z2.1 z2.2))
set_option maxRecDepth 100000 in
theorem mX11_wordAt_b0 {v0 : Nat} {v1 : Int32} {v2 : Int32} {h : PH} {r : ((Int32 × PH) ⊕ (Nat × PH))} (hf : fX11_wordAt_b0 v0 v1 v2 h = some r) : lez h (xT2 r) (vT2 r) := by
  unfold fX11_wordAt_b0 at hf
  have hle := lez_rf h
  obtain ⟨hk1, hf⟩ := gd_some hf
  obtain ⟨y3, hy3, h1y3, h2y3⟩ := bx_some hf
  have hc1 := mX11_demandText hy3
  rcases y3 with z2 | z2
  · have hf := h1y3 z2 rfl
    have hle : lez h (hX z2.2) (hV z2.2) := lez_rt hc1 hle
    exact lez_rt (mX11_wordAt_b5 hf) hle
  · have hr9 := h2y3 z2 rfl
    subst hr9
    exact lez_rt hc1 hle
set_option maxRecDepth 100000 in
theorem wX11_wordAt_b0 {E : PE} {p : Program} {l : Launch} {e : Env} {s : State} {m : MethodId} {args : Array Value} {below : List Frame} {meth : Method} {c : Code} {X0 V0 MC MS uc us : Nat} (X : Cx E p l e (rmv 9 MC MS) s m args below meth c RX11 cX11_wordAt 4 (some .int)) (hG : Gs E l) (hex : ∀ x ∈ c.exceptionTable.toList, False) {v0 : Nat} {v1 : Int32} {v2 : Int32} {h : PH} {r : ((Int32 × PH) ⊕ (Nat × PH))} (hM : MC + X0 = (xT2 r)) (hN : MS + V0 = (vT2 r)) (hu : uc + X0 = hX h) (hv : us + V0 = hV h) (hf : fX11_wordAt_b0 v0 v1 v2 h = some r)  : PW E p l e (rmv 9 MC MS) s m args below meth c 4 uc us (vx_MQ below (QG E (fun v u => ∃ z, r = .inl z ∧ v = some (.int z.1) ∧ u = z.2)) (XG E (fun En u => ∃ (z : Nat × PH) (n : Nat), r = .inr z ∧ En = exn z.1 ∧ hX z.2 ≤ n ∧ u = hbump z.2 n)) args s MC MS (pA E)) h 0 [(0, some (.ref v0)), (1, some (.int v1)), (2, some (.int v2))] [] := by
  have hm1 : lez h (xT2 r) (vT2 r) := mX11_wordAt_b0 hf
  have hcm : uc ≤ MC := (by have o0 := hm1.1; have o1 := hM; have o2 := hu; (try simp only [hX_sI, hX_sR, hX_sL, hX_sD, hX_sIa, hX_sRa, hV_sI, hV_sR, hV_sL, hV_sD, hV_sIa, hV_sRa, hX_new, hV_new] at o0 o1 o2 ⊢); omega)
  have hsm : us ≤ MS := (by have o0 := hm1.2; have o1 := hN; have o2 := hv; (try simp only [hX_sI, hX_sR, hX_sL, hX_sD, hX_sIa, hX_sRa, hV_sI, hV_sR, hV_sL, hV_sD, hV_sIa, hV_sRa, hX_new, hV_new] at o0 o1 o2 ⊢); omega)
  clear hm1
  unfold fX11_wordAt_b0 at hf
  refine p_aload_n X (dcg dc_X11_wordAt 0 rfl) rfl rfl ?_
  refine p_iload_n X (dcg dc_X11_wordAt 1 rfl) rfl rfl ?_
  obtain ⟨hk1, hf⟩ := gd_some hf
  obtain ⟨y3, hy3, h1y3, h2y3⟩ := bx_some hf
  have hc1 := mX11_demandText hy3
  rcases y3 with z2 | z2
  · have hf := h1y3 z2 rfl
    have hm1 : lez _ (xT2 r) (vT2 r) := mX11_wordAt_b5 hf
    refine p_callVX (As := [_]) X hex ml_X11_119 (dcg dc_X11_wordAt 2 rfl) rfl rfl hk1 (wX11_demandText hG hy3) (by decide) (room4 (Nat.le_of_ble_eq_true rfl)) (show uc + (hX z2.2 - hX h) ≤ MC from (by have o0 := hm1.1; have o1 := (show lez h (hX z2.2) (hV z2.2) from hc1).1; have o2 := hM; have o3 := hu; (try simp only [hX_sI, hX_sR, hX_sL, hX_sD, hX_sIa, hX_sRa, hV_sI, hV_sR, hV_sL, hV_sD, hV_sIa, hV_sRa, hX_new, hV_new] at o0 o1 o2 o3 ⊢); omega)) (show us + (hV z2.2 - hV h) ≤ MS from (by have o0 := hm1.2; have o1 := (show lez h (hX z2.2) (hV z2.2) from hc1).2; have o2 := hN; have o3 := hv; (try simp only [hX_sI, hX_sR, hX_sL, hX_sD, hX_sIa, hX_sRa, hV_sI, hV_sR, hV_sL, hV_sD, hV_sIa, hV_sRa, hX_new, hV_new] at o0 o1 o2 o3 ⊢); omega)) (show uc + (hX z2.2 - hX h) ≤ MC from (by have o0 := hm1.1; have o1 := (show lez h (hX z2.2) (hV z2.2) from hc1).1; have o2 := hM; have o3 := hu; (try simp only [hX_sI, hX_sR, hX_sL, hX_sD, hX_sIa, hX_sRa, hV_sI, hV_sR, hV_sL, hV_sD, hV_sIa, hV_sRa, hX_new, hV_new] at o0 o1 o2 o3 ⊢); omega)) (show us + (hV z2.2 - hV h) ≤ MS from (by have o0 := hm1.2; have o1 := (show lez h (hX z2.2) (hV z2.2) from hc1).2; have o2 := hN; have o3 := hv; (try simp only [hX_sI, hX_sR, hX_sL, hX_sD, hX_sIa, hX_sRa, hV_sI, hV_sR, hV_sL, hV_sD, hV_sIa, hV_sRa, hX_new, hV_new] at o0 o1 o2 o3 ⊢); omega)) (fun En u q => by obtain ⟨z9, n9, q9, _⟩ := q; cases q9) ?_
    rintro _ _ ⟨z9, hz9, rfl, rfl⟩
    cases hz9
    refine p_pick [2] ?_
    exact wX11_wordAt_b5 X hG hex hM hN (show uc + (hX z2.2 - hX h) + X0 = hX z2.2 from (by have o0 := (show lez h (hX z2.2) (hV z2.2) from hc1).1; have o1 := hu; (try simp only [hX_sI, hX_sR, hX_sL, hX_sD, hX_sIa, hX_sRa, hV_sI, hV_sR, hV_sL, hV_sD, hV_sIa, hV_sRa, hX_new, hV_new] at o0 o1 ⊢); omega)) (show us + (hV z2.2 - hV h) + V0 = hV z2.2 from (by have o0 := (show lez h (hX z2.2) (hV z2.2) from hc1).2; have o1 := hv; (try simp only [hX_sI, hX_sR, hX_sL, hX_sD, hX_sIa, hX_sRa, hV_sI, hV_sR, hV_sL, hV_sD, hV_sIa, hV_sRa, hX_new, hV_new] at o0 o1 ⊢); omega)) hf 
  · have hr9 := h2y3 z2 rfl
    subst hr9
    refine p_callVX (As := [_]) X hex ml_X11_119 (dcg dc_X11_wordAt 2 rfl) rfl rfl hk1 (wX11_demandText hG hy3) (by decide) (room4 (Nat.le_of_ble_eq_true rfl)) (show uc + (hX z2.2 + 1 - hX h) ≤ MC from (by have o0 := (show lez h (hX z2.2 + 1) (hV z2.2 + 6) from hc1).1; have o1 := (show MC + X0 = hX z2.2 + 1 from hM); have o2 := hu; (try simp only [hX_sI, hX_sR, hX_sL, hX_sD, hX_sIa, hX_sRa, hV_sI, hV_sR, hV_sL, hV_sD, hV_sIa, hV_sRa, hX_new, hV_new] at o0 o1 o2 ⊢); omega)) (show us + (hV z2.2 + 6 - hV h) ≤ MS from (by have o0 := (show lez h (hX z2.2 + 1) (hV z2.2 + 6) from hc1).2; have o1 := (show MS + V0 = hV z2.2 + 6 from hN); have o2 := hv; (try simp only [hX_sI, hX_sR, hX_sL, hX_sD, hX_sIa, hX_sRa, hV_sI, hV_sR, hV_sL, hV_sD, hV_sIa, hV_sRa, hX_new, hV_new] at o0 o1 o2 ⊢); omega)) (show uc + (hX z2.2 + 1 - hX h) ≤ MC from (by have o0 := (show lez h (hX z2.2 + 1) (hV z2.2 + 6) from hc1).1; have o1 := (show MC + X0 = hX z2.2 + 1 from hM); have o2 := hu; (try simp only [hX_sI, hX_sR, hX_sL, hX_sD, hX_sIa, hX_sRa, hV_sI, hV_sR, hV_sL, hV_sD, hV_sIa, hV_sRa, hX_new, hV_new] at o0 o1 o2 ⊢); omega)) (show us + (hV z2.2 + 6 - hV h) ≤ MS from (by have o0 := (show lez h (hX z2.2 + 1) (hV z2.2 + 6) from hc1).2; have o1 := (show MS + V0 = hV z2.2 + 6 from hN); have o2 := hv; (try simp only [hX_sI, hX_sR, hX_sL, hX_sD, hX_sIa, hX_sRa, hV_sI, hV_sR, hV_sL, hV_sD, hV_sIa, hV_sRa, hX_new, hV_new] at o0 o1 o2 ⊢); omega)) (fun En u q => by obtain ⟨z9, n9, q9, q8⟩ := q; cases q9; exact ⟨_, n9, rfl, q8⟩) ?_
    rintro _ _ ⟨z9, hz9, _⟩
    cases hz9
noncomputable def fX11_wordAt (v0 : Nat) (v1 : Int32) (v2 : Int32) (h : PH) : Option ((Int32 × PH) ⊕ (Nat × PH)) :=
  fX11_wordAt_b0 v0 v1 v2 h
set_option maxRecDepth 100000 in
theorem mX11_wordAt {v0 : Nat} {v1 : Int32} {v2 : Int32} {h : PH} {r : ((Int32 × PH) ⊕ (Nat × PH))} (hf : fX11_wordAt v0 v1 v2 h = some r) : lez h (xT2 r) (vT2 r) := by
  unfold fX11_wordAt at hf
  have hle := lez_rf h
  exact lez_rt (mX11_wordAt_b0 hf) hle
set_option maxRecDepth 100000 in
theorem wX11_wordAt {E : PE} {l : Launch} (hG : Gs E l) {v0 : Nat} {v1 : Int32} {v2 : Int32} {h : PH} {r : ((Int32 × PH) ⊕ (Nat × PH))} (hf : fX11_wordAt v0 v1 v2 h = some r) : CtX E l 9 ((xT2 r) - hX h) ((vT2 r) - hV h) yX11_wordAt cX11_wordAt 4 (some .int) [.ref v0, .int v1, .int v2] h (fun v u => ∃ z, r = .inl z ∧ v = some (.int z.1) ∧ u = z.2) (fun En u => ∃ (z : Nat × PH) (n : Nat), r = .inr z ∧ En = exn z.1 ∧ hX z.2 ≤ n ∧ u = hbump z.2 n) := by
  have hmm := mX11_wordAt hf
  refine ctx_of hG (by decide) (Nat.le_of_ble_eq_true rfl) ?_
  intro p e s m args below meth c X hex
  show PW E p l e _ s m args below meth c _ 0 0 _ h 0 [(0, some (.ref v0)), (1, some (.int v1)), (2, some (.int v2))] []
  unfold fX11_wordAt at hf
  have hM := Nat.sub_add_cancel hmm.1
  have hN := Nat.sub_add_cancel hmm.2
  refine p_pick [0, 1, 2] ?_
  exact wX11_wordAt_b0 X hG hex hM hN (Nat.zero_add _) (Nat.zero_add _) hf
theorem dc_X11_letterAt : decs cX11_letterAt [(0, .aload_n 0, 1), (1, .iload_n 1, 1), (2, .invokevirtual 119, 3), (5, .astore 4, 2), (7, .aload 4, 2), (9, .iload_n 2, 1), (10, .invokestatic 135, 3), (13, .aload 4, 2), (15, .iload_n 2, 1), (16, .invokevirtual 142, 3), (19, .istore 5, 2), (21, .iload_n 3, 1), (22, .ifCond .lt 12, 3), (25, .iload_n 3, 1), (26, .iload 5, 2), (28, .invokestatic 169, 3), (31, .if_icmp .lt 11, 3), (34, .new 125, 3), (37, .dup, 1), (38, .invokespecial 127, 3), (41, .athrow, 1), (42, .iload 5, 2), (44, .iload_n 3, 1), (45, .invokestatic 174, 3), (48, .ireturn, 1)] = true := by decide +kernel
noncomputable def fX11_letterAt_b34  (h : PH) : Option ((Int32 × PH) ⊕ (Nat × PH)) :=
  some (.inr (2, h))
set_option maxRecDepth 100000 in
theorem mX11_letterAt_b34  {h : PH} {r : ((Int32 × PH) ⊕ (Nat × PH))} (hf : fX11_letterAt_b34  h = some r) : lez h (xT2 r) (vT2 r) := by
  unfold fX11_letterAt_b34 at hf
  have hle := lez_rf h
  cases hf; exact lez_up hle
set_option maxRecDepth 100000 in
theorem wX11_letterAt_b34 {E : PE} {p : Program} {l : Launch} {e : Env} {s : State} {m : MethodId} {args : Array Value} {below : List Frame} {meth : Method} {c : Code} {X0 V0 MC MS uc us : Nat} (X : Cx E p l e (rmv 9 MC MS) s m args below meth c RX11 cX11_letterAt 6 (some .char)) (hG : Gs E l) (hex : ∀ x ∈ c.exceptionTable.toList, False)  {h : PH} {r : ((Int32 × PH) ⊕ (Nat × PH))} (hM : MC + X0 = (xT2 r)) (hN : MS + V0 = (vT2 r)) (hu : uc + X0 = hX h) (hv : us + V0 = hV h) (hf : fX11_letterAt_b34  h = some r)  : PW E p l e (rmv 9 MC MS) s m args below meth c 6 uc us (vx_MQ below (QG E (fun v u => ∃ z, r = .inl z ∧ v = some (.int z.1) ∧ u = z.2)) (XG E (fun En u => ∃ (z : Nat × PH) (n : Nat), r = .inr z ∧ En = exn z.1 ∧ hX z.2 ≤ n ∧ u = hbump z.2 n)) args s MC MS (pA E)) h 34 [] [] := by
  have hm1 : lez h (xT2 r) (vT2 r) := mX11_letterAt_b34 hf
  have hcm : uc ≤ MC := (by have o0 := hm1.1; have o1 := hM; have o2 := hu; (try simp only [hX_sI, hX_sR, hX_sL, hX_sD, hX_sIa, hX_sRa, hV_sI, hV_sR, hV_sL, hV_sD, hV_sIa, hV_sRa, hX_new, hV_new] at o0 o1 o2 ⊢); omega)
  have hsm : us ≤ MS := (by have o0 := hm1.2; have o1 := hN; have o2 := hv; (try simp only [hX_sI, hX_sR, hX_sL, hX_sD, hX_sIa, hX_sRa, hV_sI, hV_sR, hV_sL, hV_sD, hV_sIa, hV_sRa, hX_new, hV_new] at o0 o1 o2 ⊢); omega)
  clear hm1
  unfold fX11_letterAt_b34 at hf
  have er := Option.some.inj hf
  subst er
  exact p_throw0 (cls := "java/lang/IndexOutOfBoundsException") (names := ["java/lang/RuntimeException", "java/lang/Exception"]) X hex (by decide) (by decide) tw_1205 tw_127 th_X11_127a th_X11_127b th_X11_127c th_X11_127d (dcg dc_X11_letterAt 17 rfl) (dcg dc_X11_letterAt 18 rfl) (dcg dc_X11_letterAt 19 rfl) (dcg dc_X11_letterAt 20 rfl) (Nat.le_of_ble_eq_true rfl) (Nat.le_trans (Nat.add_le_add_right (room4 (Nat.le_of_ble_eq_true rfl)) _) (Nat.le_of_ble_eq_true rfl)) (show uc + 1 ≤ MC from (by have o0 := (show MC + X0 = hX h + 1 from hM); have o1 := hu; (try simp only [hX_sI, hX_sR, hX_sL, hX_sD, hX_sIa, hX_sRa, hV_sI, hV_sR, hV_sL, hV_sD, hV_sIa, hV_sRa, hX_new, hV_new] at o0 o1 ⊢); omega)) (show us + 6 ≤ MS from (by have o0 := (show MS + V0 = hV h + 6 from hN); have o1 := hv; (try simp only [hX_sI, hX_sR, hX_sL, hX_sD, hX_sIa, hX_sRa, hV_sI, hV_sR, hV_sL, hV_sD, hV_sIa, hV_sRa, hX_new, hV_new] at o0 o1 ⊢); omega)) (show uc + 1 ≤ MC from (by have o0 := (show MC + X0 = hX h + 1 from hM); have o1 := hu; (try simp only [hX_sI, hX_sR, hX_sL, hX_sD, hX_sIa, hX_sRa, hV_sI, hV_sR, hV_sL, hV_sD, hV_sIa, hV_sRa, hX_new, hV_new] at o0 o1 ⊢); omega)) (show us + 6 ≤ MS from (by have o0 := (show MS + V0 = hV h + 6 from hN); have o1 := hv; (try simp only [hX_sI, hX_sR, hX_sL, hX_sD, hX_sIa, hX_sRa, hV_sI, hV_sR, hV_sL, hV_sD, hV_sIa, hV_sRa, hX_new, hV_new] at o0 o1 ⊢); omega)) (fun n hn => ⟨_, n, rfl, rfl, hn, rfl⟩)
noncomputable def fX11_letterAt_b13 (v2 : Int32) (v3 : Int32) (v4 : Option Nat) (h : PH) : Option ((Int32 × PH) ⊕ (Nat × PH)) :=
  gs v4 (fun a6 =>
  gd (hK h a6 = 8) (bd (fX8_at a6 v2 h) (fun z9 =>
  if (v3 < 0) then (fX11_letterAt_b34  h) else
  bd (fX10_lettersOf z9) (fun z10 =>
  if (v3 < z10) then (bd (fX10_letterOf z9 v3) (fun z11 =>
  gd ((((Int32.toUInt32 z11).toUInt16).toUInt32).toInt32 = z11) (some (.inl ((z11, h)))))) else
  fX11_letterAt_b34  h))))
set_option maxRecDepth 100000 in
theorem mX11_letterAt_b13 {v2 : Int32} {v3 : Int32} {v4 : Option Nat} {h : PH} {r : ((Int32 × PH) ⊕ (Nat × PH))} (hf : fX11_letterAt_b13 v2 v3 v4 h = some r) : lez h (xT2 r) (vT2 r) := by
  unfold fX11_letterAt_b13 at hf
  have hle := lez_rf h
  obtain ⟨a6, e7, hf⟩ := gs_some hf
  obtain ⟨hk8, hf⟩ := gd_some hf
  obtain ⟨z9, hz9, hf⟩ := bd_some hf
  rcases ite_or hf with ⟨q, hf⟩ | ⟨q, hf⟩
  · have hf := if_t q hf
    exact lez_rt (mX11_letterAt_b34 hf) hle
  · have hf := if_f q hf
    obtain ⟨z10, hz10, hf⟩ := bd_some hf
    rcases ite_or hf with ⟨q, hf⟩ | ⟨q, hf⟩
    · have hf := if_t q hf
      obtain ⟨z11, hz11, hf⟩ := bd_some hf
      obtain ⟨hg12, hf⟩ := gd_some hf
      have ee := Option.some.inj hf; subst ee; exact hle
    · have hf := if_f q hf
      exact lez_rt (mX11_letterAt_b34 hf) hle
set_option maxRecDepth 100000 in
theorem wX11_letterAt_b13 {E : PE} {p : Program} {l : Launch} {e : Env} {s : State} {m : MethodId} {args : Array Value} {below : List Frame} {meth : Method} {c : Code} {X0 V0 MC MS uc us : Nat} (X : Cx E p l e (rmv 9 MC MS) s m args below meth c RX11 cX11_letterAt 6 (some .char)) (hG : Gs E l) (hex : ∀ x ∈ c.exceptionTable.toList, False) {v2 : Int32} {v3 : Int32} {v4 : Option Nat} {h : PH} {r : ((Int32 × PH) ⊕ (Nat × PH))} (hM : MC + X0 = (xT2 r)) (hN : MS + V0 = (vT2 r)) (hu : uc + X0 = hX h) (hv : us + V0 = hV h) (hf : fX11_letterAt_b13 v2 v3 v4 h = some r)  : PW E p l e (rmv 9 MC MS) s m args below meth c 6 uc us (vx_MQ below (QG E (fun v u => ∃ z, r = .inl z ∧ v = some (.int z.1) ∧ u = z.2)) (XG E (fun En u => ∃ (z : Nat × PH) (n : Nat), r = .inr z ∧ En = exn z.1 ∧ hX z.2 ≤ n ∧ u = hbump z.2 n)) args s MC MS (pA E)) h 13 [(2, some (.int v2)), (3, some (.int v3)), (4, some (va_rf v4))] [] := by
  have hm1 : lez h (xT2 r) (vT2 r) := mX11_letterAt_b13 hf
  have hcm : uc ≤ MC := (by have o0 := hm1.1; have o1 := hM; have o2 := hu; (try simp only [hX_sI, hX_sR, hX_sL, hX_sD, hX_sIa, hX_sRa, hV_sI, hV_sR, hV_sL, hV_sD, hV_sIa, hV_sRa, hX_new, hV_new] at o0 o1 o2 ⊢); omega)
  have hsm : us ≤ MS := (by have o0 := hm1.2; have o1 := hN; have o2 := hv; (try simp only [hX_sI, hX_sR, hX_sL, hX_sD, hX_sIa, hX_sRa, hV_sI, hV_sR, hV_sL, hV_sD, hV_sIa, hV_sRa, hX_new, hV_new] at o0 o1 o2 ⊢); omega)
  clear hm1
  unfold fX11_letterAt_b13 at hf
  refine p_aloadq X (dcg dc_X11_letterAt 7 rfl) rfl ?_
  refine p_iload_n X (dcg dc_X11_letterAt 8 rfl) rfl rfl ?_
  obtain ⟨a6, e7, hf⟩ := gs_some hf
  first | subst e7 | (try rw [e7])
  obtain ⟨hk8, hf⟩ := gd_some hf
  obtain ⟨z9, hz9, hf⟩ := bd_some hf
  refine p_callV (As := [_]) X ml_X11_142 (dcg dc_X11_letterAt 9 rfl) rfl rfl hk8 (wX8_at hG hz9) (by decide) (room4 (Nat.le_of_ble_eq_true rfl)) hcm hsm ?_
  rintro _ u9 ⟨rfl, e9⟩; have e9 := e9.symm; subst e9
  refine p_istore X (dcg dc_X11_letterAt 10 rfl) (by decide) rfl ?_
  refine p_iload_n X (dcg dc_X11_letterAt 11 rfl) rfl rfl ?_
  refine p_if_lt (tgt := 34) X (dcg dc_X11_letterAt 12 rfl) (by decide) (fun q => ?_) (fun q => ?_)
  · have hf := if_t q hf
    refine p_pick [] ?_
    exact wX11_letterAt_b34 X hG hex hM hN hu hv hf 
  · have hf := if_f q hf
    refine p_iload_n X (dcg dc_X11_letterAt 13 rfl) rfl rfl ?_
    refine p_iload X (dcg dc_X11_letterAt 14 rfl) rfl ?_
    obtain ⟨z10, hz10, hf⟩ := bd_some hf
    refine p_callS (As := [_]) X ml_X11_169 (dcg dc_X11_letterAt 15 rfl) rfl rfl  (wX10_lettersOf hG hz10) (by decide) (room4 (Nat.le_of_ble_eq_true rfl)) hcm hsm ?_
    rintro _ u9 ⟨rfl, e9⟩; have e9 := e9.symm; subst e9
    refine p_icmp_lt (tgt := 42) X (dcg dc_X11_letterAt 16 rfl) (by decide) (fun q => ?_) (fun q => ?_)
    · have hf := if_t q hf
      refine p_iload X (dcg dc_X11_letterAt 21 rfl) rfl ?_
      refine p_iload_n X (dcg dc_X11_letterAt 22 rfl) rfl rfl ?_
      obtain ⟨z11, hz11, hf⟩ := bd_some hf
      refine p_callS (As := [_, _]) X ml_X11_174 (dcg dc_X11_letterAt 23 rfl) rfl rfl  (wX10_letterOf hG hz11) (by decide) (room4 (Nat.le_of_ble_eq_true rfl)) hcm hsm ?_
      rintro _ u9 ⟨rfl, e9⟩; have e9 := e9.symm; subst e9
      obtain ⟨hg12, hf⟩ := gd_some hf
      have er := Option.some.inj hf
      subst er
      refine p_vx ?_
      exact p_zret X rfl (congrArg Value.int hg12) (dcg dc_X11_letterAt 24 rfl) ⟨_, rfl, rfl, rfl⟩ hcm hsm
    · have hf := if_f q hf
      refine p_pick [] ?_
      exact wX11_letterAt_b34 X hG hex hM hN hu hv hf 
noncomputable def fX11_letterAt_b5 (v2 : Int32) (v3 : Int32) (t0 : Option Nat) (h : PH) : Option ((Int32 × PH) ⊕ (Nat × PH)) :=
  bx (fX11_demandPlace t0 v2 h) (fun z4 =>
  fX11_letterAt_b13 v2 v3 t0 z4)
set_option maxRecDepth 100000 in
theorem mX11_letterAt_b5 {v2 : Int32} {v3 : Int32} {t0 : Option Nat} {h : PH} {r : ((Int32 × PH) ⊕ (Nat × PH))} (hf : fX11_letterAt_b5 v2 v3 t0 h = some r) : lez h (xT2 r) (vT2 r) := by
  unfold fX11_letterAt_b5 at hf
  have hle := lez_rf h
  obtain ⟨y5, hy5, h1y5, h2y5⟩ := bx_some hf
  have hc1 := mX11_demandPlace hy5
  rcases y5 with z4 | z4
  · have hf := h1y5 z4 rfl
    have hle : lez h (hX z4) (hV z4) := lez_rt hc1 hle
    exact lez_rt (mX11_letterAt_b13 hf) hle
  · have hr9 := h2y5 z4 rfl
    subst hr9
    exact lez_rt hc1 hle
set_option maxRecDepth 100000 in
theorem wX11_letterAt_b5 {E : PE} {p : Program} {l : Launch} {e : Env} {s : State} {m : MethodId} {args : Array Value} {below : List Frame} {meth : Method} {c : Code} {X0 V0 MC MS uc us : Nat} (X : Cx E p l e (rmv 9 MC MS) s m args below meth c RX11 cX11_letterAt 6 (some .char)) (hG : Gs E l) (hex : ∀ x ∈ c.exceptionTable.toList, False) {v2 : Int32} {v3 : Int32} {t0 : Option Nat} {h : PH} {r : ((Int32 × PH) ⊕ (Nat × PH))} (hM : MC + X0 = (xT2 r)) (hN : MS + V0 = (vT2 r)) (hu : uc + X0 = hX h) (hv : us + V0 = hV h) (hf : fX11_letterAt_b5 v2 v3 t0 h = some r)  : PW E p l e (rmv 9 MC MS) s m args below meth c 6 uc us (vx_MQ below (QG E (fun v u => ∃ z, r = .inl z ∧ v = some (.int z.1) ∧ u = z.2)) (XG E (fun En u => ∃ (z : Nat × PH) (n : Nat), r = .inr z ∧ En = exn z.1 ∧ hX z.2 ≤ n ∧ u = hbump z.2 n)) args s MC MS (pA E)) h 5 [(2, some (.int v2)), (3, some (.int v3))] [va_rf t0] := by
  have hm1 : lez h (xT2 r) (vT2 r) := mX11_letterAt_b5 hf
  have hcm : uc ≤ MC := (by have o0 := hm1.1; have o1 := hM; have o2 := hu; (try simp only [hX_sI, hX_sR, hX_sL, hX_sD, hX_sIa, hX_sRa, hV_sI, hV_sR, hV_sL, hV_sD, hV_sIa, hV_sRa, hX_new, hV_new] at o0 o1 o2 ⊢); omega)
  have hsm : us ≤ MS := (by have o0 := hm1.2; have o1 := hN; have o2 := hv; (try simp only [hX_sI, hX_sR, hX_sL, hX_sD, hX_sIa, hX_sRa, hV_sI, hV_sR, hV_sL, hV_sD, hV_sIa, hV_sRa, hX_new, hV_new] at o0 o1 o2 ⊢); omega)
  clear hm1
  unfold fX11_letterAt_b5 at hf
  refine p_astoreq X (dcg dc_X11_letterAt 3 rfl) (by decide) rfl ?_
  refine p_aloadq X (dcg dc_X11_letterAt 4 rfl) rfl ?_
  refine p_iload_n X (dcg dc_X11_letterAt 5 rfl) rfl rfl ?_
  obtain ⟨y5, hy5, h1y5, h2y5⟩ := bx_some hf
  have hc1 := mX11_demandPlace hy5
  rcases y5 with z4 | z4
  · have hf := h1y5 z4 rfl
    have hm1 : lez _ (xT2 r) (vT2 r) := mX11_letterAt_b13 hf
    refine p_callSX (As := [va_rf _, _]) X hex ml_X11_135 (dcg dc_X11_letterAt 6 rfl) rfl rfl  (wX11_demandPlace hG hy5) (by decide) (room4 (Nat.le_of_ble_eq_true rfl)) (show uc + (hX z4 - hX h) ≤ MC from (by have o0 := hm1.1; have o1 := (show lez h (hX z4) (hV z4) from hc1).1; have o2 := hM; have o3 := hu; (try simp only [hX_sI, hX_sR, hX_sL, hX_sD, hX_sIa, hX_sRa, hV_sI, hV_sR, hV_sL, hV_sD, hV_sIa, hV_sRa, hX_new, hV_new] at o0 o1 o2 o3 ⊢); omega)) (show us + (hV z4 - hV h) ≤ MS from (by have o0 := hm1.2; have o1 := (show lez h (hX z4) (hV z4) from hc1).2; have o2 := hN; have o3 := hv; (try simp only [hX_sI, hX_sR, hX_sL, hX_sD, hX_sIa, hX_sRa, hV_sI, hV_sR, hV_sL, hV_sD, hV_sIa, hV_sRa, hX_new, hV_new] at o0 o1 o2 o3 ⊢); omega)) (show uc + (hX z4 - hX h) ≤ MC from (by have o0 := hm1.1; have o1 := (show lez h (hX z4) (hV z4) from hc1).1; have o2 := hM; have o3 := hu; (try simp only [hX_sI, hX_sR, hX_sL, hX_sD, hX_sIa, hX_sRa, hV_sI, hV_sR, hV_sL, hV_sD, hV_sIa, hV_sRa, hX_new, hV_new] at o0 o1 o2 o3 ⊢); omega)) (show us + (hV z4 - hV h) ≤ MS from (by have o0 := hm1.2; have o1 := (show lez h (hX z4) (hV z4) from hc1).2; have o2 := hN; have o3 := hv; (try simp only [hX_sI, hX_sR, hX_sL, hX_sD, hX_sIa, hX_sRa, hV_sI, hV_sR, hV_sL, hV_sD, hV_sIa, hV_sRa, hX_new, hV_new] at o0 o1 o2 o3 ⊢); omega)) (fun En u q => by obtain ⟨z9, n9, q9, _⟩ := q; cases q9) ?_
    rintro _ _ ⟨z9, hz9, rfl, rfl⟩
    cases hz9
    refine p_pick [2, 3, 4] ?_
    exact wX11_letterAt_b13 X hG hex hM hN (show uc + (hX z4 - hX h) + X0 = hX z4 from (by have o0 := (show lez h (hX z4) (hV z4) from hc1).1; have o1 := hu; (try simp only [hX_sI, hX_sR, hX_sL, hX_sD, hX_sIa, hX_sRa, hV_sI, hV_sR, hV_sL, hV_sD, hV_sIa, hV_sRa, hX_new, hV_new] at o0 o1 ⊢); omega)) (show us + (hV z4 - hV h) + V0 = hV z4 from (by have o0 := (show lez h (hX z4) (hV z4) from hc1).2; have o1 := hv; (try simp only [hX_sI, hX_sR, hX_sL, hX_sD, hX_sIa, hX_sRa, hV_sI, hV_sR, hV_sL, hV_sD, hV_sIa, hV_sRa, hX_new, hV_new] at o0 o1 ⊢); omega)) hf 
  · have hr9 := h2y5 z4 rfl
    subst hr9
    refine p_callSX (As := [va_rf _, _]) X hex ml_X11_135 (dcg dc_X11_letterAt 6 rfl) rfl rfl  (wX11_demandPlace hG hy5) (by decide) (room4 (Nat.le_of_ble_eq_true rfl)) (show uc + (hX z4.2 + 1 - hX h) ≤ MC from (by have o0 := (show lez h (hX z4.2 + 1) (hV z4.2 + 6) from hc1).1; have o1 := (show MC + X0 = hX z4.2 + 1 from hM); have o2 := hu; (try simp only [hX_sI, hX_sR, hX_sL, hX_sD, hX_sIa, hX_sRa, hV_sI, hV_sR, hV_sL, hV_sD, hV_sIa, hV_sRa, hX_new, hV_new] at o0 o1 o2 ⊢); omega)) (show us + (hV z4.2 + 6 - hV h) ≤ MS from (by have o0 := (show lez h (hX z4.2 + 1) (hV z4.2 + 6) from hc1).2; have o1 := (show MS + V0 = hV z4.2 + 6 from hN); have o2 := hv; (try simp only [hX_sI, hX_sR, hX_sL, hX_sD, hX_sIa, hX_sRa, hV_sI, hV_sR, hV_sL, hV_sD, hV_sIa, hV_sRa, hX_new, hV_new] at o0 o1 o2 ⊢); omega)) (show uc + (hX z4.2 + 1 - hX h) ≤ MC from (by have o0 := (show lez h (hX z4.2 + 1) (hV z4.2 + 6) from hc1).1; have o1 := (show MC + X0 = hX z4.2 + 1 from hM); have o2 := hu; (try simp only [hX_sI, hX_sR, hX_sL, hX_sD, hX_sIa, hX_sRa, hV_sI, hV_sR, hV_sL, hV_sD, hV_sIa, hV_sRa, hX_new, hV_new] at o0 o1 o2 ⊢); omega)) (show us + (hV z4.2 + 6 - hV h) ≤ MS from (by have o0 := (show lez h (hX z4.2 + 1) (hV z4.2 + 6) from hc1).2; have o1 := (show MS + V0 = hV z4.2 + 6 from hN); have o2 := hv; (try simp only [hX_sI, hX_sR, hX_sL, hX_sD, hX_sIa, hX_sRa, hV_sI, hV_sR, hV_sL, hV_sD, hV_sIa, hV_sRa, hX_new, hV_new] at o0 o1 o2 ⊢); omega)) (fun En u q => by obtain ⟨z9, n9, q9, q8⟩ := q; cases q9; exact ⟨_, n9, rfl, q8⟩) ?_
    rintro _ _ ⟨z9, hz9, _⟩
    cases hz9
noncomputable def fX11_letterAt_b0 (v0 : Nat) (v1 : Int32) (v2 : Int32) (v3 : Int32) (h : PH) : Option ((Int32 × PH) ⊕ (Nat × PH)) :=
  gd (hK h v0 = 11) (bx (fX11_demandText v0 v1 h) (fun z2 =>
  fX11_letterAt_b5 v2 v3 z2.1 z2.2))
set_option maxRecDepth 100000 in
theorem mX11_letterAt_b0 {v0 : Nat} {v1 : Int32} {v2 : Int32} {v3 : Int32} {h : PH} {r : ((Int32 × PH) ⊕ (Nat × PH))} (hf : fX11_letterAt_b0 v0 v1 v2 v3 h = some r) : lez h (xT2 r) (vT2 r) := by
  unfold fX11_letterAt_b0 at hf
  have hle := lez_rf h
  obtain ⟨hk1, hf⟩ := gd_some hf
  obtain ⟨y3, hy3, h1y3, h2y3⟩ := bx_some hf
  have hc1 := mX11_demandText hy3
  rcases y3 with z2 | z2
  · have hf := h1y3 z2 rfl
    have hle : lez h (hX z2.2) (hV z2.2) := lez_rt hc1 hle
    exact lez_rt (mX11_letterAt_b5 hf) hle
  · have hr9 := h2y3 z2 rfl
    subst hr9
    exact lez_rt hc1 hle
set_option maxRecDepth 100000 in
theorem wX11_letterAt_b0 {E : PE} {p : Program} {l : Launch} {e : Env} {s : State} {m : MethodId} {args : Array Value} {below : List Frame} {meth : Method} {c : Code} {X0 V0 MC MS uc us : Nat} (X : Cx E p l e (rmv 9 MC MS) s m args below meth c RX11 cX11_letterAt 6 (some .char)) (hG : Gs E l) (hex : ∀ x ∈ c.exceptionTable.toList, False) {v0 : Nat} {v1 : Int32} {v2 : Int32} {v3 : Int32} {h : PH} {r : ((Int32 × PH) ⊕ (Nat × PH))} (hM : MC + X0 = (xT2 r)) (hN : MS + V0 = (vT2 r)) (hu : uc + X0 = hX h) (hv : us + V0 = hV h) (hf : fX11_letterAt_b0 v0 v1 v2 v3 h = some r)  : PW E p l e (rmv 9 MC MS) s m args below meth c 6 uc us (vx_MQ below (QG E (fun v u => ∃ z, r = .inl z ∧ v = some (.int z.1) ∧ u = z.2)) (XG E (fun En u => ∃ (z : Nat × PH) (n : Nat), r = .inr z ∧ En = exn z.1 ∧ hX z.2 ≤ n ∧ u = hbump z.2 n)) args s MC MS (pA E)) h 0 [(0, some (.ref v0)), (1, some (.int v1)), (2, some (.int v2)), (3, some (.int v3))] [] := by
  have hm1 : lez h (xT2 r) (vT2 r) := mX11_letterAt_b0 hf
  have hcm : uc ≤ MC := (by have o0 := hm1.1; have o1 := hM; have o2 := hu; (try simp only [hX_sI, hX_sR, hX_sL, hX_sD, hX_sIa, hX_sRa, hV_sI, hV_sR, hV_sL, hV_sD, hV_sIa, hV_sRa, hX_new, hV_new] at o0 o1 o2 ⊢); omega)
  have hsm : us ≤ MS := (by have o0 := hm1.2; have o1 := hN; have o2 := hv; (try simp only [hX_sI, hX_sR, hX_sL, hX_sD, hX_sIa, hX_sRa, hV_sI, hV_sR, hV_sL, hV_sD, hV_sIa, hV_sRa, hX_new, hV_new] at o0 o1 o2 ⊢); omega)
  clear hm1
  unfold fX11_letterAt_b0 at hf
  refine p_aload_n X (dcg dc_X11_letterAt 0 rfl) rfl rfl ?_
  refine p_iload_n X (dcg dc_X11_letterAt 1 rfl) rfl rfl ?_
  obtain ⟨hk1, hf⟩ := gd_some hf
  obtain ⟨y3, hy3, h1y3, h2y3⟩ := bx_some hf
  have hc1 := mX11_demandText hy3
  rcases y3 with z2 | z2
  · have hf := h1y3 z2 rfl
    have hm1 : lez _ (xT2 r) (vT2 r) := mX11_letterAt_b5 hf
    refine p_callVX (As := [_]) X hex ml_X11_119 (dcg dc_X11_letterAt 2 rfl) rfl rfl hk1 (wX11_demandText hG hy3) (by decide) (room4 (Nat.le_of_ble_eq_true rfl)) (show uc + (hX z2.2 - hX h) ≤ MC from (by have o0 := hm1.1; have o1 := (show lez h (hX z2.2) (hV z2.2) from hc1).1; have o2 := hM; have o3 := hu; (try simp only [hX_sI, hX_sR, hX_sL, hX_sD, hX_sIa, hX_sRa, hV_sI, hV_sR, hV_sL, hV_sD, hV_sIa, hV_sRa, hX_new, hV_new] at o0 o1 o2 o3 ⊢); omega)) (show us + (hV z2.2 - hV h) ≤ MS from (by have o0 := hm1.2; have o1 := (show lez h (hX z2.2) (hV z2.2) from hc1).2; have o2 := hN; have o3 := hv; (try simp only [hX_sI, hX_sR, hX_sL, hX_sD, hX_sIa, hX_sRa, hV_sI, hV_sR, hV_sL, hV_sD, hV_sIa, hV_sRa, hX_new, hV_new] at o0 o1 o2 o3 ⊢); omega)) (show uc + (hX z2.2 - hX h) ≤ MC from (by have o0 := hm1.1; have o1 := (show lez h (hX z2.2) (hV z2.2) from hc1).1; have o2 := hM; have o3 := hu; (try simp only [hX_sI, hX_sR, hX_sL, hX_sD, hX_sIa, hX_sRa, hV_sI, hV_sR, hV_sL, hV_sD, hV_sIa, hV_sRa, hX_new, hV_new] at o0 o1 o2 o3 ⊢); omega)) (show us + (hV z2.2 - hV h) ≤ MS from (by have o0 := hm1.2; have o1 := (show lez h (hX z2.2) (hV z2.2) from hc1).2; have o2 := hN; have o3 := hv; (try simp only [hX_sI, hX_sR, hX_sL, hX_sD, hX_sIa, hX_sRa, hV_sI, hV_sR, hV_sL, hV_sD, hV_sIa, hV_sRa, hX_new, hV_new] at o0 o1 o2 o3 ⊢); omega)) (fun En u q => by obtain ⟨z9, n9, q9, _⟩ := q; cases q9) ?_
    rintro _ _ ⟨z9, hz9, rfl, rfl⟩
    cases hz9
    refine p_pick [2, 3] ?_
    exact wX11_letterAt_b5 X hG hex hM hN (show uc + (hX z2.2 - hX h) + X0 = hX z2.2 from (by have o0 := (show lez h (hX z2.2) (hV z2.2) from hc1).1; have o1 := hu; (try simp only [hX_sI, hX_sR, hX_sL, hX_sD, hX_sIa, hX_sRa, hV_sI, hV_sR, hV_sL, hV_sD, hV_sIa, hV_sRa, hX_new, hV_new] at o0 o1 ⊢); omega)) (show us + (hV z2.2 - hV h) + V0 = hV z2.2 from (by have o0 := (show lez h (hX z2.2) (hV z2.2) from hc1).2; have o1 := hv; (try simp only [hX_sI, hX_sR, hX_sL, hX_sD, hX_sIa, hX_sRa, hV_sI, hV_sR, hV_sL, hV_sD, hV_sIa, hV_sRa, hX_new, hV_new] at o0 o1 ⊢); omega)) hf 
  · have hr9 := h2y3 z2 rfl
    subst hr9
    refine p_callVX (As := [_]) X hex ml_X11_119 (dcg dc_X11_letterAt 2 rfl) rfl rfl hk1 (wX11_demandText hG hy3) (by decide) (room4 (Nat.le_of_ble_eq_true rfl)) (show uc + (hX z2.2 + 1 - hX h) ≤ MC from (by have o0 := (show lez h (hX z2.2 + 1) (hV z2.2 + 6) from hc1).1; have o1 := (show MC + X0 = hX z2.2 + 1 from hM); have o2 := hu; (try simp only [hX_sI, hX_sR, hX_sL, hX_sD, hX_sIa, hX_sRa, hV_sI, hV_sR, hV_sL, hV_sD, hV_sIa, hV_sRa, hX_new, hV_new] at o0 o1 o2 ⊢); omega)) (show us + (hV z2.2 + 6 - hV h) ≤ MS from (by have o0 := (show lez h (hX z2.2 + 1) (hV z2.2 + 6) from hc1).2; have o1 := (show MS + V0 = hV z2.2 + 6 from hN); have o2 := hv; (try simp only [hX_sI, hX_sR, hX_sL, hX_sD, hX_sIa, hX_sRa, hV_sI, hV_sR, hV_sL, hV_sD, hV_sIa, hV_sRa, hX_new, hV_new] at o0 o1 o2 ⊢); omega)) (show uc + (hX z2.2 + 1 - hX h) ≤ MC from (by have o0 := (show lez h (hX z2.2 + 1) (hV z2.2 + 6) from hc1).1; have o1 := (show MC + X0 = hX z2.2 + 1 from hM); have o2 := hu; (try simp only [hX_sI, hX_sR, hX_sL, hX_sD, hX_sIa, hX_sRa, hV_sI, hV_sR, hV_sL, hV_sD, hV_sIa, hV_sRa, hX_new, hV_new] at o0 o1 o2 ⊢); omega)) (show us + (hV z2.2 + 6 - hV h) ≤ MS from (by have o0 := (show lez h (hX z2.2 + 1) (hV z2.2 + 6) from hc1).2; have o1 := (show MS + V0 = hV z2.2 + 6 from hN); have o2 := hv; (try simp only [hX_sI, hX_sR, hX_sL, hX_sD, hX_sIa, hX_sRa, hV_sI, hV_sR, hV_sL, hV_sD, hV_sIa, hV_sRa, hX_new, hV_new] at o0 o1 o2 ⊢); omega)) (fun En u q => by obtain ⟨z9, n9, q9, q8⟩ := q; cases q9; exact ⟨_, n9, rfl, q8⟩) ?_
    rintro _ _ ⟨z9, hz9, _⟩
    cases hz9
noncomputable def fX11_letterAt (v0 : Nat) (v1 : Int32) (v2 : Int32) (v3 : Int32) (h : PH) : Option ((Int32 × PH) ⊕ (Nat × PH)) :=
  fX11_letterAt_b0 v0 v1 v2 v3 h
set_option maxRecDepth 100000 in
theorem mX11_letterAt {v0 : Nat} {v1 : Int32} {v2 : Int32} {v3 : Int32} {h : PH} {r : ((Int32 × PH) ⊕ (Nat × PH))} (hf : fX11_letterAt v0 v1 v2 v3 h = some r) : lez h (xT2 r) (vT2 r) := by
  unfold fX11_letterAt at hf
  have hle := lez_rf h
  exact lez_rt (mX11_letterAt_b0 hf) hle
set_option maxRecDepth 100000 in
theorem wX11_letterAt {E : PE} {l : Launch} (hG : Gs E l) {v0 : Nat} {v1 : Int32} {v2 : Int32} {v3 : Int32} {h : PH} {r : ((Int32 × PH) ⊕ (Nat × PH))} (hf : fX11_letterAt v0 v1 v2 v3 h = some r) : CtX E l 9 ((xT2 r) - hX h) ((vT2 r) - hV h) yX11_letterAt cX11_letterAt 6 (some .char) [.ref v0, .int v1, .int v2, .int v3] h (fun v u => ∃ z, r = .inl z ∧ v = some (.int z.1) ∧ u = z.2) (fun En u => ∃ (z : Nat × PH) (n : Nat), r = .inr z ∧ En = exn z.1 ∧ hX z.2 ≤ n ∧ u = hbump z.2 n) := by
  have hmm := mX11_letterAt hf
  refine ctx_of hG (by decide) (Nat.le_of_ble_eq_true rfl) ?_
  intro p e s m args below meth c X hex
  show PW E p l e _ s m args below meth c _ 0 0 _ h 0 [(0, some (.ref v0)), (1, some (.int v1)), (2, some (.int v2)), (3, some (.int v3))] []
  unfold fX11_letterAt at hf
  have hM := Nat.sub_add_cancel hmm.1
  have hN := Nat.sub_add_cancel hmm.2
  refine p_pick [0, 1, 2, 3] ?_
  exact wX11_letterAt_b0 X hG hex hM hN (Nat.zero_add _) (Nat.zero_add _) hf
theorem dc_X11_words : decs cX11_words [(0, .aload_n 0, 1), (1, .getfield 34, 3), (4, .invokevirtual 178, 3), (7, .ireturn, 1)] = true := by decide +kernel
noncomputable def fX11_words (v0 : Nat) (h : PH) : Option Int32 :=
  gd (hK h v0 = 11) (gs (hR h 11 v0 3) (fun a2 =>
  gd (hK h a2 = 3) (bd (fX3_size a2 h) (fun z5 =>
  some (z5)))))
set_option maxRecDepth 100000 in
theorem wX11_words {E : PE} {l : Launch} (hG : Gs E l) {v0 : Nat} {h : PH} {r : Int32} (hf : fX11_words v0 h = some r) : Ct E l 2 0 0 yX11_words cX11_words 1 (some .int) [.ref v0] h (fun v u => v = some (.int r) ∧ u = h) := by
  refine ct_of hG (by decide) (Nat.le_of_ble_eq_true rfl) ?_
  intro p e s m args below meth c X hnm
  show PW E p l e _ s m args below meth c _ 0 0 _ h 0 [(0, some (.ref v0))] []
  unfold fX11_words at hf
  refine p_aload_n X (dcg dc_X11_words 0 rfl) rfl rfl ?_
  obtain ⟨hk1, hf⟩ := gd_some hf
  refine p_getR X fl_X11_34 rfl (by decide) (dcg dc_X11_words 1 rfl) hk1 ?_
  obtain ⟨a2, e3, hf⟩ := gs_some hf
  first | subst e3 | (try rw [e3])
  obtain ⟨hk4, hf⟩ := gd_some hf
  obtain ⟨z5, hz5, hf⟩ := bd_some hf
  refine p_callV (As := []) X ml_X11_178 (dcg dc_X11_words 2 rfl) rfl rfl hk4 (wX3_size hG hz5) (by decide) (room4 (Nat.le_of_ble_eq_true rfl)) (Nat.le_refl _) (Nat.le_refl _) ?_
  rintro _ u9 ⟨rfl, e9⟩; have e9 := e9.symm; subst e9
  have er := Option.some.inj hf
  subst er
  exact p_iret X rfl (dcg dc_X11_words 3 rfl) ⟨rfl, rfl⟩ (Nat.le_refl _) (Nat.le_refl _)
theorem dc_X11_indexWord : decs cX11_indexWord [(0, .aload_n 0, 1), (1, .getfield 34, 3), (4, .iload_n 1, 1), (5, .invokevirtual 179, 3), (8, .istore_n 2, 1), (9, .iload_n 2, 1), (10, .iconst (-1), 1), (11, .if_icmp .ne 11, 3), (14, .new 125, 3), (17, .dup, 1), (18, .invokespecial 127, 3), (21, .athrow, 1), (22, .iload_n 2, 1), (23, .ireturn, 1)] = true := by decide +kernel
noncomputable def fX11_indexWord_b0 (v0 : Nat) (v1 : Int32) (h : PH) : Option ((Int32 × PH) ⊕ (Nat × PH)) :=
  gd (hK h v0 = 11) (gs (hR h 11 v0 3) (fun a2 =>
  gd (hK h a2 = 3) (bd (fX3_numberAt a2 v1 h) (fun z5 =>
  if (¬ z5 = (-1 : Int32)) then (some (.inl ((z5, h)))) else
  some (.inr (2, h))))))
set_option maxRecDepth 100000 in
theorem mX11_indexWord_b0 {v0 : Nat} {v1 : Int32} {h : PH} {r : ((Int32 × PH) ⊕ (Nat × PH))} (hf : fX11_indexWord_b0 v0 v1 h = some r) : lez h (xT2 r) (vT2 r) := by
  unfold fX11_indexWord_b0 at hf
  have hle := lez_rf h
  obtain ⟨hk1, hf⟩ := gd_some hf
  obtain ⟨a2, e3, hf⟩ := gs_some hf
  obtain ⟨hk4, hf⟩ := gd_some hf
  obtain ⟨z5, hz5, hf⟩ := bd_some hf
  rcases ite_or hf with ⟨q, hf⟩ | ⟨q, hf⟩
  · have hf := if_t q hf
    have ee := Option.some.inj hf; subst ee; exact hle
  · have hf := if_f q hf
    cases hf; exact lez_up hle
set_option maxRecDepth 100000 in
theorem wX11_indexWord_b0 {E : PE} {p : Program} {l : Launch} {e : Env} {s : State} {m : MethodId} {args : Array Value} {below : List Frame} {meth : Method} {c : Code} {X0 V0 MC MS uc us : Nat} (X : Cx E p l e (rmv 8 MC MS) s m args below meth c RX11 cX11_indexWord 3 (some .int)) (hG : Gs E l) (hex : ∀ x ∈ c.exceptionTable.toList, False) {v0 : Nat} {v1 : Int32} {h : PH} {r : ((Int32 × PH) ⊕ (Nat × PH))} (hM : MC + X0 = (xT2 r)) (hN : MS + V0 = (vT2 r)) (hu : uc + X0 = hX h) (hv : us + V0 = hV h) (hf : fX11_indexWord_b0 v0 v1 h = some r)  : PW E p l e (rmv 8 MC MS) s m args below meth c 3 uc us (vx_MQ below (QG E (fun v u => ∃ z, r = .inl z ∧ v = some (.int z.1) ∧ u = z.2)) (XG E (fun En u => ∃ (z : Nat × PH) (n : Nat), r = .inr z ∧ En = exn z.1 ∧ hX z.2 ≤ n ∧ u = hbump z.2 n)) args s MC MS (pA E)) h 0 [(0, some (.ref v0)), (1, some (.int v1))] [] := by
  have hm1 : lez h (xT2 r) (vT2 r) := mX11_indexWord_b0 hf
  have hcm : uc ≤ MC := (by have o0 := hm1.1; have o1 := hM; have o2 := hu; (try simp only [hX_sI, hX_sR, hX_sL, hX_sD, hX_sIa, hX_sRa, hV_sI, hV_sR, hV_sL, hV_sD, hV_sIa, hV_sRa, hX_new, hV_new] at o0 o1 o2 ⊢); omega)
  have hsm : us ≤ MS := (by have o0 := hm1.2; have o1 := hN; have o2 := hv; (try simp only [hX_sI, hX_sR, hX_sL, hX_sD, hX_sIa, hX_sRa, hV_sI, hV_sR, hV_sL, hV_sD, hV_sIa, hV_sRa, hX_new, hV_new] at o0 o1 o2 ⊢); omega)
  clear hm1
  unfold fX11_indexWord_b0 at hf
  refine p_aload_n X (dcg dc_X11_indexWord 0 rfl) rfl rfl ?_
  obtain ⟨hk1, hf⟩ := gd_some hf
  refine p_getR X fl_X11_34 rfl (by decide) (dcg dc_X11_indexWord 1 rfl) hk1 ?_
  refine p_iload_n X (dcg dc_X11_indexWord 2 rfl) rfl rfl ?_
  obtain ⟨a2, e3, hf⟩ := gs_some hf
  first | subst e3 | (try rw [e3])
  obtain ⟨hk4, hf⟩ := gd_some hf
  obtain ⟨z5, hz5, hf⟩ := bd_some hf
  refine p_callV (As := [_]) X ml_X11_179 (dcg dc_X11_indexWord 3 rfl) rfl rfl hk4 (wX3_numberAt hG hz5) (by decide) (room4 (Nat.le_of_ble_eq_true rfl)) hcm hsm ?_
  rintro _ u9 ⟨rfl, e9⟩; have e9 := e9.symm; subst e9
  refine p_istore_n X (dcg dc_X11_indexWord 4 rfl) rfl (by decide) rfl ?_
  refine p_iload_n X (dcg dc_X11_indexWord 5 rfl) rfl rfl ?_
  refine p_iconst (v := -1) X (dcg dc_X11_indexWord 6 rfl) (by decide) ?_
  refine p_icmp_ne (tgt := 22) X (dcg dc_X11_indexWord 7 rfl) (by decide) (fun q => ?_) (fun q => ?_)
  · have hf := if_t q hf
    refine p_iload_n X (dcg dc_X11_indexWord 12 rfl) rfl rfl ?_
    have er := Option.some.inj hf
    subst er
    refine p_vx ?_
    exact p_iret X rfl (dcg dc_X11_indexWord 13 rfl) ⟨_, rfl, rfl, rfl⟩ hcm hsm
  · have hf := if_f q hf
    have er := Option.some.inj hf
    subst er
    exact p_throw0 (cls := "java/lang/IndexOutOfBoundsException") (names := ["java/lang/RuntimeException", "java/lang/Exception"]) X hex (by decide) (by decide) tw_1205 tw_127 th_X11_127a th_X11_127b th_X11_127c th_X11_127d (dcg dc_X11_indexWord 8 rfl) (dcg dc_X11_indexWord 9 rfl) (dcg dc_X11_indexWord 10 rfl) (dcg dc_X11_indexWord 11 rfl) (Nat.le_of_ble_eq_true rfl) (Nat.le_trans (Nat.add_le_add_right (room4 (Nat.le_of_ble_eq_true rfl)) _) (Nat.le_of_ble_eq_true rfl)) (show uc + 1 ≤ MC from (by have o0 := (show MC + X0 = hX h + 1 from hM); have o1 := hu; (try simp only [hX_sI, hX_sR, hX_sL, hX_sD, hX_sIa, hX_sRa, hV_sI, hV_sR, hV_sL, hV_sD, hV_sIa, hV_sRa, hX_new, hV_new] at o0 o1 ⊢); omega)) (show us + 6 ≤ MS from (by have o0 := (show MS + V0 = hV h + 6 from hN); have o1 := hv; (try simp only [hX_sI, hX_sR, hX_sL, hX_sD, hX_sIa, hX_sRa, hV_sI, hV_sR, hV_sL, hV_sD, hV_sIa, hV_sRa, hX_new, hV_new] at o0 o1 ⊢); omega)) (show uc + 1 ≤ MC from (by have o0 := (show MC + X0 = hX h + 1 from hM); have o1 := hu; (try simp only [hX_sI, hX_sR, hX_sL, hX_sD, hX_sIa, hX_sRa, hV_sI, hV_sR, hV_sL, hV_sD, hV_sIa, hV_sRa, hX_new, hV_new] at o0 o1 ⊢); omega)) (show us + 6 ≤ MS from (by have o0 := (show MS + V0 = hV h + 6 from hN); have o1 := hv; (try simp only [hX_sI, hX_sR, hX_sL, hX_sD, hX_sIa, hX_sRa, hV_sI, hV_sR, hV_sL, hV_sD, hV_sIa, hV_sRa, hX_new, hV_new] at o0 o1 ⊢); omega)) (fun n hn => ⟨_, n, rfl, rfl, hn, rfl⟩)
noncomputable def fX11_indexWord (v0 : Nat) (v1 : Int32) (h : PH) : Option ((Int32 × PH) ⊕ (Nat × PH)) :=
  fX11_indexWord_b0 v0 v1 h
set_option maxRecDepth 100000 in
theorem mX11_indexWord {v0 : Nat} {v1 : Int32} {h : PH} {r : ((Int32 × PH) ⊕ (Nat × PH))} (hf : fX11_indexWord v0 v1 h = some r) : lez h (xT2 r) (vT2 r) := by
  unfold fX11_indexWord at hf
  have hle := lez_rf h
  exact lez_rt (mX11_indexWord_b0 hf) hle
set_option maxRecDepth 100000 in
theorem wX11_indexWord {E : PE} {l : Launch} (hG : Gs E l) {v0 : Nat} {v1 : Int32} {h : PH} {r : ((Int32 × PH) ⊕ (Nat × PH))} (hf : fX11_indexWord v0 v1 h = some r) : CtX E l 8 ((xT2 r) - hX h) ((vT2 r) - hV h) yX11_indexWord cX11_indexWord 3 (some .int) [.ref v0, .int v1] h (fun v u => ∃ z, r = .inl z ∧ v = some (.int z.1) ∧ u = z.2) (fun En u => ∃ (z : Nat × PH) (n : Nat), r = .inr z ∧ En = exn z.1 ∧ hX z.2 ≤ n ∧ u = hbump z.2 n) := by
  have hmm := mX11_indexWord hf
  refine ctx_of hG (by decide) (Nat.le_of_ble_eq_true rfl) ?_
  intro p e s m args below meth c X hex
  show PW E p l e _ s m args below meth c _ 0 0 _ h 0 [(0, some (.ref v0)), (1, some (.int v1))] []
  unfold fX11_indexWord at hf
  have hM := Nat.sub_add_cancel hmm.1
  have hN := Nat.sub_add_cancel hmm.2
  refine p_pick [0, 1] ?_
  exact wX11_indexWord_b0 X hG hex hM hN (Nat.zero_add _) (Nat.zero_add _) hf
theorem dc_X11_firstWord : decs cX11_firstWord [(0, .aload_n 0, 1), (1, .getfield 34, 3), (4, .iconst 0, 1), (5, .invokevirtual 179, 3), (8, .istore_n 1, 1), (9, .iload_n 1, 1), (10, .iconst (-1), 1), (11, .if_icmp .ne 11, 3), (14, .new 182, 3), (17, .dup, 1), (18, .invokespecial 184, 3), (21, .athrow, 1), (22, .iload_n 1, 1), (23, .ireturn, 1)] = true := by decide +kernel
noncomputable def fX11_firstWord_b0 (v0 : Nat) (h : PH) : Option ((Int32 × PH) ⊕ (Nat × PH)) :=
  gd (hK h v0 = 11) (gs (hR h 11 v0 3) (fun a2 =>
  gd (hK h a2 = 3) (bd (fX3_numberAt a2 (0 : Int32) h) (fun z5 =>
  if (¬ z5 = (-1 : Int32)) then (some (.inl ((z5, h)))) else
  some (.inr (3, h))))))
set_option maxRecDepth 100000 in
theorem mX11_firstWord_b0 {v0 : Nat} {h : PH} {r : ((Int32 × PH) ⊕ (Nat × PH))} (hf : fX11_firstWord_b0 v0 h = some r) : lez h (xT2 r) (vT2 r) := by
  unfold fX11_firstWord_b0 at hf
  have hle := lez_rf h
  obtain ⟨hk1, hf⟩ := gd_some hf
  obtain ⟨a2, e3, hf⟩ := gs_some hf
  obtain ⟨hk4, hf⟩ := gd_some hf
  obtain ⟨z5, hz5, hf⟩ := bd_some hf
  rcases ite_or hf with ⟨q, hf⟩ | ⟨q, hf⟩
  · have hf := if_t q hf
    have ee := Option.some.inj hf; subst ee; exact hle
  · have hf := if_f q hf
    cases hf; exact lez_up hle
set_option maxRecDepth 100000 in
theorem wX11_firstWord_b0 {E : PE} {p : Program} {l : Launch} {e : Env} {s : State} {m : MethodId} {args : Array Value} {below : List Frame} {meth : Method} {c : Code} {X0 V0 MC MS uc us : Nat} (X : Cx E p l e (rmv 8 MC MS) s m args below meth c RX11 cX11_firstWord 2 (some .int)) (hG : Gs E l) (hex : ∀ x ∈ c.exceptionTable.toList, False) {v0 : Nat} {h : PH} {r : ((Int32 × PH) ⊕ (Nat × PH))} (hM : MC + X0 = (xT2 r)) (hN : MS + V0 = (vT2 r)) (hu : uc + X0 = hX h) (hv : us + V0 = hV h) (hf : fX11_firstWord_b0 v0 h = some r)  : PW E p l e (rmv 8 MC MS) s m args below meth c 2 uc us (vx_MQ below (QG E (fun v u => ∃ z, r = .inl z ∧ v = some (.int z.1) ∧ u = z.2)) (XG E (fun En u => ∃ (z : Nat × PH) (n : Nat), r = .inr z ∧ En = exn z.1 ∧ hX z.2 ≤ n ∧ u = hbump z.2 n)) args s MC MS (pA E)) h 0 [(0, some (.ref v0))] [] := by
  have hm1 : lez h (xT2 r) (vT2 r) := mX11_firstWord_b0 hf
  have hcm : uc ≤ MC := (by have o0 := hm1.1; have o1 := hM; have o2 := hu; (try simp only [hX_sI, hX_sR, hX_sL, hX_sD, hX_sIa, hX_sRa, hV_sI, hV_sR, hV_sL, hV_sD, hV_sIa, hV_sRa, hX_new, hV_new] at o0 o1 o2 ⊢); omega)
  have hsm : us ≤ MS := (by have o0 := hm1.2; have o1 := hN; have o2 := hv; (try simp only [hX_sI, hX_sR, hX_sL, hX_sD, hX_sIa, hX_sRa, hV_sI, hV_sR, hV_sL, hV_sD, hV_sIa, hV_sRa, hX_new, hV_new] at o0 o1 o2 ⊢); omega)
  clear hm1
  unfold fX11_firstWord_b0 at hf
  refine p_aload_n X (dcg dc_X11_firstWord 0 rfl) rfl rfl ?_
  obtain ⟨hk1, hf⟩ := gd_some hf
  refine p_getR X fl_X11_34 rfl (by decide) (dcg dc_X11_firstWord 1 rfl) hk1 ?_
  refine p_iconst (v := 0) X (dcg dc_X11_firstWord 2 rfl) (by decide) ?_
  obtain ⟨a2, e3, hf⟩ := gs_some hf
  first | subst e3 | (try rw [e3])
  obtain ⟨hk4, hf⟩ := gd_some hf
  obtain ⟨z5, hz5, hf⟩ := bd_some hf
  refine p_callV (As := [_]) X ml_X11_179 (dcg dc_X11_firstWord 3 rfl) rfl rfl hk4 (wX3_numberAt hG hz5) (by decide) (room4 (Nat.le_of_ble_eq_true rfl)) hcm hsm ?_
  rintro _ u9 ⟨rfl, e9⟩; have e9 := e9.symm; subst e9
  refine p_istore_n X (dcg dc_X11_firstWord 4 rfl) rfl (by decide) rfl ?_
  refine p_iload_n X (dcg dc_X11_firstWord 5 rfl) rfl rfl ?_
  refine p_iconst (v := -1) X (dcg dc_X11_firstWord 6 rfl) (by decide) ?_
  refine p_icmp_ne (tgt := 22) X (dcg dc_X11_firstWord 7 rfl) (by decide) (fun q => ?_) (fun q => ?_)
  · have hf := if_t q hf
    refine p_iload_n X (dcg dc_X11_firstWord 12 rfl) rfl rfl ?_
    have er := Option.some.inj hf
    subst er
    refine p_vx ?_
    exact p_iret X rfl (dcg dc_X11_firstWord 13 rfl) ⟨_, rfl, rfl, rfl⟩ hcm hsm
  · have hf := if_f q hf
    have er := Option.some.inj hf
    subst er
    exact p_throw0 (cls := "java/util/NoSuchElementException") (names := ["java/lang/RuntimeException", "java/lang/Exception"]) X hex (by decide) (by decide) tw_1307 tw_136 th_X11_184a th_X11_184b th_X11_184c th_X11_184d (dcg dc_X11_firstWord 8 rfl) (dcg dc_X11_firstWord 9 rfl) (dcg dc_X11_firstWord 10 rfl) (dcg dc_X11_firstWord 11 rfl) (Nat.le_of_ble_eq_true rfl) (Nat.le_trans (Nat.add_le_add_right (room4 (Nat.le_of_ble_eq_true rfl)) _) (Nat.le_of_ble_eq_true rfl)) (show uc + 1 ≤ MC from (by have o0 := (show MC + X0 = hX h + 1 from hM); have o1 := hu; (try simp only [hX_sI, hX_sR, hX_sL, hX_sD, hX_sIa, hX_sRa, hV_sI, hV_sR, hV_sL, hV_sD, hV_sIa, hV_sRa, hX_new, hV_new] at o0 o1 ⊢); omega)) (show us + 6 ≤ MS from (by have o0 := (show MS + V0 = hV h + 6 from hN); have o1 := hv; (try simp only [hX_sI, hX_sR, hX_sL, hX_sD, hX_sIa, hX_sRa, hV_sI, hV_sR, hV_sL, hV_sD, hV_sIa, hV_sRa, hX_new, hV_new] at o0 o1 ⊢); omega)) (show uc + 1 ≤ MC from (by have o0 := (show MC + X0 = hX h + 1 from hM); have o1 := hu; (try simp only [hX_sI, hX_sR, hX_sL, hX_sD, hX_sIa, hX_sRa, hV_sI, hV_sR, hV_sL, hV_sD, hV_sIa, hV_sRa, hX_new, hV_new] at o0 o1 ⊢); omega)) (show us + 6 ≤ MS from (by have o0 := (show MS + V0 = hV h + 6 from hN); have o1 := hv; (try simp only [hX_sI, hX_sR, hX_sL, hX_sD, hX_sIa, hX_sRa, hV_sI, hV_sR, hV_sL, hV_sD, hV_sIa, hV_sRa, hX_new, hV_new] at o0 o1 ⊢); omega)) (fun n hn => ⟨_, n, rfl, rfl, hn, rfl⟩)
noncomputable def fX11_firstWord (v0 : Nat) (h : PH) : Option ((Int32 × PH) ⊕ (Nat × PH)) :=
  fX11_firstWord_b0 v0 h
set_option maxRecDepth 100000 in
theorem mX11_firstWord {v0 : Nat} {h : PH} {r : ((Int32 × PH) ⊕ (Nat × PH))} (hf : fX11_firstWord v0 h = some r) : lez h (xT2 r) (vT2 r) := by
  unfold fX11_firstWord at hf
  have hle := lez_rf h
  exact lez_rt (mX11_firstWord_b0 hf) hle
set_option maxRecDepth 100000 in
theorem wX11_firstWord {E : PE} {l : Launch} (hG : Gs E l) {v0 : Nat} {h : PH} {r : ((Int32 × PH) ⊕ (Nat × PH))} (hf : fX11_firstWord v0 h = some r) : CtX E l 8 ((xT2 r) - hX h) ((vT2 r) - hV h) yX11_firstWord cX11_firstWord 2 (some .int) [.ref v0] h (fun v u => ∃ z, r = .inl z ∧ v = some (.int z.1) ∧ u = z.2) (fun En u => ∃ (z : Nat × PH) (n : Nat), r = .inr z ∧ En = exn z.1 ∧ hX z.2 ≤ n ∧ u = hbump z.2 n) := by
  have hmm := mX11_firstWord hf
  refine ctx_of hG (by decide) (Nat.le_of_ble_eq_true rfl) ?_
  intro p e s m args below meth c X hex
  show PW E p l e _ s m args below meth c _ 0 0 _ h 0 [(0, some (.ref v0))] []
  unfold fX11_firstWord at hf
  have hM := Nat.sub_add_cancel hmm.1
  have hN := Nat.sub_add_cancel hmm.2
  refine p_pick [0] ?_
  exact wX11_firstWord_b0 X hG hex hM hN (Nat.zero_add _) (Nat.zero_add _) hf
theorem dc_X11_lastWord : decs cX11_lastWord [(0, .aload_n 0, 1), (1, .getfield 34, 3), (4, .aload_n 0, 1), (5, .getfield 34, 3), (8, .invokevirtual 178, 3), (11, .iconst 1, 1), (12, .isub, 1), (13, .invokevirtual 179, 3), (16, .istore_n 1, 1), (17, .iload_n 1, 1), (18, .iconst (-1), 1), (19, .if_icmp .ne 11, 3), (22, .new 182, 3), (25, .dup, 1), (26, .invokespecial 184, 3), (29, .athrow, 1), (30, .iload_n 1, 1), (31, .ireturn, 1)] = true := by decide +kernel
noncomputable def fX11_lastWord_b0 (v0 : Nat) (h : PH) : Option ((Int32 × PH) ⊕ (Nat × PH)) :=
  gd (hK h v0 = 11) (gs (hR h 11 v0 3) (fun a2 =>
  gd (hK h a2 = 3) (bd (fX3_size a2 h) (fun z5 =>
  bd (fX3_numberAt a2 (z5 - (1 : Int32)) h) (fun z6 =>
  if (¬ z6 = (-1 : Int32)) then (some (.inl ((z6, h)))) else
  some (.inr (3, h)))))))
set_option maxRecDepth 100000 in
theorem mX11_lastWord_b0 {v0 : Nat} {h : PH} {r : ((Int32 × PH) ⊕ (Nat × PH))} (hf : fX11_lastWord_b0 v0 h = some r) : lez h (xT2 r) (vT2 r) := by
  unfold fX11_lastWord_b0 at hf
  have hle := lez_rf h
  obtain ⟨hk1, hf⟩ := gd_some hf
  obtain ⟨a2, e3, hf⟩ := gs_some hf
  obtain ⟨hk4, hf⟩ := gd_some hf
  obtain ⟨z5, hz5, hf⟩ := bd_some hf
  obtain ⟨z6, hz6, hf⟩ := bd_some hf
  rcases ite_or hf with ⟨q, hf⟩ | ⟨q, hf⟩
  · have hf := if_t q hf
    have ee := Option.some.inj hf; subst ee; exact hle
  · have hf := if_f q hf
    cases hf; exact lez_up hle
set_option maxRecDepth 100000 in
theorem wX11_lastWord_b0 {E : PE} {p : Program} {l : Launch} {e : Env} {s : State} {m : MethodId} {args : Array Value} {below : List Frame} {meth : Method} {c : Code} {X0 V0 MC MS uc us : Nat} (X : Cx E p l e (rmv 8 MC MS) s m args below meth c RX11 cX11_lastWord 2 (some .int)) (hG : Gs E l) (hex : ∀ x ∈ c.exceptionTable.toList, False) {v0 : Nat} {h : PH} {r : ((Int32 × PH) ⊕ (Nat × PH))} (hM : MC + X0 = (xT2 r)) (hN : MS + V0 = (vT2 r)) (hu : uc + X0 = hX h) (hv : us + V0 = hV h) (hf : fX11_lastWord_b0 v0 h = some r)  : PW E p l e (rmv 8 MC MS) s m args below meth c 2 uc us (vx_MQ below (QG E (fun v u => ∃ z, r = .inl z ∧ v = some (.int z.1) ∧ u = z.2)) (XG E (fun En u => ∃ (z : Nat × PH) (n : Nat), r = .inr z ∧ En = exn z.1 ∧ hX z.2 ≤ n ∧ u = hbump z.2 n)) args s MC MS (pA E)) h 0 [(0, some (.ref v0))] [] := by
  have hm1 : lez h (xT2 r) (vT2 r) := mX11_lastWord_b0 hf
  have hcm : uc ≤ MC := (by have o0 := hm1.1; have o1 := hM; have o2 := hu; (try simp only [hX_sI, hX_sR, hX_sL, hX_sD, hX_sIa, hX_sRa, hV_sI, hV_sR, hV_sL, hV_sD, hV_sIa, hV_sRa, hX_new, hV_new] at o0 o1 o2 ⊢); omega)
  have hsm : us ≤ MS := (by have o0 := hm1.2; have o1 := hN; have o2 := hv; (try simp only [hX_sI, hX_sR, hX_sL, hX_sD, hX_sIa, hX_sRa, hV_sI, hV_sR, hV_sL, hV_sD, hV_sIa, hV_sRa, hX_new, hV_new] at o0 o1 o2 ⊢); omega)
  clear hm1
  unfold fX11_lastWord_b0 at hf
  refine p_aload_n X (dcg dc_X11_lastWord 0 rfl) rfl rfl ?_
  obtain ⟨hk1, hf⟩ := gd_some hf
  refine p_getR X fl_X11_34 rfl (by decide) (dcg dc_X11_lastWord 1 rfl) hk1 ?_
  refine p_aload_n X (dcg dc_X11_lastWord 2 rfl) rfl rfl ?_
  refine p_getR X fl_X11_34 rfl (by decide) (dcg dc_X11_lastWord 3 rfl) hk1 ?_
  obtain ⟨a2, e3, hf⟩ := gs_some hf
  first | subst e3 | (try rw [e3])
  obtain ⟨hk4, hf⟩ := gd_some hf
  obtain ⟨z5, hz5, hf⟩ := bd_some hf
  refine p_callV (As := []) X ml_X11_178 (dcg dc_X11_lastWord 4 rfl) rfl rfl hk4 (wX3_size hG hz5) (by decide) (room4 (Nat.le_of_ble_eq_true rfl)) hcm hsm ?_
  rintro _ u9 ⟨rfl, e9⟩; have e9 := e9.symm; subst e9
  refine p_iconst (v := 1) X (dcg dc_X11_lastWord 5 rfl) (by decide) ?_
  refine p_isub X (dcg dc_X11_lastWord 6 rfl) ?_
  obtain ⟨z6, hz6, hf⟩ := bd_some hf
  refine p_callV (As := [_]) X ml_X11_179 (dcg dc_X11_lastWord 7 rfl) rfl rfl hk4 (wX3_numberAt hG hz6) (by decide) (room4 (Nat.le_of_ble_eq_true rfl)) hcm hsm ?_
  rintro _ u9 ⟨rfl, e9⟩; have e9 := e9.symm; subst e9
  refine p_istore_n X (dcg dc_X11_lastWord 8 rfl) rfl (by decide) rfl ?_
  refine p_iload_n X (dcg dc_X11_lastWord 9 rfl) rfl rfl ?_
  refine p_iconst (v := -1) X (dcg dc_X11_lastWord 10 rfl) (by decide) ?_
  refine p_icmp_ne (tgt := 30) X (dcg dc_X11_lastWord 11 rfl) (by decide) (fun q => ?_) (fun q => ?_)
  · have hf := if_t q hf
    refine p_iload_n X (dcg dc_X11_lastWord 16 rfl) rfl rfl ?_
    have er := Option.some.inj hf
    subst er
    refine p_vx ?_
    exact p_iret X rfl (dcg dc_X11_lastWord 17 rfl) ⟨_, rfl, rfl, rfl⟩ hcm hsm
  · have hf := if_f q hf
    have er := Option.some.inj hf
    subst er
    exact p_throw0 (cls := "java/util/NoSuchElementException") (names := ["java/lang/RuntimeException", "java/lang/Exception"]) X hex (by decide) (by decide) tw_1307 tw_136 th_X11_184a th_X11_184b th_X11_184c th_X11_184d (dcg dc_X11_lastWord 12 rfl) (dcg dc_X11_lastWord 13 rfl) (dcg dc_X11_lastWord 14 rfl) (dcg dc_X11_lastWord 15 rfl) (Nat.le_of_ble_eq_true rfl) (Nat.le_trans (Nat.add_le_add_right (room4 (Nat.le_of_ble_eq_true rfl)) _) (Nat.le_of_ble_eq_true rfl)) (show uc + 1 ≤ MC from (by have o0 := (show MC + X0 = hX h + 1 from hM); have o1 := hu; (try simp only [hX_sI, hX_sR, hX_sL, hX_sD, hX_sIa, hX_sRa, hV_sI, hV_sR, hV_sL, hV_sD, hV_sIa, hV_sRa, hX_new, hV_new] at o0 o1 ⊢); omega)) (show us + 6 ≤ MS from (by have o0 := (show MS + V0 = hV h + 6 from hN); have o1 := hv; (try simp only [hX_sI, hX_sR, hX_sL, hX_sD, hX_sIa, hX_sRa, hV_sI, hV_sR, hV_sL, hV_sD, hV_sIa, hV_sRa, hX_new, hV_new] at o0 o1 ⊢); omega)) (show uc + 1 ≤ MC from (by have o0 := (show MC + X0 = hX h + 1 from hM); have o1 := hu; (try simp only [hX_sI, hX_sR, hX_sL, hX_sD, hX_sIa, hX_sRa, hV_sI, hV_sR, hV_sL, hV_sD, hV_sIa, hV_sRa, hX_new, hV_new] at o0 o1 ⊢); omega)) (show us + 6 ≤ MS from (by have o0 := (show MS + V0 = hV h + 6 from hN); have o1 := hv; (try simp only [hX_sI, hX_sR, hX_sL, hX_sD, hX_sIa, hX_sRa, hV_sI, hV_sR, hV_sL, hV_sD, hV_sIa, hV_sRa, hX_new, hV_new] at o0 o1 ⊢); omega)) (fun n hn => ⟨_, n, rfl, rfl, hn, rfl⟩)
noncomputable def fX11_lastWord (v0 : Nat) (h : PH) : Option ((Int32 × PH) ⊕ (Nat × PH)) :=
  fX11_lastWord_b0 v0 h
set_option maxRecDepth 100000 in
theorem mX11_lastWord {v0 : Nat} {h : PH} {r : ((Int32 × PH) ⊕ (Nat × PH))} (hf : fX11_lastWord v0 h = some r) : lez h (xT2 r) (vT2 r) := by
  unfold fX11_lastWord at hf
  have hle := lez_rf h
  exact lez_rt (mX11_lastWord_b0 hf) hle
set_option maxRecDepth 100000 in
theorem wX11_lastWord {E : PE} {l : Launch} (hG : Gs E l) {v0 : Nat} {h : PH} {r : ((Int32 × PH) ⊕ (Nat × PH))} (hf : fX11_lastWord v0 h = some r) : CtX E l 8 ((xT2 r) - hX h) ((vT2 r) - hV h) yX11_lastWord cX11_lastWord 2 (some .int) [.ref v0] h (fun v u => ∃ z, r = .inl z ∧ v = some (.int z.1) ∧ u = z.2) (fun En u => ∃ (z : Nat × PH) (n : Nat), r = .inr z ∧ En = exn z.1 ∧ hX z.2 ≤ n ∧ u = hbump z.2 n) := by
  have hmm := mX11_lastWord hf
  refine ctx_of hG (by decide) (Nat.le_of_ble_eq_true rfl) ?_
  intro p e s m args below meth c X hex
  show PW E p l e _ s m args below meth c _ 0 0 _ h 0 [(0, some (.ref v0))] []
  unfold fX11_lastWord at hf
  have hM := Nat.sub_add_cancel hmm.1
  have hN := Nat.sub_add_cancel hmm.2
  refine p_pick [0] ?_
  exact wX11_lastWord_b0 X hG hex hM hN (Nat.zero_add _) (Nat.zero_add _) hf
theorem dc_X11_beside : decs cX11_beside [(0, .iload_n 1, 1), (1, .invokestatic 128, 3), (4, .iload_n 1, 1), (5, .invokestatic 185, 3), (8, .istore_n 3, 1), (9, .aload_n 0, 1), (10, .getfield 34, 3), (13, .iload_n 2, 1), (14, .ifCond .eq 16, 3), (17, .aload_n 0, 1), (18, .getfield 34, 3), (21, .iload_n 3, 1), (22, .iconst 1, 1), (23, .iadd, 1), (24, .invokevirtual 188, 3), (27, .goto 13, 3), (30, .aload_n 0, 1), (31, .getfield 34, 3), (34, .iload_n 3, 1), (35, .invokevirtual 188, 3), (38, .iconst 1, 1), (39, .isub, 1), (40, .invokevirtual 179, 3), (43, .ireturn, 1)] = true := by decide +kernel
noncomputable def fX11_beside_b40 (t0 : Option Nat) (t1 : Int32) (h : PH) : Option ((Int32 × PH) ⊕ (Nat × PH)) :=
  gs t0 (fun a9 =>
  gd (hK h a9 = 3) (bd (fX3_numberAt a9 t1 h) (fun z12 =>
  some (.inl ((z12, h))))))
set_option maxRecDepth 100000 in
theorem mX11_beside_b40 {t0 : Option Nat} {t1 : Int32} {h : PH} {r : ((Int32 × PH) ⊕ (Nat × PH))} (hf : fX11_beside_b40 t0 t1 h = some r) : lez h (xT2 r) (vT2 r) := by
  unfold fX11_beside_b40 at hf
  have hle := lez_rf h
  obtain ⟨a9, e10, hf⟩ := gs_some hf
  obtain ⟨hk11, hf⟩ := gd_some hf
  obtain ⟨z12, hz12, hf⟩ := bd_some hf
  have ee := Option.some.inj hf; subst ee; exact hle
set_option maxRecDepth 100000 in
theorem wX11_beside_b40 {E : PE} {p : Program} {l : Launch} {e : Env} {s : State} {m : MethodId} {args : Array Value} {below : List Frame} {meth : Method} {c : Code} {X0 V0 MC MS uc us : Nat} (X : Cx E p l e (rmv 9 MC MS) s m args below meth c RX11 cX11_beside 4 (some .int)) (hG : Gs E l) (hex : ∀ x ∈ c.exceptionTable.toList, False) {t0 : Option Nat} {t1 : Int32} {h : PH} {r : ((Int32 × PH) ⊕ (Nat × PH))} (hM : MC + X0 = (xT2 r)) (hN : MS + V0 = (vT2 r)) (hu : uc + X0 = hX h) (hv : us + V0 = hV h) (hf : fX11_beside_b40 t0 t1 h = some r)  : PW E p l e (rmv 9 MC MS) s m args below meth c 4 uc us (vx_MQ below (QG E (fun v u => ∃ z, r = .inl z ∧ v = some (.int z.1) ∧ u = z.2)) (XG E (fun En u => ∃ (z : Nat × PH) (n : Nat), r = .inr z ∧ En = exn z.1 ∧ hX z.2 ≤ n ∧ u = hbump z.2 n)) args s MC MS (pA E)) h 40 [] [.int t1, va_rf t0] := by
  have hm1 : lez h (xT2 r) (vT2 r) := mX11_beside_b40 hf
  have hcm : uc ≤ MC := (by have o0 := hm1.1; have o1 := hM; have o2 := hu; (try simp only [hX_sI, hX_sR, hX_sL, hX_sD, hX_sIa, hX_sRa, hV_sI, hV_sR, hV_sL, hV_sD, hV_sIa, hV_sRa, hX_new, hV_new] at o0 o1 o2 ⊢); omega)
  have hsm : us ≤ MS := (by have o0 := hm1.2; have o1 := hN; have o2 := hv; (try simp only [hX_sI, hX_sR, hX_sL, hX_sD, hX_sIa, hX_sRa, hV_sI, hV_sR, hV_sL, hV_sD, hV_sIa, hV_sRa, hX_new, hV_new] at o0 o1 o2 ⊢); omega)
  clear hm1
  unfold fX11_beside_b40 at hf
  obtain ⟨a9, e10, hf⟩ := gs_some hf
  first | subst e10 | (try rw [e10])
  obtain ⟨hk11, hf⟩ := gd_some hf
  obtain ⟨z12, hz12, hf⟩ := bd_some hf
  refine p_callV (As := [_]) X ml_X11_179 (dcg dc_X11_beside 22 rfl) rfl rfl hk11 (wX3_numberAt hG hz12) (by decide) (room4 (Nat.le_of_ble_eq_true rfl)) hcm hsm ?_
  rintro _ u9 ⟨rfl, e9⟩; have e9 := e9.symm; subst e9
  have er := Option.some.inj hf
  subst er
  refine p_vx ?_
  exact p_iret X rfl (dcg dc_X11_beside 23 rfl) ⟨_, rfl, rfl, rfl⟩ hcm hsm
noncomputable def fX11_beside_b4 (v0 : Nat) (v1 : Int32) (v2 : Int32) (h : PH) : Option ((Int32 × PH) ⊕ (Nat × PH)) :=
  bd (fX10_orderOf v1) (fun z3 =>
  gd (hK h v0 = 11) (if (v2 = 0) then (gs (hR h 11 v0 3) (fun a5 =>
  gd (hK h a5 = 3) (bd (fX3_countAhead a5 z3 h) (fun z8 =>
  fX11_beside_b40 (some a5) (z8 - (1 : Int32)) h)))) else
  gs (hR h 11 v0 3) (fun a13 =>
  gd (hK h a13 = 3) (bd (fX3_countAhead a13 (z3 + (1 : Int32)) h) (fun z16 =>
  fX11_beside_b40 (some a13) z16 h)))))
set_option maxRecDepth 100000 in
theorem mX11_beside_b4 {v0 : Nat} {v1 : Int32} {v2 : Int32} {h : PH} {r : ((Int32 × PH) ⊕ (Nat × PH))} (hf : fX11_beside_b4 v0 v1 v2 h = some r) : lez h (xT2 r) (vT2 r) := by
  unfold fX11_beside_b4 at hf
  have hle := lez_rf h
  obtain ⟨z3, hz3, hf⟩ := bd_some hf
  obtain ⟨hk4, hf⟩ := gd_some hf
  rcases ite_or hf with ⟨q, hf⟩ | ⟨q, hf⟩
  · have hf := if_t q hf
    obtain ⟨a5, e6, hf⟩ := gs_some hf
    obtain ⟨hk7, hf⟩ := gd_some hf
    obtain ⟨z8, hz8, hf⟩ := bd_some hf
    exact lez_rt (mX11_beside_b40 hf) hle
  · have hf := if_f q hf
    obtain ⟨a13, e14, hf⟩ := gs_some hf
    obtain ⟨hk15, hf⟩ := gd_some hf
    obtain ⟨z16, hz16, hf⟩ := bd_some hf
    exact lez_rt (mX11_beside_b40 hf) hle
set_option maxRecDepth 100000 in
theorem wX11_beside_b4 {E : PE} {p : Program} {l : Launch} {e : Env} {s : State} {m : MethodId} {args : Array Value} {below : List Frame} {meth : Method} {c : Code} {X0 V0 MC MS uc us : Nat} (X : Cx E p l e (rmv 9 MC MS) s m args below meth c RX11 cX11_beside 4 (some .int)) (hG : Gs E l) (hex : ∀ x ∈ c.exceptionTable.toList, False) {v0 : Nat} {v1 : Int32} {v2 : Int32} {h : PH} {r : ((Int32 × PH) ⊕ (Nat × PH))} (hM : MC + X0 = (xT2 r)) (hN : MS + V0 = (vT2 r)) (hu : uc + X0 = hX h) (hv : us + V0 = hV h) (hf : fX11_beside_b4 v0 v1 v2 h = some r)  : PW E p l e (rmv 9 MC MS) s m args below meth c 4 uc us (vx_MQ below (QG E (fun v u => ∃ z, r = .inl z ∧ v = some (.int z.1) ∧ u = z.2)) (XG E (fun En u => ∃ (z : Nat × PH) (n : Nat), r = .inr z ∧ En = exn z.1 ∧ hX z.2 ≤ n ∧ u = hbump z.2 n)) args s MC MS (pA E)) h 4 [(0, some (.ref v0)), (1, some (.int v1)), (2, some (.int v2))] [] := by
  have hm1 : lez h (xT2 r) (vT2 r) := mX11_beside_b4 hf
  have hcm : uc ≤ MC := (by have o0 := hm1.1; have o1 := hM; have o2 := hu; (try simp only [hX_sI, hX_sR, hX_sL, hX_sD, hX_sIa, hX_sRa, hV_sI, hV_sR, hV_sL, hV_sD, hV_sIa, hV_sRa, hX_new, hV_new] at o0 o1 o2 ⊢); omega)
  have hsm : us ≤ MS := (by have o0 := hm1.2; have o1 := hN; have o2 := hv; (try simp only [hX_sI, hX_sR, hX_sL, hX_sD, hX_sIa, hX_sRa, hV_sI, hV_sR, hV_sL, hV_sD, hV_sIa, hV_sRa, hX_new, hV_new] at o0 o1 o2 ⊢); omega)
  clear hm1
  unfold fX11_beside_b4 at hf
  refine p_iload_n X (dcg dc_X11_beside 2 rfl) rfl rfl ?_
  obtain ⟨z3, hz3, hf⟩ := bd_some hf
  refine p_callS (As := [_]) X ml_X11_185 (dcg dc_X11_beside 3 rfl) rfl rfl  (wX10_orderOf hG hz3) (by decide) (room4 (Nat.le_of_ble_eq_true rfl)) hcm hsm ?_
  rintro _ u9 ⟨rfl, e9⟩; have e9 := e9.symm; subst e9
  refine p_istore_n X (dcg dc_X11_beside 4 rfl) rfl (by decide) rfl ?_
  refine p_aload_n X (dcg dc_X11_beside 5 rfl) rfl rfl ?_
  obtain ⟨hk4, hf⟩ := gd_some hf
  refine p_getR X fl_X11_34 rfl (by decide) (dcg dc_X11_beside 6 rfl) hk4 ?_
  refine p_iload_n X (dcg dc_X11_beside 7 rfl) rfl rfl ?_
  refine p_if_eq (tgt := 30) X (dcg dc_X11_beside 8 rfl) (by decide) (fun q => ?_) (fun q => ?_)
  · have hf := if_t q hf
    refine p_aload_n X (dcg dc_X11_beside 16 rfl) rfl rfl ?_
    refine p_getR X fl_X11_34 rfl (by decide) (dcg dc_X11_beside 17 rfl) hk4 ?_
    refine p_iload_n X (dcg dc_X11_beside 18 rfl) rfl rfl ?_
    obtain ⟨a5, e6, hf⟩ := gs_some hf
    first | subst e6 | (try rw [e6])
    obtain ⟨hk7, hf⟩ := gd_some hf
    obtain ⟨z8, hz8, hf⟩ := bd_some hf
    refine p_callV (As := [_]) X ml_X11_188 (dcg dc_X11_beside 19 rfl) rfl rfl hk7 (wX3_countAhead hG hz8) (by decide) (room4 (Nat.le_of_ble_eq_true rfl)) hcm hsm ?_
    rintro _ u9 ⟨rfl, e9⟩; have e9 := e9.symm; subst e9
    refine p_iconst (v := 1) X (dcg dc_X11_beside 20 rfl) (by decide) ?_
    refine p_isub X (dcg dc_X11_beside 21 rfl) ?_
    refine p_pick [] ?_
    exact wX11_beside_b40 X hG hex hM hN hu hv hf 
  · have hf := if_f q hf
    refine p_aload_n X (dcg dc_X11_beside 9 rfl) rfl rfl ?_
    refine p_getR X fl_X11_34 rfl (by decide) (dcg dc_X11_beside 10 rfl) hk4 ?_
    refine p_iload_n X (dcg dc_X11_beside 11 rfl) rfl rfl ?_
    refine p_iconst (v := 1) X (dcg dc_X11_beside 12 rfl) (by decide) ?_
    refine p_iadd X (dcg dc_X11_beside 13 rfl) ?_
    obtain ⟨a13, e14, hf⟩ := gs_some hf
    first | subst e14 | (try rw [e14])
    obtain ⟨hk15, hf⟩ := gd_some hf
    obtain ⟨z16, hz16, hf⟩ := bd_some hf
    refine p_callV (As := [_]) X ml_X11_188 (dcg dc_X11_beside 14 rfl) rfl rfl hk15 (wX3_countAhead hG hz16) (by decide) (room4 (Nat.le_of_ble_eq_true rfl)) hcm hsm ?_
    rintro _ u9 ⟨rfl, e9⟩; have e9 := e9.symm; subst e9
    refine p_goto (tgt := 40) X (dcg dc_X11_beside 15 rfl) (by decide) ?_
    refine p_pick [] ?_
    exact wX11_beside_b40 X hG hex hM hN hu hv hf 
noncomputable def fX11_beside_b0 (v0 : Nat) (v1 : Int32) (v2 : Int32) (h : PH) : Option ((Int32 × PH) ⊕ (Nat × PH)) :=
  bx (fX11_demandWord v1 h) (fun z1 =>
  fX11_beside_b4 v0 v1 v2 z1)
set_option maxRecDepth 100000 in
theorem mX11_beside_b0 {v0 : Nat} {v1 : Int32} {v2 : Int32} {h : PH} {r : ((Int32 × PH) ⊕ (Nat × PH))} (hf : fX11_beside_b0 v0 v1 v2 h = some r) : lez h (xT2 r) (vT2 r) := by
  unfold fX11_beside_b0 at hf
  have hle := lez_rf h
  obtain ⟨y2, hy2, h1y2, h2y2⟩ := bx_some hf
  have hc1 := mX11_demandWord hy2
  rcases y2 with z1 | z1
  · have hf := h1y2 z1 rfl
    have hle : lez h (hX z1) (hV z1) := lez_rt hc1 hle
    exact lez_rt (mX11_beside_b4 hf) hle
  · have hr9 := h2y2 z1 rfl
    subst hr9
    exact lez_rt hc1 hle
set_option maxRecDepth 100000 in
theorem wX11_beside_b0 {E : PE} {p : Program} {l : Launch} {e : Env} {s : State} {m : MethodId} {args : Array Value} {below : List Frame} {meth : Method} {c : Code} {X0 V0 MC MS uc us : Nat} (X : Cx E p l e (rmv 9 MC MS) s m args below meth c RX11 cX11_beside 4 (some .int)) (hG : Gs E l) (hex : ∀ x ∈ c.exceptionTable.toList, False) {v0 : Nat} {v1 : Int32} {v2 : Int32} {h : PH} {r : ((Int32 × PH) ⊕ (Nat × PH))} (hM : MC + X0 = (xT2 r)) (hN : MS + V0 = (vT2 r)) (hu : uc + X0 = hX h) (hv : us + V0 = hV h) (hf : fX11_beside_b0 v0 v1 v2 h = some r)  : PW E p l e (rmv 9 MC MS) s m args below meth c 4 uc us (vx_MQ below (QG E (fun v u => ∃ z, r = .inl z ∧ v = some (.int z.1) ∧ u = z.2)) (XG E (fun En u => ∃ (z : Nat × PH) (n : Nat), r = .inr z ∧ En = exn z.1 ∧ hX z.2 ≤ n ∧ u = hbump z.2 n)) args s MC MS (pA E)) h 0 [(0, some (.ref v0)), (1, some (.int v1)), (2, some (.int v2))] [] := by
  have hm1 : lez h (xT2 r) (vT2 r) := mX11_beside_b0 hf
  have hcm : uc ≤ MC := (by have o0 := hm1.1; have o1 := hM; have o2 := hu; (try simp only [hX_sI, hX_sR, hX_sL, hX_sD, hX_sIa, hX_sRa, hV_sI, hV_sR, hV_sL, hV_sD, hV_sIa, hV_sRa, hX_new, hV_new] at o0 o1 o2 ⊢); omega)
  have hsm : us ≤ MS := (by have o0 := hm1.2; have o1 := hN; have o2 := hv; (try simp only [hX_sI, hX_sR, hX_sL, hX_sD, hX_sIa, hX_sRa, hV_sI, hV_sR, hV_sL, hV_sD, hV_sIa, hV_sRa, hX_new, hV_new] at o0 o1 o2 ⊢); omega)
  clear hm1
  unfold fX11_beside_b0 at hf
  refine p_iload_n X (dcg dc_X11_beside 0 rfl) rfl rfl ?_
  obtain ⟨y2, hy2, h1y2, h2y2⟩ := bx_some hf
  have hc1 := mX11_demandWord hy2
  rcases y2 with z1 | z1
  · have hf := h1y2 z1 rfl
    have hm1 : lez _ (xT2 r) (vT2 r) := mX11_beside_b4 hf
    refine p_callSX (As := [_]) X hex ml_X11_128 (dcg dc_X11_beside 1 rfl) rfl rfl  (wX11_demandWord hG hy2) (by decide) (room4 (Nat.le_of_ble_eq_true rfl)) (show uc + (hX z1 - hX h) ≤ MC from (by have o0 := hm1.1; have o1 := (show lez h (hX z1) (hV z1) from hc1).1; have o2 := hM; have o3 := hu; (try simp only [hX_sI, hX_sR, hX_sL, hX_sD, hX_sIa, hX_sRa, hV_sI, hV_sR, hV_sL, hV_sD, hV_sIa, hV_sRa, hX_new, hV_new] at o0 o1 o2 o3 ⊢); omega)) (show us + (hV z1 - hV h) ≤ MS from (by have o0 := hm1.2; have o1 := (show lez h (hX z1) (hV z1) from hc1).2; have o2 := hN; have o3 := hv; (try simp only [hX_sI, hX_sR, hX_sL, hX_sD, hX_sIa, hX_sRa, hV_sI, hV_sR, hV_sL, hV_sD, hV_sIa, hV_sRa, hX_new, hV_new] at o0 o1 o2 o3 ⊢); omega)) (show uc + (hX z1 - hX h) ≤ MC from (by have o0 := hm1.1; have o1 := (show lez h (hX z1) (hV z1) from hc1).1; have o2 := hM; have o3 := hu; (try simp only [hX_sI, hX_sR, hX_sL, hX_sD, hX_sIa, hX_sRa, hV_sI, hV_sR, hV_sL, hV_sD, hV_sIa, hV_sRa, hX_new, hV_new] at o0 o1 o2 o3 ⊢); omega)) (show us + (hV z1 - hV h) ≤ MS from (by have o0 := hm1.2; have o1 := (show lez h (hX z1) (hV z1) from hc1).2; have o2 := hN; have o3 := hv; (try simp only [hX_sI, hX_sR, hX_sL, hX_sD, hX_sIa, hX_sRa, hV_sI, hV_sR, hV_sL, hV_sD, hV_sIa, hV_sRa, hX_new, hV_new] at o0 o1 o2 o3 ⊢); omega)) (fun En u q => by obtain ⟨z9, n9, q9, _⟩ := q; cases q9) ?_
    rintro _ _ ⟨z9, hz9, rfl, rfl⟩
    cases hz9
    refine p_pick [0, 1, 2] ?_
    exact wX11_beside_b4 X hG hex hM hN (show uc + (hX z1 - hX h) + X0 = hX z1 from (by have o0 := (show lez h (hX z1) (hV z1) from hc1).1; have o1 := hu; (try simp only [hX_sI, hX_sR, hX_sL, hX_sD, hX_sIa, hX_sRa, hV_sI, hV_sR, hV_sL, hV_sD, hV_sIa, hV_sRa, hX_new, hV_new] at o0 o1 ⊢); omega)) (show us + (hV z1 - hV h) + V0 = hV z1 from (by have o0 := (show lez h (hX z1) (hV z1) from hc1).2; have o1 := hv; (try simp only [hX_sI, hX_sR, hX_sL, hX_sD, hX_sIa, hX_sRa, hV_sI, hV_sR, hV_sL, hV_sD, hV_sIa, hV_sRa, hX_new, hV_new] at o0 o1 ⊢); omega)) hf 
  · have hr9 := h2y2 z1 rfl
    subst hr9
    refine p_callSX (As := [_]) X hex ml_X11_128 (dcg dc_X11_beside 1 rfl) rfl rfl  (wX11_demandWord hG hy2) (by decide) (room4 (Nat.le_of_ble_eq_true rfl)) (show uc + (hX z1.2 + 1 - hX h) ≤ MC from (by have o0 := (show lez h (hX z1.2 + 1) (hV z1.2 + 6) from hc1).1; have o1 := (show MC + X0 = hX z1.2 + 1 from hM); have o2 := hu; (try simp only [hX_sI, hX_sR, hX_sL, hX_sD, hX_sIa, hX_sRa, hV_sI, hV_sR, hV_sL, hV_sD, hV_sIa, hV_sRa, hX_new, hV_new] at o0 o1 o2 ⊢); omega)) (show us + (hV z1.2 + 6 - hV h) ≤ MS from (by have o0 := (show lez h (hX z1.2 + 1) (hV z1.2 + 6) from hc1).2; have o1 := (show MS + V0 = hV z1.2 + 6 from hN); have o2 := hv; (try simp only [hX_sI, hX_sR, hX_sL, hX_sD, hX_sIa, hX_sRa, hV_sI, hV_sR, hV_sL, hV_sD, hV_sIa, hV_sRa, hX_new, hV_new] at o0 o1 o2 ⊢); omega)) (show uc + (hX z1.2 + 1 - hX h) ≤ MC from (by have o0 := (show lez h (hX z1.2 + 1) (hV z1.2 + 6) from hc1).1; have o1 := (show MC + X0 = hX z1.2 + 1 from hM); have o2 := hu; (try simp only [hX_sI, hX_sR, hX_sL, hX_sD, hX_sIa, hX_sRa, hV_sI, hV_sR, hV_sL, hV_sD, hV_sIa, hV_sRa, hX_new, hV_new] at o0 o1 o2 ⊢); omega)) (show us + (hV z1.2 + 6 - hV h) ≤ MS from (by have o0 := (show lez h (hX z1.2 + 1) (hV z1.2 + 6) from hc1).2; have o1 := (show MS + V0 = hV z1.2 + 6 from hN); have o2 := hv; (try simp only [hX_sI, hX_sR, hX_sL, hX_sD, hX_sIa, hX_sRa, hV_sI, hV_sR, hV_sL, hV_sD, hV_sIa, hV_sRa, hX_new, hV_new] at o0 o1 o2 ⊢); omega)) (fun En u q => by obtain ⟨z9, n9, q9, q8⟩ := q; cases q9; exact ⟨_, n9, rfl, q8⟩) ?_
    rintro _ _ ⟨z9, hz9, _⟩
    cases hz9
noncomputable def fX11_beside (v0 : Nat) (v1 : Int32) (v2 : Int32) (h : PH) : Option ((Int32 × PH) ⊕ (Nat × PH)) :=
  fX11_beside_b0 v0 v1 v2 h
set_option maxRecDepth 100000 in
theorem mX11_beside {v0 : Nat} {v1 : Int32} {v2 : Int32} {h : PH} {r : ((Int32 × PH) ⊕ (Nat × PH))} (hf : fX11_beside v0 v1 v2 h = some r) : lez h (xT2 r) (vT2 r) := by
  unfold fX11_beside at hf
  have hle := lez_rf h
  exact lez_rt (mX11_beside_b0 hf) hle
set_option maxRecDepth 100000 in
theorem wX11_beside {E : PE} {l : Launch} (hG : Gs E l) {v0 : Nat} {v1 : Int32} {v2 : Int32} {h : PH} {r : ((Int32 × PH) ⊕ (Nat × PH))} (hf : fX11_beside v0 v1 v2 h = some r) : CtX E l 9 ((xT2 r) - hX h) ((vT2 r) - hV h) yX11_beside cX11_beside 4 (some .int) [.ref v0, .int v1, .int v2] h (fun v u => ∃ z, r = .inl z ∧ v = some (.int z.1) ∧ u = z.2) (fun En u => ∃ (z : Nat × PH) (n : Nat), r = .inr z ∧ En = exn z.1 ∧ hX z.2 ≤ n ∧ u = hbump z.2 n) := by
  have hmm := mX11_beside hf
  refine ctx_of hG (by decide) (Nat.le_of_ble_eq_true rfl) ?_
  intro p e s m args below meth c X hex
  show PW E p l e _ s m args below meth c _ 0 0 _ h 0 [(0, some (.ref v0)), (1, some (.int v1)), (2, some (.int v2))] []
  unfold fX11_beside at hf
  have hM := Nat.sub_add_cancel hmm.1
  have hN := Nat.sub_add_cancel hmm.2
  refine p_pick [0, 1, 2] ?_
  exact wX11_beside_b0 X hG hex hM hN (Nat.zero_add _) (Nat.zero_add _) hf
theorem dc_X11_between : decs cX11_between [(0, .iload_n 1, 1), (1, .invokestatic 128, 3), (4, .iload_n 2, 1), (5, .invokestatic 128, 3), (8, .iload_n 2, 1), (9, .invokestatic 185, 3), (12, .iload_n 1, 1), (13, .invokestatic 185, 3), (16, .if_icmp .ge 11, 3), (19, .new 112, 3), (22, .dup, 1), (23, .invokespecial 114, 3), (26, .athrow, 1), (27, .aload_n 0, 1), (28, .getfield 34, 3), (31, .iload_n 2, 1), (32, .invokestatic 185, 3), (35, .invokevirtual 188, 3), (38, .aload_n 0, 1), (39, .getfield 34, 3), (42, .iload_n 1, 1), (43, .invokestatic 185, 3), (46, .invokevirtual 188, 3), (49, .isub, 1), (50, .ireturn, 1)] = true := by decide +kernel
noncomputable def fX11_between_b8 (v0 : Nat) (v1 : Int32) (v2 : Int32) (h : PH) : Option ((Int32 × PH) ⊕ (Nat × PH)) :=
  bd (fX10_orderOf v2) (fun z5 =>
  bd (fX10_orderOf v1) (fun z6 =>
  if (z6 ≤ z5) then (gd (hK h v0 = 11) (bd (fX10_orderOf v2) (fun z8 =>
  gs (hR h 11 v0 3) (fun a9 =>
  gd (hK h a9 = 3) (bd (fX3_countAhead a9 z8 h) (fun z12 =>
  bd (fX10_orderOf v1) (fun z13 =>
  gs (hR h 11 v0 3) (fun a14 =>
  gd (hK h a14 = 3) (bd (fX3_countAhead a14 z13 h) (fun z17 =>
  some (.inl (((z12 - z17), h))))))))))))) else
  some (.inr (1, h))))
set_option maxRecDepth 100000 in
theorem mX11_between_b8 {v0 : Nat} {v1 : Int32} {v2 : Int32} {h : PH} {r : ((Int32 × PH) ⊕ (Nat × PH))} (hf : fX11_between_b8 v0 v1 v2 h = some r) : lez h (xT2 r) (vT2 r) := by
  unfold fX11_between_b8 at hf
  have hle := lez_rf h
  obtain ⟨z5, hz5, hf⟩ := bd_some hf
  obtain ⟨z6, hz6, hf⟩ := bd_some hf
  rcases ite_or hf with ⟨q, hf⟩ | ⟨q, hf⟩
  · have hf := if_t q hf
    obtain ⟨hk7, hf⟩ := gd_some hf
    obtain ⟨z8, hz8, hf⟩ := bd_some hf
    obtain ⟨a9, e10, hf⟩ := gs_some hf
    obtain ⟨hk11, hf⟩ := gd_some hf
    obtain ⟨z12, hz12, hf⟩ := bd_some hf
    obtain ⟨z13, hz13, hf⟩ := bd_some hf
    obtain ⟨a14, e15, hf⟩ := gs_some hf
    obtain ⟨hk16, hf⟩ := gd_some hf
    obtain ⟨z17, hz17, hf⟩ := bd_some hf
    have ee := Option.some.inj hf; subst ee; exact hle
  · have hf := if_f q hf
    cases hf; exact lez_up hle
set_option maxRecDepth 100000 in
theorem wX11_between_b8 {E : PE} {p : Program} {l : Launch} {e : Env} {s : State} {m : MethodId} {args : Array Value} {below : List Frame} {meth : Method} {c : Code} {X0 V0 MC MS uc us : Nat} (X : Cx E p l e (rmv 9 MC MS) s m args below meth c RX11 cX11_between 3 (some .int)) (hG : Gs E l) (hex : ∀ x ∈ c.exceptionTable.toList, False) {v0 : Nat} {v1 : Int32} {v2 : Int32} {h : PH} {r : ((Int32 × PH) ⊕ (Nat × PH))} (hM : MC + X0 = (xT2 r)) (hN : MS + V0 = (vT2 r)) (hu : uc + X0 = hX h) (hv : us + V0 = hV h) (hf : fX11_between_b8 v0 v1 v2 h = some r)  : PW E p l e (rmv 9 MC MS) s m args below meth c 3 uc us (vx_MQ below (QG E (fun v u => ∃ z, r = .inl z ∧ v = some (.int z.1) ∧ u = z.2)) (XG E (fun En u => ∃ (z : Nat × PH) (n : Nat), r = .inr z ∧ En = exn z.1 ∧ hX z.2 ≤ n ∧ u = hbump z.2 n)) args s MC MS (pA E)) h 8 [(0, some (.ref v0)), (1, some (.int v1)), (2, some (.int v2))] [] := by
  have hm1 : lez h (xT2 r) (vT2 r) := mX11_between_b8 hf
  have hcm : uc ≤ MC := (by have o0 := hm1.1; have o1 := hM; have o2 := hu; (try simp only [hX_sI, hX_sR, hX_sL, hX_sD, hX_sIa, hX_sRa, hV_sI, hV_sR, hV_sL, hV_sD, hV_sIa, hV_sRa, hX_new, hV_new] at o0 o1 o2 ⊢); omega)
  have hsm : us ≤ MS := (by have o0 := hm1.2; have o1 := hN; have o2 := hv; (try simp only [hX_sI, hX_sR, hX_sL, hX_sD, hX_sIa, hX_sRa, hV_sI, hV_sR, hV_sL, hV_sD, hV_sIa, hV_sRa, hX_new, hV_new] at o0 o1 o2 ⊢); omega)
  clear hm1
  unfold fX11_between_b8 at hf
  refine p_iload_n X (dcg dc_X11_between 4 rfl) rfl rfl ?_
  obtain ⟨z5, hz5, hf⟩ := bd_some hf
  refine p_callS (As := [_]) X ml_X11_185 (dcg dc_X11_between 5 rfl) rfl rfl  (wX10_orderOf hG hz5) (by decide) (room4 (Nat.le_of_ble_eq_true rfl)) hcm hsm ?_
  rintro _ u9 ⟨rfl, e9⟩; have e9 := e9.symm; subst e9
  refine p_iload_n X (dcg dc_X11_between 6 rfl) rfl rfl ?_
  obtain ⟨z6, hz6, hf⟩ := bd_some hf
  refine p_callS (As := [_]) X ml_X11_185 (dcg dc_X11_between 7 rfl) rfl rfl  (wX10_orderOf hG hz6) (by decide) (room4 (Nat.le_of_ble_eq_true rfl)) hcm hsm ?_
  rintro _ u9 ⟨rfl, e9⟩; have e9 := e9.symm; subst e9
  refine p_icmp_ge (tgt := 27) X (dcg dc_X11_between 8 rfl) (by decide) (fun q => ?_) (fun q => ?_)
  · have hf := if_t q hf
    refine p_aload_n X (dcg dc_X11_between 13 rfl) rfl rfl ?_
    obtain ⟨hk7, hf⟩ := gd_some hf
    refine p_getR X fl_X11_34 rfl (by decide) (dcg dc_X11_between 14 rfl) hk7 ?_
    refine p_iload_n X (dcg dc_X11_between 15 rfl) rfl rfl ?_
    obtain ⟨z8, hz8, hf⟩ := bd_some hf
    refine p_callS (As := [_]) X ml_X11_185 (dcg dc_X11_between 16 rfl) rfl rfl  (wX10_orderOf hG hz8) (by decide) (room4 (Nat.le_of_ble_eq_true rfl)) hcm hsm ?_
    rintro _ u9 ⟨rfl, e9⟩; have e9 := e9.symm; subst e9
    obtain ⟨a9, e10, hf⟩ := gs_some hf
    first | subst e10 | (try rw [e10])
    obtain ⟨hk11, hf⟩ := gd_some hf
    obtain ⟨z12, hz12, hf⟩ := bd_some hf
    refine p_callV (As := [_]) X ml_X11_188 (dcg dc_X11_between 17 rfl) rfl rfl hk11 (wX3_countAhead hG hz12) (by decide) (room4 (Nat.le_of_ble_eq_true rfl)) hcm hsm ?_
    rintro _ u9 ⟨rfl, e9⟩; have e9 := e9.symm; subst e9
    refine p_aload_n X (dcg dc_X11_between 18 rfl) rfl rfl ?_
    refine p_getR X fl_X11_34 rfl (by decide) (dcg dc_X11_between 19 rfl) hk7 ?_
    refine p_iload_n X (dcg dc_X11_between 20 rfl) rfl rfl ?_
    obtain ⟨z13, hz13, hf⟩ := bd_some hf
    refine p_callS (As := [_]) X ml_X11_185 (dcg dc_X11_between 21 rfl) rfl rfl  (wX10_orderOf hG hz13) (by decide) (room4 (Nat.le_of_ble_eq_true rfl)) hcm hsm ?_
    rintro _ u9 ⟨rfl, e9⟩; have e9 := e9.symm; subst e9
    obtain ⟨a14, e15, hf⟩ := gs_some hf
    first | subst e15 | (try rw [e15])
    obtain ⟨hk16, hf⟩ := gd_some hf
    obtain ⟨z17, hz17, hf⟩ := bd_some hf
    refine p_callV (As := [_]) X ml_X11_188 (dcg dc_X11_between 22 rfl) rfl rfl hk16 (wX3_countAhead hG hz17) (by decide) (room4 (Nat.le_of_ble_eq_true rfl)) hcm hsm ?_
    rintro _ u9 ⟨rfl, e9⟩; have e9 := e9.symm; subst e9
    refine p_isub X (dcg dc_X11_between 23 rfl) ?_
    have er := Option.some.inj hf
    subst er
    refine p_vx ?_
    exact p_iret X rfl (dcg dc_X11_between 24 rfl) ⟨_, rfl, rfl, rfl⟩ hcm hsm
  · have hf := if_f q hf
    have er := Option.some.inj hf
    subst er
    exact p_throw0 (cls := "java/lang/IllegalArgumentException") (names := ["java/lang/RuntimeException", "java/lang/Exception"]) X hex (by decide) (by decide) tw_1180 tw_122 th_X11_114a th_X11_114b th_X11_114c th_X11_114d (dcg dc_X11_between 9 rfl) (dcg dc_X11_between 10 rfl) (dcg dc_X11_between 11 rfl) (dcg dc_X11_between 12 rfl) (Nat.le_of_ble_eq_true rfl) (Nat.le_trans (Nat.add_le_add_right (room4 (Nat.le_of_ble_eq_true rfl)) _) (Nat.le_of_ble_eq_true rfl)) (show uc + 1 ≤ MC from (by have o0 := (show MC + X0 = hX h + 1 from hM); have o1 := hu; (try simp only [hX_sI, hX_sR, hX_sL, hX_sD, hX_sIa, hX_sRa, hV_sI, hV_sR, hV_sL, hV_sD, hV_sIa, hV_sRa, hX_new, hV_new] at o0 o1 ⊢); omega)) (show us + 6 ≤ MS from (by have o0 := (show MS + V0 = hV h + 6 from hN); have o1 := hv; (try simp only [hX_sI, hX_sR, hX_sL, hX_sD, hX_sIa, hX_sRa, hV_sI, hV_sR, hV_sL, hV_sD, hV_sIa, hV_sRa, hX_new, hV_new] at o0 o1 ⊢); omega)) (show uc + 1 ≤ MC from (by have o0 := (show MC + X0 = hX h + 1 from hM); have o1 := hu; (try simp only [hX_sI, hX_sR, hX_sL, hX_sD, hX_sIa, hX_sRa, hV_sI, hV_sR, hV_sL, hV_sD, hV_sIa, hV_sRa, hX_new, hV_new] at o0 o1 ⊢); omega)) (show us + 6 ≤ MS from (by have o0 := (show MS + V0 = hV h + 6 from hN); have o1 := hv; (try simp only [hX_sI, hX_sR, hX_sL, hX_sD, hX_sIa, hX_sRa, hV_sI, hV_sR, hV_sL, hV_sD, hV_sIa, hV_sRa, hX_new, hV_new] at o0 o1 ⊢); omega)) (fun n hn => ⟨_, n, rfl, rfl, hn, rfl⟩)
noncomputable def fX11_between_b4 (v0 : Nat) (v1 : Int32) (v2 : Int32) (h : PH) : Option ((Int32 × PH) ⊕ (Nat × PH)) :=
  bx (fX11_demandWord v2 h) (fun z3 =>
  fX11_between_b8 v0 v1 v2 z3)
set_option maxRecDepth 100000 in
theorem mX11_between_b4 {v0 : Nat} {v1 : Int32} {v2 : Int32} {h : PH} {r : ((Int32 × PH) ⊕ (Nat × PH))} (hf : fX11_between_b4 v0 v1 v2 h = some r) : lez h (xT2 r) (vT2 r) := by
  unfold fX11_between_b4 at hf
  have hle := lez_rf h
  obtain ⟨y4, hy4, h1y4, h2y4⟩ := bx_some hf
  have hc1 := mX11_demandWord hy4
  rcases y4 with z3 | z3
  · have hf := h1y4 z3 rfl
    have hle : lez h (hX z3) (hV z3) := lez_rt hc1 hle
    exact lez_rt (mX11_between_b8 hf) hle
  · have hr9 := h2y4 z3 rfl
    subst hr9
    exact lez_rt hc1 hle
set_option maxRecDepth 100000 in
theorem wX11_between_b4 {E : PE} {p : Program} {l : Launch} {e : Env} {s : State} {m : MethodId} {args : Array Value} {below : List Frame} {meth : Method} {c : Code} {X0 V0 MC MS uc us : Nat} (X : Cx E p l e (rmv 9 MC MS) s m args below meth c RX11 cX11_between 3 (some .int)) (hG : Gs E l) (hex : ∀ x ∈ c.exceptionTable.toList, False) {v0 : Nat} {v1 : Int32} {v2 : Int32} {h : PH} {r : ((Int32 × PH) ⊕ (Nat × PH))} (hM : MC + X0 = (xT2 r)) (hN : MS + V0 = (vT2 r)) (hu : uc + X0 = hX h) (hv : us + V0 = hV h) (hf : fX11_between_b4 v0 v1 v2 h = some r)  : PW E p l e (rmv 9 MC MS) s m args below meth c 3 uc us (vx_MQ below (QG E (fun v u => ∃ z, r = .inl z ∧ v = some (.int z.1) ∧ u = z.2)) (XG E (fun En u => ∃ (z : Nat × PH) (n : Nat), r = .inr z ∧ En = exn z.1 ∧ hX z.2 ≤ n ∧ u = hbump z.2 n)) args s MC MS (pA E)) h 4 [(0, some (.ref v0)), (1, some (.int v1)), (2, some (.int v2))] [] := by
  have hm1 : lez h (xT2 r) (vT2 r) := mX11_between_b4 hf
  have hcm : uc ≤ MC := (by have o0 := hm1.1; have o1 := hM; have o2 := hu; (try simp only [hX_sI, hX_sR, hX_sL, hX_sD, hX_sIa, hX_sRa, hV_sI, hV_sR, hV_sL, hV_sD, hV_sIa, hV_sRa, hX_new, hV_new] at o0 o1 o2 ⊢); omega)
  have hsm : us ≤ MS := (by have o0 := hm1.2; have o1 := hN; have o2 := hv; (try simp only [hX_sI, hX_sR, hX_sL, hX_sD, hX_sIa, hX_sRa, hV_sI, hV_sR, hV_sL, hV_sD, hV_sIa, hV_sRa, hX_new, hV_new] at o0 o1 o2 ⊢); omega)
  clear hm1
  unfold fX11_between_b4 at hf
  refine p_iload_n X (dcg dc_X11_between 2 rfl) rfl rfl ?_
  obtain ⟨y4, hy4, h1y4, h2y4⟩ := bx_some hf
  have hc1 := mX11_demandWord hy4
  rcases y4 with z3 | z3
  · have hf := h1y4 z3 rfl
    have hm1 : lez _ (xT2 r) (vT2 r) := mX11_between_b8 hf
    refine p_callSX (As := [_]) X hex ml_X11_128 (dcg dc_X11_between 3 rfl) rfl rfl  (wX11_demandWord hG hy4) (by decide) (room4 (Nat.le_of_ble_eq_true rfl)) (show uc + (hX z3 - hX h) ≤ MC from (by have o0 := hm1.1; have o1 := (show lez h (hX z3) (hV z3) from hc1).1; have o2 := hM; have o3 := hu; (try simp only [hX_sI, hX_sR, hX_sL, hX_sD, hX_sIa, hX_sRa, hV_sI, hV_sR, hV_sL, hV_sD, hV_sIa, hV_sRa, hX_new, hV_new] at o0 o1 o2 o3 ⊢); omega)) (show us + (hV z3 - hV h) ≤ MS from (by have o0 := hm1.2; have o1 := (show lez h (hX z3) (hV z3) from hc1).2; have o2 := hN; have o3 := hv; (try simp only [hX_sI, hX_sR, hX_sL, hX_sD, hX_sIa, hX_sRa, hV_sI, hV_sR, hV_sL, hV_sD, hV_sIa, hV_sRa, hX_new, hV_new] at o0 o1 o2 o3 ⊢); omega)) (show uc + (hX z3 - hX h) ≤ MC from (by have o0 := hm1.1; have o1 := (show lez h (hX z3) (hV z3) from hc1).1; have o2 := hM; have o3 := hu; (try simp only [hX_sI, hX_sR, hX_sL, hX_sD, hX_sIa, hX_sRa, hV_sI, hV_sR, hV_sL, hV_sD, hV_sIa, hV_sRa, hX_new, hV_new] at o0 o1 o2 o3 ⊢); omega)) (show us + (hV z3 - hV h) ≤ MS from (by have o0 := hm1.2; have o1 := (show lez h (hX z3) (hV z3) from hc1).2; have o2 := hN; have o3 := hv; (try simp only [hX_sI, hX_sR, hX_sL, hX_sD, hX_sIa, hX_sRa, hV_sI, hV_sR, hV_sL, hV_sD, hV_sIa, hV_sRa, hX_new, hV_new] at o0 o1 o2 o3 ⊢); omega)) (fun En u q => by obtain ⟨z9, n9, q9, _⟩ := q; cases q9) ?_
    rintro _ _ ⟨z9, hz9, rfl, rfl⟩
    cases hz9
    refine p_pick [0, 1, 2] ?_
    exact wX11_between_b8 X hG hex hM hN (show uc + (hX z3 - hX h) + X0 = hX z3 from (by have o0 := (show lez h (hX z3) (hV z3) from hc1).1; have o1 := hu; (try simp only [hX_sI, hX_sR, hX_sL, hX_sD, hX_sIa, hX_sRa, hV_sI, hV_sR, hV_sL, hV_sD, hV_sIa, hV_sRa, hX_new, hV_new] at o0 o1 ⊢); omega)) (show us + (hV z3 - hV h) + V0 = hV z3 from (by have o0 := (show lez h (hX z3) (hV z3) from hc1).2; have o1 := hv; (try simp only [hX_sI, hX_sR, hX_sL, hX_sD, hX_sIa, hX_sRa, hV_sI, hV_sR, hV_sL, hV_sD, hV_sIa, hV_sRa, hX_new, hV_new] at o0 o1 ⊢); omega)) hf 
  · have hr9 := h2y4 z3 rfl
    subst hr9
    refine p_callSX (As := [_]) X hex ml_X11_128 (dcg dc_X11_between 3 rfl) rfl rfl  (wX11_demandWord hG hy4) (by decide) (room4 (Nat.le_of_ble_eq_true rfl)) (show uc + (hX z3.2 + 1 - hX h) ≤ MC from (by have o0 := (show lez h (hX z3.2 + 1) (hV z3.2 + 6) from hc1).1; have o1 := (show MC + X0 = hX z3.2 + 1 from hM); have o2 := hu; (try simp only [hX_sI, hX_sR, hX_sL, hX_sD, hX_sIa, hX_sRa, hV_sI, hV_sR, hV_sL, hV_sD, hV_sIa, hV_sRa, hX_new, hV_new] at o0 o1 o2 ⊢); omega)) (show us + (hV z3.2 + 6 - hV h) ≤ MS from (by have o0 := (show lez h (hX z3.2 + 1) (hV z3.2 + 6) from hc1).2; have o1 := (show MS + V0 = hV z3.2 + 6 from hN); have o2 := hv; (try simp only [hX_sI, hX_sR, hX_sL, hX_sD, hX_sIa, hX_sRa, hV_sI, hV_sR, hV_sL, hV_sD, hV_sIa, hV_sRa, hX_new, hV_new] at o0 o1 o2 ⊢); omega)) (show uc + (hX z3.2 + 1 - hX h) ≤ MC from (by have o0 := (show lez h (hX z3.2 + 1) (hV z3.2 + 6) from hc1).1; have o1 := (show MC + X0 = hX z3.2 + 1 from hM); have o2 := hu; (try simp only [hX_sI, hX_sR, hX_sL, hX_sD, hX_sIa, hX_sRa, hV_sI, hV_sR, hV_sL, hV_sD, hV_sIa, hV_sRa, hX_new, hV_new] at o0 o1 o2 ⊢); omega)) (show us + (hV z3.2 + 6 - hV h) ≤ MS from (by have o0 := (show lez h (hX z3.2 + 1) (hV z3.2 + 6) from hc1).2; have o1 := (show MS + V0 = hV z3.2 + 6 from hN); have o2 := hv; (try simp only [hX_sI, hX_sR, hX_sL, hX_sD, hX_sIa, hX_sRa, hV_sI, hV_sR, hV_sL, hV_sD, hV_sIa, hV_sRa, hX_new, hV_new] at o0 o1 o2 ⊢); omega)) (fun En u q => by obtain ⟨z9, n9, q9, q8⟩ := q; cases q9; exact ⟨_, n9, rfl, q8⟩) ?_
    rintro _ _ ⟨z9, hz9, _⟩
    cases hz9
noncomputable def fX11_between_b0 (v0 : Nat) (v1 : Int32) (v2 : Int32) (h : PH) : Option ((Int32 × PH) ⊕ (Nat × PH)) :=
  bx (fX11_demandWord v1 h) (fun z1 =>
  fX11_between_b4 v0 v1 v2 z1)
set_option maxRecDepth 100000 in
theorem mX11_between_b0 {v0 : Nat} {v1 : Int32} {v2 : Int32} {h : PH} {r : ((Int32 × PH) ⊕ (Nat × PH))} (hf : fX11_between_b0 v0 v1 v2 h = some r) : lez h (xT2 r) (vT2 r) := by
  unfold fX11_between_b0 at hf
  have hle := lez_rf h
  obtain ⟨y2, hy2, h1y2, h2y2⟩ := bx_some hf
  have hc1 := mX11_demandWord hy2
  rcases y2 with z1 | z1
  · have hf := h1y2 z1 rfl
    have hle : lez h (hX z1) (hV z1) := lez_rt hc1 hle
    exact lez_rt (mX11_between_b4 hf) hle
  · have hr9 := h2y2 z1 rfl
    subst hr9
    exact lez_rt hc1 hle
set_option maxRecDepth 100000 in
theorem wX11_between_b0 {E : PE} {p : Program} {l : Launch} {e : Env} {s : State} {m : MethodId} {args : Array Value} {below : List Frame} {meth : Method} {c : Code} {X0 V0 MC MS uc us : Nat} (X : Cx E p l e (rmv 9 MC MS) s m args below meth c RX11 cX11_between 3 (some .int)) (hG : Gs E l) (hex : ∀ x ∈ c.exceptionTable.toList, False) {v0 : Nat} {v1 : Int32} {v2 : Int32} {h : PH} {r : ((Int32 × PH) ⊕ (Nat × PH))} (hM : MC + X0 = (xT2 r)) (hN : MS + V0 = (vT2 r)) (hu : uc + X0 = hX h) (hv : us + V0 = hV h) (hf : fX11_between_b0 v0 v1 v2 h = some r)  : PW E p l e (rmv 9 MC MS) s m args below meth c 3 uc us (vx_MQ below (QG E (fun v u => ∃ z, r = .inl z ∧ v = some (.int z.1) ∧ u = z.2)) (XG E (fun En u => ∃ (z : Nat × PH) (n : Nat), r = .inr z ∧ En = exn z.1 ∧ hX z.2 ≤ n ∧ u = hbump z.2 n)) args s MC MS (pA E)) h 0 [(0, some (.ref v0)), (1, some (.int v1)), (2, some (.int v2))] [] := by
  have hm1 : lez h (xT2 r) (vT2 r) := mX11_between_b0 hf
  have hcm : uc ≤ MC := (by have o0 := hm1.1; have o1 := hM; have o2 := hu; (try simp only [hX_sI, hX_sR, hX_sL, hX_sD, hX_sIa, hX_sRa, hV_sI, hV_sR, hV_sL, hV_sD, hV_sIa, hV_sRa, hX_new, hV_new] at o0 o1 o2 ⊢); omega)
  have hsm : us ≤ MS := (by have o0 := hm1.2; have o1 := hN; have o2 := hv; (try simp only [hX_sI, hX_sR, hX_sL, hX_sD, hX_sIa, hX_sRa, hV_sI, hV_sR, hV_sL, hV_sD, hV_sIa, hV_sRa, hX_new, hV_new] at o0 o1 o2 ⊢); omega)
  clear hm1
  unfold fX11_between_b0 at hf
  refine p_iload_n X (dcg dc_X11_between 0 rfl) rfl rfl ?_
  obtain ⟨y2, hy2, h1y2, h2y2⟩ := bx_some hf
  have hc1 := mX11_demandWord hy2
  rcases y2 with z1 | z1
  · have hf := h1y2 z1 rfl
    have hm1 : lez _ (xT2 r) (vT2 r) := mX11_between_b4 hf
    refine p_callSX (As := [_]) X hex ml_X11_128 (dcg dc_X11_between 1 rfl) rfl rfl  (wX11_demandWord hG hy2) (by decide) (room4 (Nat.le_of_ble_eq_true rfl)) (show uc + (hX z1 - hX h) ≤ MC from (by have o0 := hm1.1; have o1 := (show lez h (hX z1) (hV z1) from hc1).1; have o2 := hM; have o3 := hu; (try simp only [hX_sI, hX_sR, hX_sL, hX_sD, hX_sIa, hX_sRa, hV_sI, hV_sR, hV_sL, hV_sD, hV_sIa, hV_sRa, hX_new, hV_new] at o0 o1 o2 o3 ⊢); omega)) (show us + (hV z1 - hV h) ≤ MS from (by have o0 := hm1.2; have o1 := (show lez h (hX z1) (hV z1) from hc1).2; have o2 := hN; have o3 := hv; (try simp only [hX_sI, hX_sR, hX_sL, hX_sD, hX_sIa, hX_sRa, hV_sI, hV_sR, hV_sL, hV_sD, hV_sIa, hV_sRa, hX_new, hV_new] at o0 o1 o2 o3 ⊢); omega)) (show uc + (hX z1 - hX h) ≤ MC from (by have o0 := hm1.1; have o1 := (show lez h (hX z1) (hV z1) from hc1).1; have o2 := hM; have o3 := hu; (try simp only [hX_sI, hX_sR, hX_sL, hX_sD, hX_sIa, hX_sRa, hV_sI, hV_sR, hV_sL, hV_sD, hV_sIa, hV_sRa, hX_new, hV_new] at o0 o1 o2 o3 ⊢); omega)) (show us + (hV z1 - hV h) ≤ MS from (by have o0 := hm1.2; have o1 := (show lez h (hX z1) (hV z1) from hc1).2; have o2 := hN; have o3 := hv; (try simp only [hX_sI, hX_sR, hX_sL, hX_sD, hX_sIa, hX_sRa, hV_sI, hV_sR, hV_sL, hV_sD, hV_sIa, hV_sRa, hX_new, hV_new] at o0 o1 o2 o3 ⊢); omega)) (fun En u q => by obtain ⟨z9, n9, q9, _⟩ := q; cases q9) ?_
    rintro _ _ ⟨z9, hz9, rfl, rfl⟩
    cases hz9
    refine p_pick [0, 1, 2] ?_
    exact wX11_between_b4 X hG hex hM hN (show uc + (hX z1 - hX h) + X0 = hX z1 from (by have o0 := (show lez h (hX z1) (hV z1) from hc1).1; have o1 := hu; (try simp only [hX_sI, hX_sR, hX_sL, hX_sD, hX_sIa, hX_sRa, hV_sI, hV_sR, hV_sL, hV_sD, hV_sIa, hV_sRa, hX_new, hV_new] at o0 o1 ⊢); omega)) (show us + (hV z1 - hV h) + V0 = hV z1 from (by have o0 := (show lez h (hX z1) (hV z1) from hc1).2; have o1 := hv; (try simp only [hX_sI, hX_sR, hX_sL, hX_sD, hX_sIa, hX_sRa, hV_sI, hV_sR, hV_sL, hV_sD, hV_sIa, hV_sRa, hX_new, hV_new] at o0 o1 ⊢); omega)) hf 
  · have hr9 := h2y2 z1 rfl
    subst hr9
    refine p_callSX (As := [_]) X hex ml_X11_128 (dcg dc_X11_between 1 rfl) rfl rfl  (wX11_demandWord hG hy2) (by decide) (room4 (Nat.le_of_ble_eq_true rfl)) (show uc + (hX z1.2 + 1 - hX h) ≤ MC from (by have o0 := (show lez h (hX z1.2 + 1) (hV z1.2 + 6) from hc1).1; have o1 := (show MC + X0 = hX z1.2 + 1 from hM); have o2 := hu; (try simp only [hX_sI, hX_sR, hX_sL, hX_sD, hX_sIa, hX_sRa, hV_sI, hV_sR, hV_sL, hV_sD, hV_sIa, hV_sRa, hX_new, hV_new] at o0 o1 o2 ⊢); omega)) (show us + (hV z1.2 + 6 - hV h) ≤ MS from (by have o0 := (show lez h (hX z1.2 + 1) (hV z1.2 + 6) from hc1).2; have o1 := (show MS + V0 = hV z1.2 + 6 from hN); have o2 := hv; (try simp only [hX_sI, hX_sR, hX_sL, hX_sD, hX_sIa, hX_sRa, hV_sI, hV_sR, hV_sL, hV_sD, hV_sIa, hV_sRa, hX_new, hV_new] at o0 o1 o2 ⊢); omega)) (show uc + (hX z1.2 + 1 - hX h) ≤ MC from (by have o0 := (show lez h (hX z1.2 + 1) (hV z1.2 + 6) from hc1).1; have o1 := (show MC + X0 = hX z1.2 + 1 from hM); have o2 := hu; (try simp only [hX_sI, hX_sR, hX_sL, hX_sD, hX_sIa, hX_sRa, hV_sI, hV_sR, hV_sL, hV_sD, hV_sIa, hV_sRa, hX_new, hV_new] at o0 o1 o2 ⊢); omega)) (show us + (hV z1.2 + 6 - hV h) ≤ MS from (by have o0 := (show lez h (hX z1.2 + 1) (hV z1.2 + 6) from hc1).2; have o1 := (show MS + V0 = hV z1.2 + 6 from hN); have o2 := hv; (try simp only [hX_sI, hX_sR, hX_sL, hX_sD, hX_sIa, hX_sRa, hV_sI, hV_sR, hV_sL, hV_sD, hV_sIa, hV_sRa, hX_new, hV_new] at o0 o1 o2 ⊢); omega)) (fun En u q => by obtain ⟨z9, n9, q9, q8⟩ := q; cases q9; exact ⟨_, n9, rfl, q8⟩) ?_
    rintro _ _ ⟨z9, hz9, _⟩
    cases hz9
noncomputable def fX11_between (v0 : Nat) (v1 : Int32) (v2 : Int32) (h : PH) : Option ((Int32 × PH) ⊕ (Nat × PH)) :=
  fX11_between_b0 v0 v1 v2 h
set_option maxRecDepth 100000 in
theorem mX11_between {v0 : Nat} {v1 : Int32} {v2 : Int32} {h : PH} {r : ((Int32 × PH) ⊕ (Nat × PH))} (hf : fX11_between v0 v1 v2 h = some r) : lez h (xT2 r) (vT2 r) := by
  unfold fX11_between at hf
  have hle := lez_rf h
  exact lez_rt (mX11_between_b0 hf) hle
set_option maxRecDepth 100000 in
theorem wX11_between {E : PE} {l : Launch} (hG : Gs E l) {v0 : Nat} {v1 : Int32} {v2 : Int32} {h : PH} {r : ((Int32 × PH) ⊕ (Nat × PH))} (hf : fX11_between v0 v1 v2 h = some r) : CtX E l 9 ((xT2 r) - hX h) ((vT2 r) - hV h) yX11_between cX11_between 3 (some .int) [.ref v0, .int v1, .int v2] h (fun v u => ∃ z, r = .inl z ∧ v = some (.int z.1) ∧ u = z.2) (fun En u => ∃ (z : Nat × PH) (n : Nat), r = .inr z ∧ En = exn z.1 ∧ hX z.2 ≤ n ∧ u = hbump z.2 n) := by
  have hmm := mX11_between hf
  refine ctx_of hG (by decide) (Nat.le_of_ble_eq_true rfl) ?_
  intro p e s m args below meth c X hex
  show PW E p l e _ s m args below meth c _ 0 0 _ h 0 [(0, some (.ref v0)), (1, some (.int v1)), (2, some (.int v2))] []
  unfold fX11_between at hf
  have hM := Nat.sub_add_cancel hmm.1
  have hN := Nat.sub_add_cancel hmm.2
  refine p_pick [0, 1, 2] ?_
  exact wX11_between_b0 X hG hex hM hN (Nat.zero_add _) (Nat.zero_add _) hf
theorem dc_X11_beginning : decs cX11_beginning [(0, .iload_n 1, 1), (1, .invokestatic 128, 3), (4, .aload_n 0, 1), (5, .getfield 34, 3), (8, .iload_n 1, 1), (9, .invokestatic 191, 3), (12, .invokevirtual 188, 3), (15, .aload_n 0, 1), (16, .getfield 34, 3), (19, .iload_n 1, 1), (20, .invokestatic 185, 3), (23, .invokevirtual 188, 3), (26, .isub, 1), (27, .ireturn, 1)] = true := by decide +kernel
noncomputable def fX11_beginning_b4 (v0 : Nat) (v1 : Int32) (h : PH) : Option ((Int32 × PH) ⊕ (Nat × PH)) :=
  gd (hK h v0 = 11) (bd (fX10_orderBehindBeginning v1) (fun z4 =>
  gs (hR h 11 v0 3) (fun a5 =>
  gd (hK h a5 = 3) (bd (fX3_countAhead a5 z4 h) (fun z8 =>
  bd (fX10_orderOf v1) (fun z9 =>
  gs (hR h 11 v0 3) (fun a10 =>
  gd (hK h a10 = 3) (bd (fX3_countAhead a10 z9 h) (fun z13 =>
  some (.inl (((z8 - z13), h))))))))))))
set_option maxRecDepth 100000 in
theorem mX11_beginning_b4 {v0 : Nat} {v1 : Int32} {h : PH} {r : ((Int32 × PH) ⊕ (Nat × PH))} (hf : fX11_beginning_b4 v0 v1 h = some r) : lez h (xT2 r) (vT2 r) := by
  unfold fX11_beginning_b4 at hf
  have hle := lez_rf h
  obtain ⟨hk3, hf⟩ := gd_some hf
  obtain ⟨z4, hz4, hf⟩ := bd_some hf
  obtain ⟨a5, e6, hf⟩ := gs_some hf
  obtain ⟨hk7, hf⟩ := gd_some hf
  obtain ⟨z8, hz8, hf⟩ := bd_some hf
  obtain ⟨z9, hz9, hf⟩ := bd_some hf
  obtain ⟨a10, e11, hf⟩ := gs_some hf
  obtain ⟨hk12, hf⟩ := gd_some hf
  obtain ⟨z13, hz13, hf⟩ := bd_some hf
  have ee := Option.some.inj hf; subst ee; exact hle
set_option maxRecDepth 100000 in
theorem wX11_beginning_b4 {E : PE} {p : Program} {l : Launch} {e : Env} {s : State} {m : MethodId} {args : Array Value} {below : List Frame} {meth : Method} {c : Code} {X0 V0 MC MS uc us : Nat} (X : Cx E p l e (rmv 9 MC MS) s m args below meth c RX11 cX11_beginning 2 (some .int)) (hG : Gs E l) (hex : ∀ x ∈ c.exceptionTable.toList, False) {v0 : Nat} {v1 : Int32} {h : PH} {r : ((Int32 × PH) ⊕ (Nat × PH))} (hM : MC + X0 = (xT2 r)) (hN : MS + V0 = (vT2 r)) (hu : uc + X0 = hX h) (hv : us + V0 = hV h) (hf : fX11_beginning_b4 v0 v1 h = some r)  : PW E p l e (rmv 9 MC MS) s m args below meth c 2 uc us (vx_MQ below (QG E (fun v u => ∃ z, r = .inl z ∧ v = some (.int z.1) ∧ u = z.2)) (XG E (fun En u => ∃ (z : Nat × PH) (n : Nat), r = .inr z ∧ En = exn z.1 ∧ hX z.2 ≤ n ∧ u = hbump z.2 n)) args s MC MS (pA E)) h 4 [(0, some (.ref v0)), (1, some (.int v1))] [] := by
  have hm1 : lez h (xT2 r) (vT2 r) := mX11_beginning_b4 hf
  have hcm : uc ≤ MC := (by have o0 := hm1.1; have o1 := hM; have o2 := hu; (try simp only [hX_sI, hX_sR, hX_sL, hX_sD, hX_sIa, hX_sRa, hV_sI, hV_sR, hV_sL, hV_sD, hV_sIa, hV_sRa, hX_new, hV_new] at o0 o1 o2 ⊢); omega)
  have hsm : us ≤ MS := (by have o0 := hm1.2; have o1 := hN; have o2 := hv; (try simp only [hX_sI, hX_sR, hX_sL, hX_sD, hX_sIa, hX_sRa, hV_sI, hV_sR, hV_sL, hV_sD, hV_sIa, hV_sRa, hX_new, hV_new] at o0 o1 o2 ⊢); omega)
  clear hm1
  unfold fX11_beginning_b4 at hf
  refine p_aload_n X (dcg dc_X11_beginning 2 rfl) rfl rfl ?_
  obtain ⟨hk3, hf⟩ := gd_some hf
  refine p_getR X fl_X11_34 rfl (by decide) (dcg dc_X11_beginning 3 rfl) hk3 ?_
  refine p_iload_n X (dcg dc_X11_beginning 4 rfl) rfl rfl ?_
  obtain ⟨z4, hz4, hf⟩ := bd_some hf
  refine p_callS (As := [_]) X ml_X11_191 (dcg dc_X11_beginning 5 rfl) rfl rfl  (wX10_orderBehindBeginning hG hz4) (by decide) (room4 (Nat.le_of_ble_eq_true rfl)) hcm hsm ?_
  rintro _ u9 ⟨rfl, e9⟩; have e9 := e9.symm; subst e9
  obtain ⟨a5, e6, hf⟩ := gs_some hf
  first | subst e6 | (try rw [e6])
  obtain ⟨hk7, hf⟩ := gd_some hf
  obtain ⟨z8, hz8, hf⟩ := bd_some hf
  refine p_callV (As := [_]) X ml_X11_188 (dcg dc_X11_beginning 6 rfl) rfl rfl hk7 (wX3_countAhead hG hz8) (by decide) (room4 (Nat.le_of_ble_eq_true rfl)) hcm hsm ?_
  rintro _ u9 ⟨rfl, e9⟩; have e9 := e9.symm; subst e9
  refine p_aload_n X (dcg dc_X11_beginning 7 rfl) rfl rfl ?_
  refine p_getR X fl_X11_34 rfl (by decide) (dcg dc_X11_beginning 8 rfl) hk3 ?_
  refine p_iload_n X (dcg dc_X11_beginning 9 rfl) rfl rfl ?_
  obtain ⟨z9, hz9, hf⟩ := bd_some hf
  refine p_callS (As := [_]) X ml_X11_185 (dcg dc_X11_beginning 10 rfl) rfl rfl  (wX10_orderOf hG hz9) (by decide) (room4 (Nat.le_of_ble_eq_true rfl)) hcm hsm ?_
  rintro _ u9 ⟨rfl, e9⟩; have e9 := e9.symm; subst e9
  obtain ⟨a10, e11, hf⟩ := gs_some hf
  first | subst e11 | (try rw [e11])
  obtain ⟨hk12, hf⟩ := gd_some hf
  obtain ⟨z13, hz13, hf⟩ := bd_some hf
  refine p_callV (As := [_]) X ml_X11_188 (dcg dc_X11_beginning 11 rfl) rfl rfl hk12 (wX3_countAhead hG hz13) (by decide) (room4 (Nat.le_of_ble_eq_true rfl)) hcm hsm ?_
  rintro _ u9 ⟨rfl, e9⟩; have e9 := e9.symm; subst e9
  refine p_isub X (dcg dc_X11_beginning 12 rfl) ?_
  have er := Option.some.inj hf
  subst er
  refine p_vx ?_
  exact p_iret X rfl (dcg dc_X11_beginning 13 rfl) ⟨_, rfl, rfl, rfl⟩ hcm hsm
noncomputable def fX11_beginning_b0 (v0 : Nat) (v1 : Int32) (h : PH) : Option ((Int32 × PH) ⊕ (Nat × PH)) :=
  bx (fX11_demandWord v1 h) (fun z1 =>
  fX11_beginning_b4 v0 v1 z1)
set_option maxRecDepth 100000 in
theorem mX11_beginning_b0 {v0 : Nat} {v1 : Int32} {h : PH} {r : ((Int32 × PH) ⊕ (Nat × PH))} (hf : fX11_beginning_b0 v0 v1 h = some r) : lez h (xT2 r) (vT2 r) := by
  unfold fX11_beginning_b0 at hf
  have hle := lez_rf h
  obtain ⟨y2, hy2, h1y2, h2y2⟩ := bx_some hf
  have hc1 := mX11_demandWord hy2
  rcases y2 with z1 | z1
  · have hf := h1y2 z1 rfl
    have hle : lez h (hX z1) (hV z1) := lez_rt hc1 hle
    exact lez_rt (mX11_beginning_b4 hf) hle
  · have hr9 := h2y2 z1 rfl
    subst hr9
    exact lez_rt hc1 hle
set_option maxRecDepth 100000 in
theorem wX11_beginning_b0 {E : PE} {p : Program} {l : Launch} {e : Env} {s : State} {m : MethodId} {args : Array Value} {below : List Frame} {meth : Method} {c : Code} {X0 V0 MC MS uc us : Nat} (X : Cx E p l e (rmv 9 MC MS) s m args below meth c RX11 cX11_beginning 2 (some .int)) (hG : Gs E l) (hex : ∀ x ∈ c.exceptionTable.toList, False) {v0 : Nat} {v1 : Int32} {h : PH} {r : ((Int32 × PH) ⊕ (Nat × PH))} (hM : MC + X0 = (xT2 r)) (hN : MS + V0 = (vT2 r)) (hu : uc + X0 = hX h) (hv : us + V0 = hV h) (hf : fX11_beginning_b0 v0 v1 h = some r)  : PW E p l e (rmv 9 MC MS) s m args below meth c 2 uc us (vx_MQ below (QG E (fun v u => ∃ z, r = .inl z ∧ v = some (.int z.1) ∧ u = z.2)) (XG E (fun En u => ∃ (z : Nat × PH) (n : Nat), r = .inr z ∧ En = exn z.1 ∧ hX z.2 ≤ n ∧ u = hbump z.2 n)) args s MC MS (pA E)) h 0 [(0, some (.ref v0)), (1, some (.int v1))] [] := by
  have hm1 : lez h (xT2 r) (vT2 r) := mX11_beginning_b0 hf
  have hcm : uc ≤ MC := (by have o0 := hm1.1; have o1 := hM; have o2 := hu; (try simp only [hX_sI, hX_sR, hX_sL, hX_sD, hX_sIa, hX_sRa, hV_sI, hV_sR, hV_sL, hV_sD, hV_sIa, hV_sRa, hX_new, hV_new] at o0 o1 o2 ⊢); omega)
  have hsm : us ≤ MS := (by have o0 := hm1.2; have o1 := hN; have o2 := hv; (try simp only [hX_sI, hX_sR, hX_sL, hX_sD, hX_sIa, hX_sRa, hV_sI, hV_sR, hV_sL, hV_sD, hV_sIa, hV_sRa, hX_new, hV_new] at o0 o1 o2 ⊢); omega)
  clear hm1
  unfold fX11_beginning_b0 at hf
  refine p_iload_n X (dcg dc_X11_beginning 0 rfl) rfl rfl ?_
  obtain ⟨y2, hy2, h1y2, h2y2⟩ := bx_some hf
  have hc1 := mX11_demandWord hy2
  rcases y2 with z1 | z1
  · have hf := h1y2 z1 rfl
    have hm1 : lez _ (xT2 r) (vT2 r) := mX11_beginning_b4 hf
    refine p_callSX (As := [_]) X hex ml_X11_128 (dcg dc_X11_beginning 1 rfl) rfl rfl  (wX11_demandWord hG hy2) (by decide) (room4 (Nat.le_of_ble_eq_true rfl)) (show uc + (hX z1 - hX h) ≤ MC from (by have o0 := hm1.1; have o1 := (show lez h (hX z1) (hV z1) from hc1).1; have o2 := hM; have o3 := hu; (try simp only [hX_sI, hX_sR, hX_sL, hX_sD, hX_sIa, hX_sRa, hV_sI, hV_sR, hV_sL, hV_sD, hV_sIa, hV_sRa, hX_new, hV_new] at o0 o1 o2 o3 ⊢); omega)) (show us + (hV z1 - hV h) ≤ MS from (by have o0 := hm1.2; have o1 := (show lez h (hX z1) (hV z1) from hc1).2; have o2 := hN; have o3 := hv; (try simp only [hX_sI, hX_sR, hX_sL, hX_sD, hX_sIa, hX_sRa, hV_sI, hV_sR, hV_sL, hV_sD, hV_sIa, hV_sRa, hX_new, hV_new] at o0 o1 o2 o3 ⊢); omega)) (show uc + (hX z1 - hX h) ≤ MC from (by have o0 := hm1.1; have o1 := (show lez h (hX z1) (hV z1) from hc1).1; have o2 := hM; have o3 := hu; (try simp only [hX_sI, hX_sR, hX_sL, hX_sD, hX_sIa, hX_sRa, hV_sI, hV_sR, hV_sL, hV_sD, hV_sIa, hV_sRa, hX_new, hV_new] at o0 o1 o2 o3 ⊢); omega)) (show us + (hV z1 - hV h) ≤ MS from (by have o0 := hm1.2; have o1 := (show lez h (hX z1) (hV z1) from hc1).2; have o2 := hN; have o3 := hv; (try simp only [hX_sI, hX_sR, hX_sL, hX_sD, hX_sIa, hX_sRa, hV_sI, hV_sR, hV_sL, hV_sD, hV_sIa, hV_sRa, hX_new, hV_new] at o0 o1 o2 o3 ⊢); omega)) (fun En u q => by obtain ⟨z9, n9, q9, _⟩ := q; cases q9) ?_
    rintro _ _ ⟨z9, hz9, rfl, rfl⟩
    cases hz9
    refine p_pick [0, 1] ?_
    exact wX11_beginning_b4 X hG hex hM hN (show uc + (hX z1 - hX h) + X0 = hX z1 from (by have o0 := (show lez h (hX z1) (hV z1) from hc1).1; have o1 := hu; (try simp only [hX_sI, hX_sR, hX_sL, hX_sD, hX_sIa, hX_sRa, hV_sI, hV_sR, hV_sL, hV_sD, hV_sIa, hV_sRa, hX_new, hV_new] at o0 o1 ⊢); omega)) (show us + (hV z1 - hV h) + V0 = hV z1 from (by have o0 := (show lez h (hX z1) (hV z1) from hc1).2; have o1 := hv; (try simp only [hX_sI, hX_sR, hX_sL, hX_sD, hX_sIa, hX_sRa, hV_sI, hV_sR, hV_sL, hV_sD, hV_sIa, hV_sRa, hX_new, hV_new] at o0 o1 ⊢); omega)) hf 
  · have hr9 := h2y2 z1 rfl
    subst hr9
    refine p_callSX (As := [_]) X hex ml_X11_128 (dcg dc_X11_beginning 1 rfl) rfl rfl  (wX11_demandWord hG hy2) (by decide) (room4 (Nat.le_of_ble_eq_true rfl)) (show uc + (hX z1.2 + 1 - hX h) ≤ MC from (by have o0 := (show lez h (hX z1.2 + 1) (hV z1.2 + 6) from hc1).1; have o1 := (show MC + X0 = hX z1.2 + 1 from hM); have o2 := hu; (try simp only [hX_sI, hX_sR, hX_sL, hX_sD, hX_sIa, hX_sRa, hV_sI, hV_sR, hV_sL, hV_sD, hV_sIa, hV_sRa, hX_new, hV_new] at o0 o1 o2 ⊢); omega)) (show us + (hV z1.2 + 6 - hV h) ≤ MS from (by have o0 := (show lez h (hX z1.2 + 1) (hV z1.2 + 6) from hc1).2; have o1 := (show MS + V0 = hV z1.2 + 6 from hN); have o2 := hv; (try simp only [hX_sI, hX_sR, hX_sL, hX_sD, hX_sIa, hX_sRa, hV_sI, hV_sR, hV_sL, hV_sD, hV_sIa, hV_sRa, hX_new, hV_new] at o0 o1 o2 ⊢); omega)) (show uc + (hX z1.2 + 1 - hX h) ≤ MC from (by have o0 := (show lez h (hX z1.2 + 1) (hV z1.2 + 6) from hc1).1; have o1 := (show MC + X0 = hX z1.2 + 1 from hM); have o2 := hu; (try simp only [hX_sI, hX_sR, hX_sL, hX_sD, hX_sIa, hX_sRa, hV_sI, hV_sR, hV_sL, hV_sD, hV_sIa, hV_sRa, hX_new, hV_new] at o0 o1 o2 ⊢); omega)) (show us + (hV z1.2 + 6 - hV h) ≤ MS from (by have o0 := (show lez h (hX z1.2 + 1) (hV z1.2 + 6) from hc1).2; have o1 := (show MS + V0 = hV z1.2 + 6 from hN); have o2 := hv; (try simp only [hX_sI, hX_sR, hX_sL, hX_sD, hX_sIa, hX_sRa, hV_sI, hV_sR, hV_sL, hV_sD, hV_sIa, hV_sRa, hX_new, hV_new] at o0 o1 o2 ⊢); omega)) (fun En u q => by obtain ⟨z9, n9, q9, q8⟩ := q; cases q9; exact ⟨_, n9, rfl, q8⟩) ?_
    rintro _ _ ⟨z9, hz9, _⟩
    cases hz9
noncomputable def fX11_beginning (v0 : Nat) (v1 : Int32) (h : PH) : Option ((Int32 × PH) ⊕ (Nat × PH)) :=
  fX11_beginning_b0 v0 v1 h
set_option maxRecDepth 100000 in
theorem mX11_beginning {v0 : Nat} {v1 : Int32} {h : PH} {r : ((Int32 × PH) ⊕ (Nat × PH))} (hf : fX11_beginning v0 v1 h = some r) : lez h (xT2 r) (vT2 r) := by
  unfold fX11_beginning at hf
  have hle := lez_rf h
  exact lez_rt (mX11_beginning_b0 hf) hle
set_option maxRecDepth 100000 in
theorem wX11_beginning {E : PE} {l : Launch} (hG : Gs E l) {v0 : Nat} {v1 : Int32} {h : PH} {r : ((Int32 × PH) ⊕ (Nat × PH))} (hf : fX11_beginning v0 v1 h = some r) : CtX E l 9 ((xT2 r) - hX h) ((vT2 r) - hV h) yX11_beginning cX11_beginning 2 (some .int) [.ref v0, .int v1] h (fun v u => ∃ z, r = .inl z ∧ v = some (.int z.1) ∧ u = z.2) (fun En u => ∃ (z : Nat × PH) (n : Nat), r = .inr z ∧ En = exn z.1 ∧ hX z.2 ≤ n ∧ u = hbump z.2 n) := by
  have hmm := mX11_beginning hf
  refine ctx_of hG (by decide) (Nat.le_of_ble_eq_true rfl) ?_
  intro p e s m args below meth c X hex
  show PW E p l e _ s m args below meth c _ 0 0 _ h 0 [(0, some (.ref v0)), (1, some (.int v1))] []
  unfold fX11_beginning at hf
  have hM := Nat.sub_add_cancel hmm.1
  have hN := Nat.sub_add_cancel hmm.2
  refine p_pick [0, 1] ?_
  exact wX11_beginning_b0 X hG hex hM hN (Nat.zero_add _) (Nat.zero_add _) hf
theorem dc_X11_textsWith : decs cX11_textsWith [(0, .iload_n 1, 1), (1, .invokestatic 128, 3), (4, .aload_n 0, 1), (5, .getfield 34, 3), (8, .iload_n 1, 1), (9, .invokevirtual 194, 3), (12, .astore_n 2, 1), (13, .aload_n 2, 1), (14, .ifnonnull 7, 3), (17, .iconst 0, 1), (18, .goto 10, 3), (21, .aload_n 2, 1), (22, .getfield 198, 3), (25, .invokevirtual 202, 3), (28, .ireturn, 1)] = true := by decide +kernel
noncomputable def fX11_textsWith_b28 (t0 : Int32) (h : PH) : Option ((Int32 × PH) ⊕ (Nat × PH)) :=
  some (.inl ((t0, h)))
set_option maxRecDepth 100000 in
theorem mX11_textsWith_b28 {t0 : Int32} {h : PH} {r : ((Int32 × PH) ⊕ (Nat × PH))} (hf : fX11_textsWith_b28 t0 h = some r) : lez h (xT2 r) (vT2 r) := by
  unfold fX11_textsWith_b28 at hf
  have hle := lez_rf h
  have ee := Option.some.inj hf; subst ee; exact hle
set_option maxRecDepth 100000 in
theorem wX11_textsWith_b28 {E : PE} {p : Program} {l : Launch} {e : Env} {s : State} {m : MethodId} {args : Array Value} {below : List Frame} {meth : Method} {c : Code} {X0 V0 MC MS uc us : Nat} (X : Cx E p l e (rmv 9 MC MS) s m args below meth c RX11 cX11_textsWith 3 (some .int)) (hG : Gs E l) (hex : ∀ x ∈ c.exceptionTable.toList, False) {t0 : Int32} {h : PH} {r : ((Int32 × PH) ⊕ (Nat × PH))} (hM : MC + X0 = (xT2 r)) (hN : MS + V0 = (vT2 r)) (hu : uc + X0 = hX h) (hv : us + V0 = hV h) (hf : fX11_textsWith_b28 t0 h = some r)  : PW E p l e (rmv 9 MC MS) s m args below meth c 3 uc us (vx_MQ below (QG E (fun v u => ∃ z, r = .inl z ∧ v = some (.int z.1) ∧ u = z.2)) (XG E (fun En u => ∃ (z : Nat × PH) (n : Nat), r = .inr z ∧ En = exn z.1 ∧ hX z.2 ≤ n ∧ u = hbump z.2 n)) args s MC MS (pA E)) h 28 [] [.int t0] := by
  have hm1 : lez h (xT2 r) (vT2 r) := mX11_textsWith_b28 hf
  have hcm : uc ≤ MC := (by have o0 := hm1.1; have o1 := hM; have o2 := hu; (try simp only [hX_sI, hX_sR, hX_sL, hX_sD, hX_sIa, hX_sRa, hV_sI, hV_sR, hV_sL, hV_sD, hV_sIa, hV_sRa, hX_new, hV_new] at o0 o1 o2 ⊢); omega)
  have hsm : us ≤ MS := (by have o0 := hm1.2; have o1 := hN; have o2 := hv; (try simp only [hX_sI, hX_sR, hX_sL, hX_sD, hX_sIa, hX_sRa, hV_sI, hV_sR, hV_sL, hV_sD, hV_sIa, hV_sRa, hX_new, hV_new] at o0 o1 o2 ⊢); omega)
  clear hm1
  unfold fX11_textsWith_b28 at hf
  have er := Option.some.inj hf
  subst er
  refine p_vx ?_
  exact p_iret X rfl (dcg dc_X11_textsWith 14 rfl) ⟨_, rfl, rfl, rfl⟩ hcm hsm
noncomputable def fX11_textsWith_b4 (v0 : Nat) (v1 : Int32) (h : PH) : Option ((Int32 × PH) ⊕ (Nat × PH)) :=
  gd (hK h v0 = 11) (gs (hR h 11 v0 3) (fun a4 =>
  gd (hK h a4 = 3) (bd (fX3_find a4 v1 h) (fun z7 =>
  mq z7 (fX11_textsWith_b28 (0 : Int32) h) (fun a8 =>
  gd (hK h a8 = 10) (gs (hR h 10 a8 2) (fun a10 =>
  gd (hK h a10 = 9) (bd (fX9_size a10 h) (fun z13 =>
  fX11_textsWith_b28 z13 h)))))))))
set_option maxRecDepth 100000 in
theorem mX11_textsWith_b4 {v0 : Nat} {v1 : Int32} {h : PH} {r : ((Int32 × PH) ⊕ (Nat × PH))} (hf : fX11_textsWith_b4 v0 v1 h = some r) : lez h (xT2 r) (vT2 r) := by
  unfold fX11_textsWith_b4 at hf
  have hle := lez_rf h
  obtain ⟨hk3, hf⟩ := gd_some hf
  obtain ⟨a4, e5, hf⟩ := gs_some hf
  obtain ⟨hk6, hf⟩ := gd_some hf
  obtain ⟨z7, hz7, hf⟩ := bd_some hf
  rcases mq_or hf with ⟨q, hf⟩ | ⟨a8, q, hf⟩
  · have hf := mq_n q hf
    exact lez_rt (mX11_textsWith_b28 hf) hle
  · have hk14 := mq_s q hf
    first | subst q | skip
    have hf := hk14
    obtain ⟨hk9, hf⟩ := gd_some hf
    obtain ⟨a10, e11, hf⟩ := gs_some hf
    obtain ⟨hk12, hf⟩ := gd_some hf
    obtain ⟨z13, hz13, hf⟩ := bd_some hf
    exact lez_rt (mX11_textsWith_b28 hf) hle
set_option maxRecDepth 100000 in
theorem wX11_textsWith_b4 {E : PE} {p : Program} {l : Launch} {e : Env} {s : State} {m : MethodId} {args : Array Value} {below : List Frame} {meth : Method} {c : Code} {X0 V0 MC MS uc us : Nat} (X : Cx E p l e (rmv 9 MC MS) s m args below meth c RX11 cX11_textsWith 3 (some .int)) (hG : Gs E l) (hex : ∀ x ∈ c.exceptionTable.toList, False) {v0 : Nat} {v1 : Int32} {h : PH} {r : ((Int32 × PH) ⊕ (Nat × PH))} (hM : MC + X0 = (xT2 r)) (hN : MS + V0 = (vT2 r)) (hu : uc + X0 = hX h) (hv : us + V0 = hV h) (hf : fX11_textsWith_b4 v0 v1 h = some r)  : PW E p l e (rmv 9 MC MS) s m args below meth c 3 uc us (vx_MQ below (QG E (fun v u => ∃ z, r = .inl z ∧ v = some (.int z.1) ∧ u = z.2)) (XG E (fun En u => ∃ (z : Nat × PH) (n : Nat), r = .inr z ∧ En = exn z.1 ∧ hX z.2 ≤ n ∧ u = hbump z.2 n)) args s MC MS (pA E)) h 4 [(0, some (.ref v0)), (1, some (.int v1))] [] := by
  have hm1 : lez h (xT2 r) (vT2 r) := mX11_textsWith_b4 hf
  have hcm : uc ≤ MC := (by have o0 := hm1.1; have o1 := hM; have o2 := hu; (try simp only [hX_sI, hX_sR, hX_sL, hX_sD, hX_sIa, hX_sRa, hV_sI, hV_sR, hV_sL, hV_sD, hV_sIa, hV_sRa, hX_new, hV_new] at o0 o1 o2 ⊢); omega)
  have hsm : us ≤ MS := (by have o0 := hm1.2; have o1 := hN; have o2 := hv; (try simp only [hX_sI, hX_sR, hX_sL, hX_sD, hX_sIa, hX_sRa, hV_sI, hV_sR, hV_sL, hV_sD, hV_sIa, hV_sRa, hX_new, hV_new] at o0 o1 o2 ⊢); omega)
  clear hm1
  unfold fX11_textsWith_b4 at hf
  refine p_aload_n X (dcg dc_X11_textsWith 2 rfl) rfl rfl ?_
  obtain ⟨hk3, hf⟩ := gd_some hf
  refine p_getR X fl_X11_34 rfl (by decide) (dcg dc_X11_textsWith 3 rfl) hk3 ?_
  refine p_iload_n X (dcg dc_X11_textsWith 4 rfl) rfl rfl ?_
  obtain ⟨a4, e5, hf⟩ := gs_some hf
  first | subst e5 | (try rw [e5])
  obtain ⟨hk6, hf⟩ := gd_some hf
  obtain ⟨z7, hz7, hf⟩ := bd_some hf
  refine p_callV (As := [_]) X ml_X11_194 (dcg dc_X11_textsWith 5 rfl) rfl rfl hk6 (wX3_find hG hz7) (by decide) (room4 (Nat.le_of_ble_eq_true rfl)) hcm hsm ?_
  rintro _ u9 ⟨rfl, e9⟩; have e9 := e9.symm; subst e9
  refine p_astoreq_n X (dcg dc_X11_textsWith 6 rfl) rfl (by decide) rfl ?_
  refine p_aloadq_n X (dcg dc_X11_textsWith 7 rfl) rfl rfl ?_
  refine p_ifnonnull (tgt := 21) X (dcg dc_X11_textsWith 8 rfl) (by decide) (fun a8 q => ?_) (fun q => ?_)
  · have hk14 := mq_s q hf
    first | subst q | (try rw [q])
    have hf := hk14
    refine p_aload_n X (dcg dc_X11_textsWith 11 rfl) rfl rfl ?_
    obtain ⟨hk9, hf⟩ := gd_some hf
    refine p_getRn X fl_X11_198 rfl (by decide) (dcg dc_X11_textsWith 12 rfl) hk9 ?_
    obtain ⟨a10, e11, hf⟩ := gs_some hf
    first | subst e11 | (try rw [e11])
    obtain ⟨hk12, hf⟩ := gd_some hf
    obtain ⟨z13, hz13, hf⟩ := bd_some hf
    refine p_callV (As := []) X ml_X11_202 (dcg dc_X11_textsWith 13 rfl) rfl rfl hk12 (wX9_size hG hz13) (by decide) (room4 (Nat.le_of_ble_eq_true rfl)) hcm hsm ?_
    rintro _ u9 ⟨rfl, e9⟩; have e9 := e9.symm; subst e9
    refine p_pick [] ?_
    exact wX11_textsWith_b28 X hG hex hM hN hu hv hf 
  · have hk14 := mq_n q hf
    first | subst q | (try rw [q])
    have hf := hk14
    refine p_iconst (v := 0) X (dcg dc_X11_textsWith 9 rfl) (by decide) ?_
    refine p_goto (tgt := 28) X (dcg dc_X11_textsWith 10 rfl) (by decide) ?_
    refine p_pick [] ?_
    exact wX11_textsWith_b28 X hG hex hM hN hu hv hf 
noncomputable def fX11_textsWith_b0 (v0 : Nat) (v1 : Int32) (h : PH) : Option ((Int32 × PH) ⊕ (Nat × PH)) :=
  bx (fX11_demandWord v1 h) (fun z1 =>
  fX11_textsWith_b4 v0 v1 z1)
set_option maxRecDepth 100000 in
theorem mX11_textsWith_b0 {v0 : Nat} {v1 : Int32} {h : PH} {r : ((Int32 × PH) ⊕ (Nat × PH))} (hf : fX11_textsWith_b0 v0 v1 h = some r) : lez h (xT2 r) (vT2 r) := by
  unfold fX11_textsWith_b0 at hf
  have hle := lez_rf h
  obtain ⟨y2, hy2, h1y2, h2y2⟩ := bx_some hf
  have hc1 := mX11_demandWord hy2
  rcases y2 with z1 | z1
  · have hf := h1y2 z1 rfl
    have hle : lez h (hX z1) (hV z1) := lez_rt hc1 hle
    exact lez_rt (mX11_textsWith_b4 hf) hle
  · have hr9 := h2y2 z1 rfl
    subst hr9
    exact lez_rt hc1 hle
set_option maxRecDepth 100000 in
theorem wX11_textsWith_b0 {E : PE} {p : Program} {l : Launch} {e : Env} {s : State} {m : MethodId} {args : Array Value} {below : List Frame} {meth : Method} {c : Code} {X0 V0 MC MS uc us : Nat} (X : Cx E p l e (rmv 9 MC MS) s m args below meth c RX11 cX11_textsWith 3 (some .int)) (hG : Gs E l) (hex : ∀ x ∈ c.exceptionTable.toList, False) {v0 : Nat} {v1 : Int32} {h : PH} {r : ((Int32 × PH) ⊕ (Nat × PH))} (hM : MC + X0 = (xT2 r)) (hN : MS + V0 = (vT2 r)) (hu : uc + X0 = hX h) (hv : us + V0 = hV h) (hf : fX11_textsWith_b0 v0 v1 h = some r)  : PW E p l e (rmv 9 MC MS) s m args below meth c 3 uc us (vx_MQ below (QG E (fun v u => ∃ z, r = .inl z ∧ v = some (.int z.1) ∧ u = z.2)) (XG E (fun En u => ∃ (z : Nat × PH) (n : Nat), r = .inr z ∧ En = exn z.1 ∧ hX z.2 ≤ n ∧ u = hbump z.2 n)) args s MC MS (pA E)) h 0 [(0, some (.ref v0)), (1, some (.int v1))] [] := by
  have hm1 : lez h (xT2 r) (vT2 r) := mX11_textsWith_b0 hf
  have hcm : uc ≤ MC := (by have o0 := hm1.1; have o1 := hM; have o2 := hu; (try simp only [hX_sI, hX_sR, hX_sL, hX_sD, hX_sIa, hX_sRa, hV_sI, hV_sR, hV_sL, hV_sD, hV_sIa, hV_sRa, hX_new, hV_new] at o0 o1 o2 ⊢); omega)
  have hsm : us ≤ MS := (by have o0 := hm1.2; have o1 := hN; have o2 := hv; (try simp only [hX_sI, hX_sR, hX_sL, hX_sD, hX_sIa, hX_sRa, hV_sI, hV_sR, hV_sL, hV_sD, hV_sIa, hV_sRa, hX_new, hV_new] at o0 o1 o2 ⊢); omega)
  clear hm1
  unfold fX11_textsWith_b0 at hf
  refine p_iload_n X (dcg dc_X11_textsWith 0 rfl) rfl rfl ?_
  obtain ⟨y2, hy2, h1y2, h2y2⟩ := bx_some hf
  have hc1 := mX11_demandWord hy2
  rcases y2 with z1 | z1
  · have hf := h1y2 z1 rfl
    have hm1 : lez _ (xT2 r) (vT2 r) := mX11_textsWith_b4 hf
    refine p_callSX (As := [_]) X hex ml_X11_128 (dcg dc_X11_textsWith 1 rfl) rfl rfl  (wX11_demandWord hG hy2) (by decide) (room4 (Nat.le_of_ble_eq_true rfl)) (show uc + (hX z1 - hX h) ≤ MC from (by have o0 := hm1.1; have o1 := (show lez h (hX z1) (hV z1) from hc1).1; have o2 := hM; have o3 := hu; (try simp only [hX_sI, hX_sR, hX_sL, hX_sD, hX_sIa, hX_sRa, hV_sI, hV_sR, hV_sL, hV_sD, hV_sIa, hV_sRa, hX_new, hV_new] at o0 o1 o2 o3 ⊢); omega)) (show us + (hV z1 - hV h) ≤ MS from (by have o0 := hm1.2; have o1 := (show lez h (hX z1) (hV z1) from hc1).2; have o2 := hN; have o3 := hv; (try simp only [hX_sI, hX_sR, hX_sL, hX_sD, hX_sIa, hX_sRa, hV_sI, hV_sR, hV_sL, hV_sD, hV_sIa, hV_sRa, hX_new, hV_new] at o0 o1 o2 o3 ⊢); omega)) (show uc + (hX z1 - hX h) ≤ MC from (by have o0 := hm1.1; have o1 := (show lez h (hX z1) (hV z1) from hc1).1; have o2 := hM; have o3 := hu; (try simp only [hX_sI, hX_sR, hX_sL, hX_sD, hX_sIa, hX_sRa, hV_sI, hV_sR, hV_sL, hV_sD, hV_sIa, hV_sRa, hX_new, hV_new] at o0 o1 o2 o3 ⊢); omega)) (show us + (hV z1 - hV h) ≤ MS from (by have o0 := hm1.2; have o1 := (show lez h (hX z1) (hV z1) from hc1).2; have o2 := hN; have o3 := hv; (try simp only [hX_sI, hX_sR, hX_sL, hX_sD, hX_sIa, hX_sRa, hV_sI, hV_sR, hV_sL, hV_sD, hV_sIa, hV_sRa, hX_new, hV_new] at o0 o1 o2 o3 ⊢); omega)) (fun En u q => by obtain ⟨z9, n9, q9, _⟩ := q; cases q9) ?_
    rintro _ _ ⟨z9, hz9, rfl, rfl⟩
    cases hz9
    refine p_pick [0, 1] ?_
    exact wX11_textsWith_b4 X hG hex hM hN (show uc + (hX z1 - hX h) + X0 = hX z1 from (by have o0 := (show lez h (hX z1) (hV z1) from hc1).1; have o1 := hu; (try simp only [hX_sI, hX_sR, hX_sL, hX_sD, hX_sIa, hX_sRa, hV_sI, hV_sR, hV_sL, hV_sD, hV_sIa, hV_sRa, hX_new, hV_new] at o0 o1 ⊢); omega)) (show us + (hV z1 - hV h) + V0 = hV z1 from (by have o0 := (show lez h (hX z1) (hV z1) from hc1).2; have o1 := hv; (try simp only [hX_sI, hX_sR, hX_sL, hX_sD, hX_sIa, hX_sRa, hV_sI, hV_sR, hV_sL, hV_sD, hV_sIa, hV_sRa, hX_new, hV_new] at o0 o1 ⊢); omega)) hf 
  · have hr9 := h2y2 z1 rfl
    subst hr9
    refine p_callSX (As := [_]) X hex ml_X11_128 (dcg dc_X11_textsWith 1 rfl) rfl rfl  (wX11_demandWord hG hy2) (by decide) (room4 (Nat.le_of_ble_eq_true rfl)) (show uc + (hX z1.2 + 1 - hX h) ≤ MC from (by have o0 := (show lez h (hX z1.2 + 1) (hV z1.2 + 6) from hc1).1; have o1 := (show MC + X0 = hX z1.2 + 1 from hM); have o2 := hu; (try simp only [hX_sI, hX_sR, hX_sL, hX_sD, hX_sIa, hX_sRa, hV_sI, hV_sR, hV_sL, hV_sD, hV_sIa, hV_sRa, hX_new, hV_new] at o0 o1 o2 ⊢); omega)) (show us + (hV z1.2 + 6 - hV h) ≤ MS from (by have o0 := (show lez h (hX z1.2 + 1) (hV z1.2 + 6) from hc1).2; have o1 := (show MS + V0 = hV z1.2 + 6 from hN); have o2 := hv; (try simp only [hX_sI, hX_sR, hX_sL, hX_sD, hX_sIa, hX_sRa, hV_sI, hV_sR, hV_sL, hV_sD, hV_sIa, hV_sRa, hX_new, hV_new] at o0 o1 o2 ⊢); omega)) (show uc + (hX z1.2 + 1 - hX h) ≤ MC from (by have o0 := (show lez h (hX z1.2 + 1) (hV z1.2 + 6) from hc1).1; have o1 := (show MC + X0 = hX z1.2 + 1 from hM); have o2 := hu; (try simp only [hX_sI, hX_sR, hX_sL, hX_sD, hX_sIa, hX_sRa, hV_sI, hV_sR, hV_sL, hV_sD, hV_sIa, hV_sRa, hX_new, hV_new] at o0 o1 o2 ⊢); omega)) (show us + (hV z1.2 + 6 - hV h) ≤ MS from (by have o0 := (show lez h (hX z1.2 + 1) (hV z1.2 + 6) from hc1).2; have o1 := (show MS + V0 = hV z1.2 + 6 from hN); have o2 := hv; (try simp only [hX_sI, hX_sR, hX_sL, hX_sD, hX_sIa, hX_sRa, hV_sI, hV_sR, hV_sL, hV_sD, hV_sIa, hV_sRa, hX_new, hV_new] at o0 o1 o2 ⊢); omega)) (fun En u q => by obtain ⟨z9, n9, q9, q8⟩ := q; cases q9; exact ⟨_, n9, rfl, q8⟩) ?_
    rintro _ _ ⟨z9, hz9, _⟩
    cases hz9
noncomputable def fX11_textsWith (v0 : Nat) (v1 : Int32) (h : PH) : Option ((Int32 × PH) ⊕ (Nat × PH)) :=
  fX11_textsWith_b0 v0 v1 h
set_option maxRecDepth 100000 in
theorem mX11_textsWith {v0 : Nat} {v1 : Int32} {h : PH} {r : ((Int32 × PH) ⊕ (Nat × PH))} (hf : fX11_textsWith v0 v1 h = some r) : lez h (xT2 r) (vT2 r) := by
  unfold fX11_textsWith at hf
  have hle := lez_rf h
  exact lez_rt (mX11_textsWith_b0 hf) hle
set_option maxRecDepth 100000 in
theorem wX11_textsWith {E : PE} {l : Launch} (hG : Gs E l) {v0 : Nat} {v1 : Int32} {h : PH} {r : ((Int32 × PH) ⊕ (Nat × PH))} (hf : fX11_textsWith v0 v1 h = some r) : CtX E l 9 ((xT2 r) - hX h) ((vT2 r) - hV h) yX11_textsWith cX11_textsWith 3 (some .int) [.ref v0, .int v1] h (fun v u => ∃ z, r = .inl z ∧ v = some (.int z.1) ∧ u = z.2) (fun En u => ∃ (z : Nat × PH) (n : Nat), r = .inr z ∧ En = exn z.1 ∧ hX z.2 ≤ n ∧ u = hbump z.2 n) := by
  have hmm := mX11_textsWith hf
  refine ctx_of hG (by decide) (Nat.le_of_ble_eq_true rfl) ?_
  intro p e s m args below meth c X hex
  show PW E p l e _ s m args below meth c _ 0 0 _ h 0 [(0, some (.ref v0)), (1, some (.int v1))] []
  unfold fX11_textsWith at hf
  have hM := Nat.sub_add_cancel hmm.1
  have hN := Nat.sub_add_cancel hmm.2
  refine p_pick [0, 1] ?_
  exact wX11_textsWith_b0 X hG hex hM hN (Nat.zero_add _) (Nat.zero_add _) hf
theorem dc_X11_isIn : decs cX11_isIn [(0, .iload_n 1, 1), (1, .invokestatic 128, 3), (4, .iload_n 2, 1), (5, .ifCond .ge 11, 3), (8, .new 125, 3), (11, .dup, 1), (12, .invokespecial 127, 3), (15, .athrow, 1), (16, .aload_n 0, 1), (17, .getfield 34, 3), (20, .iload_n 1, 1), (21, .invokevirtual 194, 3), (24, .astore_n 3, 1), (25, .aload_n 3, 1), (26, .ifnull 18, 3), (29, .aload_n 3, 1), (30, .getfield 198, 3), (33, .iload_n 2, 1), (34, .invokevirtual 203, 3), (37, .ifCond .eq 7, 3), (40, .iconst 1, 1), (41, .goto 4, 3), (44, .iconst 0, 1), (45, .ireturn, 1)] = true := by decide +kernel
noncomputable def fX11_isIn_b45 (t0 : Int32) (h : PH) : Option ((Int32 × PH) ⊕ (Nat × PH)) :=
  gd (t0 &&& 1 = t0) (some (.inl ((t0, h))))
set_option maxRecDepth 100000 in
theorem mX11_isIn_b45 {t0 : Int32} {h : PH} {r : ((Int32 × PH) ⊕ (Nat × PH))} (hf : fX11_isIn_b45 t0 h = some r) : lez h (xT2 r) (vT2 r) := by
  unfold fX11_isIn_b45 at hf
  have hle := lez_rf h
  obtain ⟨hg9, hf⟩ := gd_some hf
  have ee := Option.some.inj hf; subst ee; exact hle
set_option maxRecDepth 100000 in
theorem wX11_isIn_b45 {E : PE} {p : Program} {l : Launch} {e : Env} {s : State} {m : MethodId} {args : Array Value} {below : List Frame} {meth : Method} {c : Code} {X0 V0 MC MS uc us : Nat} (X : Cx E p l e (rmv 9 MC MS) s m args below meth c RX11 cX11_isIn 4 (some .boolean)) (hG : Gs E l) (hex : ∀ x ∈ c.exceptionTable.toList, False) {t0 : Int32} {h : PH} {r : ((Int32 × PH) ⊕ (Nat × PH))} (hM : MC + X0 = (xT2 r)) (hN : MS + V0 = (vT2 r)) (hu : uc + X0 = hX h) (hv : us + V0 = hV h) (hf : fX11_isIn_b45 t0 h = some r)  : PW E p l e (rmv 9 MC MS) s m args below meth c 4 uc us (vx_MQ below (QG E (fun v u => ∃ z, r = .inl z ∧ v = some (.int z.1) ∧ u = z.2)) (XG E (fun En u => ∃ (z : Nat × PH) (n : Nat), r = .inr z ∧ En = exn z.1 ∧ hX z.2 ≤ n ∧ u = hbump z.2 n)) args s MC MS (pA E)) h 45 [] [.int t0] := by
  have hm1 : lez h (xT2 r) (vT2 r) := mX11_isIn_b45 hf
  have hcm : uc ≤ MC := (by have o0 := hm1.1; have o1 := hM; have o2 := hu; (try simp only [hX_sI, hX_sR, hX_sL, hX_sD, hX_sIa, hX_sRa, hV_sI, hV_sR, hV_sL, hV_sD, hV_sIa, hV_sRa, hX_new, hV_new] at o0 o1 o2 ⊢); omega)
  have hsm : us ≤ MS := (by have o0 := hm1.2; have o1 := hN; have o2 := hv; (try simp only [hX_sI, hX_sR, hX_sL, hX_sD, hX_sIa, hX_sRa, hV_sI, hV_sR, hV_sL, hV_sD, hV_sIa, hV_sRa, hX_new, hV_new] at o0 o1 o2 ⊢); omega)
  clear hm1
  unfold fX11_isIn_b45 at hf
  obtain ⟨hg9, hf⟩ := gd_some hf
  have er := Option.some.inj hf
  subst er
  refine p_vx ?_
  exact p_zret X rfl (congrArg Value.int hg9) (dcg dc_X11_isIn 23 rfl) ⟨_, rfl, rfl, rfl⟩ hcm hsm
noncomputable def fX11_isIn_b44  (h : PH) : Option ((Int32 × PH) ⊕ (Nat × PH)) :=
  fX11_isIn_b45 (0 : Int32) h
set_option maxRecDepth 100000 in
theorem mX11_isIn_b44  {h : PH} {r : ((Int32 × PH) ⊕ (Nat × PH))} (hf : fX11_isIn_b44  h = some r) : lez h (xT2 r) (vT2 r) := by
  unfold fX11_isIn_b44 at hf
  have hle := lez_rf h
  exact lez_rt (mX11_isIn_b45 hf) hle
set_option maxRecDepth 100000 in
theorem wX11_isIn_b44 {E : PE} {p : Program} {l : Launch} {e : Env} {s : State} {m : MethodId} {args : Array Value} {below : List Frame} {meth : Method} {c : Code} {X0 V0 MC MS uc us : Nat} (X : Cx E p l e (rmv 9 MC MS) s m args below meth c RX11 cX11_isIn 4 (some .boolean)) (hG : Gs E l) (hex : ∀ x ∈ c.exceptionTable.toList, False)  {h : PH} {r : ((Int32 × PH) ⊕ (Nat × PH))} (hM : MC + X0 = (xT2 r)) (hN : MS + V0 = (vT2 r)) (hu : uc + X0 = hX h) (hv : us + V0 = hV h) (hf : fX11_isIn_b44  h = some r)  : PW E p l e (rmv 9 MC MS) s m args below meth c 4 uc us (vx_MQ below (QG E (fun v u => ∃ z, r = .inl z ∧ v = some (.int z.1) ∧ u = z.2)) (XG E (fun En u => ∃ (z : Nat × PH) (n : Nat), r = .inr z ∧ En = exn z.1 ∧ hX z.2 ≤ n ∧ u = hbump z.2 n)) args s MC MS (pA E)) h 44 [] [] := by
  have hm1 : lez h (xT2 r) (vT2 r) := mX11_isIn_b44 hf
  have hcm : uc ≤ MC := (by have o0 := hm1.1; have o1 := hM; have o2 := hu; (try simp only [hX_sI, hX_sR, hX_sL, hX_sD, hX_sIa, hX_sRa, hV_sI, hV_sR, hV_sL, hV_sD, hV_sIa, hV_sRa, hX_new, hV_new] at o0 o1 o2 ⊢); omega)
  have hsm : us ≤ MS := (by have o0 := hm1.2; have o1 := hN; have o2 := hv; (try simp only [hX_sI, hX_sR, hX_sL, hX_sD, hX_sIa, hX_sRa, hV_sI, hV_sR, hV_sL, hV_sD, hV_sIa, hV_sRa, hX_new, hV_new] at o0 o1 o2 ⊢); omega)
  clear hm1
  unfold fX11_isIn_b44 at hf
  refine p_iconst (v := 0) X (dcg dc_X11_isIn 22 rfl) (by decide) ?_
  refine p_pick [] ?_
  exact wX11_isIn_b45 X hG hex hM hN hu hv hf 
noncomputable def fX11_isIn_b4 (v0 : Nat) (v1 : Int32) (v2 : Int32) (h : PH) : Option ((Int32 × PH) ⊕ (Nat × PH)) :=
  if (0 ≤ v2) then (gd (hK h v0 = 11) (gs (hR h 11 v0 3) (fun a4 =>
  gd (hK h a4 = 3) (bd (fX3_find a4 v1 h) (fun z7 =>
  mq z7 (fX11_isIn_b44  h) (fun a8 =>
  gd (hK h a8 = 10) (gs (hR h 10 a8 2) (fun a11 =>
  gd (hK h a11 = 9) (bd (fX9_has a11 v2 h) (fun z14 =>
  if (z14 = 0) then (fX11_isIn_b44  h) else
  fX11_isIn_b45 (1 : Int32) h)))))))))) else
  some (.inr (2, h))
set_option maxRecDepth 100000 in
theorem mX11_isIn_b4 {v0 : Nat} {v1 : Int32} {v2 : Int32} {h : PH} {r : ((Int32 × PH) ⊕ (Nat × PH))} (hf : fX11_isIn_b4 v0 v1 v2 h = some r) : lez h (xT2 r) (vT2 r) := by
  unfold fX11_isIn_b4 at hf
  have hle := lez_rf h
  rcases ite_or hf with ⟨q, hf⟩ | ⟨q, hf⟩
  · have hf := if_t q hf
    obtain ⟨hk3, hf⟩ := gd_some hf
    obtain ⟨a4, e5, hf⟩ := gs_some hf
    obtain ⟨hk6, hf⟩ := gd_some hf
    obtain ⟨z7, hz7, hf⟩ := bd_some hf
    rcases mq_or hf with ⟨q, hf⟩ | ⟨a8, q, hf⟩
    · have hf := mq_n q hf
      exact lez_rt (mX11_isIn_b44 hf) hle
    · have hk15 := mq_s q hf
      first | subst q | skip
      have hf := hk15
      obtain ⟨hk10, hf⟩ := gd_some hf
      obtain ⟨a11, e12, hf⟩ := gs_some hf
      obtain ⟨hk13, hf⟩ := gd_some hf
      obtain ⟨z14, hz14, hf⟩ := bd_some hf
      rcases ite_or hf with ⟨q, hf⟩ | ⟨q, hf⟩
      · have hf := if_t q hf
        exact lez_rt (mX11_isIn_b44 hf) hle
      · have hf := if_f q hf
        exact lez_rt (mX11_isIn_b45 hf) hle
  · have hf := if_f q hf
    cases hf; exact lez_up hle
set_option maxRecDepth 100000 in
theorem wX11_isIn_b4 {E : PE} {p : Program} {l : Launch} {e : Env} {s : State} {m : MethodId} {args : Array Value} {below : List Frame} {meth : Method} {c : Code} {X0 V0 MC MS uc us : Nat} (X : Cx E p l e (rmv 9 MC MS) s m args below meth c RX11 cX11_isIn 4 (some .boolean)) (hG : Gs E l) (hex : ∀ x ∈ c.exceptionTable.toList, False) {v0 : Nat} {v1 : Int32} {v2 : Int32} {h : PH} {r : ((Int32 × PH) ⊕ (Nat × PH))} (hM : MC + X0 = (xT2 r)) (hN : MS + V0 = (vT2 r)) (hu : uc + X0 = hX h) (hv : us + V0 = hV h) (hf : fX11_isIn_b4 v0 v1 v2 h = some r)  : PW E p l e (rmv 9 MC MS) s m args below meth c 4 uc us (vx_MQ below (QG E (fun v u => ∃ z, r = .inl z ∧ v = some (.int z.1) ∧ u = z.2)) (XG E (fun En u => ∃ (z : Nat × PH) (n : Nat), r = .inr z ∧ En = exn z.1 ∧ hX z.2 ≤ n ∧ u = hbump z.2 n)) args s MC MS (pA E)) h 4 [(0, some (.ref v0)), (1, some (.int v1)), (2, some (.int v2))] [] := by
  have hm1 : lez h (xT2 r) (vT2 r) := mX11_isIn_b4 hf
  have hcm : uc ≤ MC := (by have o0 := hm1.1; have o1 := hM; have o2 := hu; (try simp only [hX_sI, hX_sR, hX_sL, hX_sD, hX_sIa, hX_sRa, hV_sI, hV_sR, hV_sL, hV_sD, hV_sIa, hV_sRa, hX_new, hV_new] at o0 o1 o2 ⊢); omega)
  have hsm : us ≤ MS := (by have o0 := hm1.2; have o1 := hN; have o2 := hv; (try simp only [hX_sI, hX_sR, hX_sL, hX_sD, hX_sIa, hX_sRa, hV_sI, hV_sR, hV_sL, hV_sD, hV_sIa, hV_sRa, hX_new, hV_new] at o0 o1 o2 ⊢); omega)
  clear hm1
  unfold fX11_isIn_b4 at hf
  refine p_iload_n X (dcg dc_X11_isIn 2 rfl) rfl rfl ?_
  refine p_if_ge (tgt := 16) X (dcg dc_X11_isIn 3 rfl) (by decide) (fun q => ?_) (fun q => ?_)
  · have hf := if_t q hf
    refine p_aload_n X (dcg dc_X11_isIn 8 rfl) rfl rfl ?_
    obtain ⟨hk3, hf⟩ := gd_some hf
    refine p_getR X fl_X11_34 rfl (by decide) (dcg dc_X11_isIn 9 rfl) hk3 ?_
    refine p_iload_n X (dcg dc_X11_isIn 10 rfl) rfl rfl ?_
    obtain ⟨a4, e5, hf⟩ := gs_some hf
    first | subst e5 | (try rw [e5])
    obtain ⟨hk6, hf⟩ := gd_some hf
    obtain ⟨z7, hz7, hf⟩ := bd_some hf
    refine p_callV (As := [_]) X ml_X11_194 (dcg dc_X11_isIn 11 rfl) rfl rfl hk6 (wX3_find hG hz7) (by decide) (room4 (Nat.le_of_ble_eq_true rfl)) hcm hsm ?_
    rintro _ u9 ⟨rfl, e9⟩; have e9 := e9.symm; subst e9
    refine p_astoreq_n X (dcg dc_X11_isIn 12 rfl) rfl (by decide) rfl ?_
    refine p_aloadq_n X (dcg dc_X11_isIn 13 rfl) rfl rfl ?_
    refine p_ifnull (tgt := 44) X (dcg dc_X11_isIn 14 rfl) (by decide) (fun q => ?_) (fun a8 q => ?_)
    · have hk15 := mq_n q hf
      first | subst q | (try rw [q])
      have hf := hk15
      refine p_pick [] ?_
      exact wX11_isIn_b44 X hG hex hM hN hu hv hf 
    · have hk15 := mq_s q hf
      first | subst q | (try rw [q])
      have hf := hk15
      refine p_aload_n X (dcg dc_X11_isIn 15 rfl) rfl rfl ?_
      obtain ⟨hk10, hf⟩ := gd_some hf
      refine p_getRn X fl_X11_198 rfl (by decide) (dcg dc_X11_isIn 16 rfl) hk10 ?_
      refine p_iload_n X (dcg dc_X11_isIn 17 rfl) rfl rfl ?_
      obtain ⟨a11, e12, hf⟩ := gs_some hf
      first | subst e12 | (try rw [e12])
      obtain ⟨hk13, hf⟩ := gd_some hf
      obtain ⟨z14, hz14, hf⟩ := bd_some hf
      refine p_callV (As := [_]) X ml_X11_203 (dcg dc_X11_isIn 18 rfl) rfl rfl hk13 (wX9_has hG hz14) (by decide) (room4 (Nat.le_of_ble_eq_true rfl)) hcm hsm ?_
      rintro _ u9 ⟨rfl, e9⟩; have e9 := e9.symm; subst e9
      refine p_if_eq (tgt := 44) X (dcg dc_X11_isIn 19 rfl) (by decide) (fun q => ?_) (fun q => ?_)
      · have hf := if_t q hf
        refine p_pick [] ?_
        exact wX11_isIn_b44 X hG hex hM hN hu hv hf 
      · have hf := if_f q hf
        refine p_iconst (v := 1) X (dcg dc_X11_isIn 20 rfl) (by decide) ?_
        refine p_goto (tgt := 45) X (dcg dc_X11_isIn 21 rfl) (by decide) ?_
        refine p_pick [] ?_
        exact wX11_isIn_b45 X hG hex hM hN hu hv hf 
  · have hf := if_f q hf
    have er := Option.some.inj hf
    subst er
    exact p_throw0 (cls := "java/lang/IndexOutOfBoundsException") (names := ["java/lang/RuntimeException", "java/lang/Exception"]) X hex (by decide) (by decide) tw_1205 tw_127 th_X11_127a th_X11_127b th_X11_127c th_X11_127d (dcg dc_X11_isIn 4 rfl) (dcg dc_X11_isIn 5 rfl) (dcg dc_X11_isIn 6 rfl) (dcg dc_X11_isIn 7 rfl) (Nat.le_of_ble_eq_true rfl) (Nat.le_trans (Nat.add_le_add_right (room4 (Nat.le_of_ble_eq_true rfl)) _) (Nat.le_of_ble_eq_true rfl)) (show uc + 1 ≤ MC from (by have o0 := (show MC + X0 = hX h + 1 from hM); have o1 := hu; (try simp only [hX_sI, hX_sR, hX_sL, hX_sD, hX_sIa, hX_sRa, hV_sI, hV_sR, hV_sL, hV_sD, hV_sIa, hV_sRa, hX_new, hV_new] at o0 o1 ⊢); omega)) (show us + 6 ≤ MS from (by have o0 := (show MS + V0 = hV h + 6 from hN); have o1 := hv; (try simp only [hX_sI, hX_sR, hX_sL, hX_sD, hX_sIa, hX_sRa, hV_sI, hV_sR, hV_sL, hV_sD, hV_sIa, hV_sRa, hX_new, hV_new] at o0 o1 ⊢); omega)) (show uc + 1 ≤ MC from (by have o0 := (show MC + X0 = hX h + 1 from hM); have o1 := hu; (try simp only [hX_sI, hX_sR, hX_sL, hX_sD, hX_sIa, hX_sRa, hV_sI, hV_sR, hV_sL, hV_sD, hV_sIa, hV_sRa, hX_new, hV_new] at o0 o1 ⊢); omega)) (show us + 6 ≤ MS from (by have o0 := (show MS + V0 = hV h + 6 from hN); have o1 := hv; (try simp only [hX_sI, hX_sR, hX_sL, hX_sD, hX_sIa, hX_sRa, hV_sI, hV_sR, hV_sL, hV_sD, hV_sIa, hV_sRa, hX_new, hV_new] at o0 o1 ⊢); omega)) (fun n hn => ⟨_, n, rfl, rfl, hn, rfl⟩)
noncomputable def fX11_isIn_b0 (v0 : Nat) (v1 : Int32) (v2 : Int32) (h : PH) : Option ((Int32 × PH) ⊕ (Nat × PH)) :=
  bx (fX11_demandWord v1 h) (fun z1 =>
  fX11_isIn_b4 v0 v1 v2 z1)
set_option maxRecDepth 100000 in
theorem mX11_isIn_b0 {v0 : Nat} {v1 : Int32} {v2 : Int32} {h : PH} {r : ((Int32 × PH) ⊕ (Nat × PH))} (hf : fX11_isIn_b0 v0 v1 v2 h = some r) : lez h (xT2 r) (vT2 r) := by
  unfold fX11_isIn_b0 at hf
  have hle := lez_rf h
  obtain ⟨y2, hy2, h1y2, h2y2⟩ := bx_some hf
  have hc1 := mX11_demandWord hy2
  rcases y2 with z1 | z1
  · have hf := h1y2 z1 rfl
    have hle : lez h (hX z1) (hV z1) := lez_rt hc1 hle
    exact lez_rt (mX11_isIn_b4 hf) hle
  · have hr9 := h2y2 z1 rfl
    subst hr9
    exact lez_rt hc1 hle
set_option maxRecDepth 100000 in
theorem wX11_isIn_b0 {E : PE} {p : Program} {l : Launch} {e : Env} {s : State} {m : MethodId} {args : Array Value} {below : List Frame} {meth : Method} {c : Code} {X0 V0 MC MS uc us : Nat} (X : Cx E p l e (rmv 9 MC MS) s m args below meth c RX11 cX11_isIn 4 (some .boolean)) (hG : Gs E l) (hex : ∀ x ∈ c.exceptionTable.toList, False) {v0 : Nat} {v1 : Int32} {v2 : Int32} {h : PH} {r : ((Int32 × PH) ⊕ (Nat × PH))} (hM : MC + X0 = (xT2 r)) (hN : MS + V0 = (vT2 r)) (hu : uc + X0 = hX h) (hv : us + V0 = hV h) (hf : fX11_isIn_b0 v0 v1 v2 h = some r)  : PW E p l e (rmv 9 MC MS) s m args below meth c 4 uc us (vx_MQ below (QG E (fun v u => ∃ z, r = .inl z ∧ v = some (.int z.1) ∧ u = z.2)) (XG E (fun En u => ∃ (z : Nat × PH) (n : Nat), r = .inr z ∧ En = exn z.1 ∧ hX z.2 ≤ n ∧ u = hbump z.2 n)) args s MC MS (pA E)) h 0 [(0, some (.ref v0)), (1, some (.int v1)), (2, some (.int v2))] [] := by
  have hm1 : lez h (xT2 r) (vT2 r) := mX11_isIn_b0 hf
  have hcm : uc ≤ MC := (by have o0 := hm1.1; have o1 := hM; have o2 := hu; (try simp only [hX_sI, hX_sR, hX_sL, hX_sD, hX_sIa, hX_sRa, hV_sI, hV_sR, hV_sL, hV_sD, hV_sIa, hV_sRa, hX_new, hV_new] at o0 o1 o2 ⊢); omega)
  have hsm : us ≤ MS := (by have o0 := hm1.2; have o1 := hN; have o2 := hv; (try simp only [hX_sI, hX_sR, hX_sL, hX_sD, hX_sIa, hX_sRa, hV_sI, hV_sR, hV_sL, hV_sD, hV_sIa, hV_sRa, hX_new, hV_new] at o0 o1 o2 ⊢); omega)
  clear hm1
  unfold fX11_isIn_b0 at hf
  refine p_iload_n X (dcg dc_X11_isIn 0 rfl) rfl rfl ?_
  obtain ⟨y2, hy2, h1y2, h2y2⟩ := bx_some hf
  have hc1 := mX11_demandWord hy2
  rcases y2 with z1 | z1
  · have hf := h1y2 z1 rfl
    have hm1 : lez _ (xT2 r) (vT2 r) := mX11_isIn_b4 hf
    refine p_callSX (As := [_]) X hex ml_X11_128 (dcg dc_X11_isIn 1 rfl) rfl rfl  (wX11_demandWord hG hy2) (by decide) (room4 (Nat.le_of_ble_eq_true rfl)) (show uc + (hX z1 - hX h) ≤ MC from (by have o0 := hm1.1; have o1 := (show lez h (hX z1) (hV z1) from hc1).1; have o2 := hM; have o3 := hu; (try simp only [hX_sI, hX_sR, hX_sL, hX_sD, hX_sIa, hX_sRa, hV_sI, hV_sR, hV_sL, hV_sD, hV_sIa, hV_sRa, hX_new, hV_new] at o0 o1 o2 o3 ⊢); omega)) (show us + (hV z1 - hV h) ≤ MS from (by have o0 := hm1.2; have o1 := (show lez h (hX z1) (hV z1) from hc1).2; have o2 := hN; have o3 := hv; (try simp only [hX_sI, hX_sR, hX_sL, hX_sD, hX_sIa, hX_sRa, hV_sI, hV_sR, hV_sL, hV_sD, hV_sIa, hV_sRa, hX_new, hV_new] at o0 o1 o2 o3 ⊢); omega)) (show uc + (hX z1 - hX h) ≤ MC from (by have o0 := hm1.1; have o1 := (show lez h (hX z1) (hV z1) from hc1).1; have o2 := hM; have o3 := hu; (try simp only [hX_sI, hX_sR, hX_sL, hX_sD, hX_sIa, hX_sRa, hV_sI, hV_sR, hV_sL, hV_sD, hV_sIa, hV_sRa, hX_new, hV_new] at o0 o1 o2 o3 ⊢); omega)) (show us + (hV z1 - hV h) ≤ MS from (by have o0 := hm1.2; have o1 := (show lez h (hX z1) (hV z1) from hc1).2; have o2 := hN; have o3 := hv; (try simp only [hX_sI, hX_sR, hX_sL, hX_sD, hX_sIa, hX_sRa, hV_sI, hV_sR, hV_sL, hV_sD, hV_sIa, hV_sRa, hX_new, hV_new] at o0 o1 o2 o3 ⊢); omega)) (fun En u q => by obtain ⟨z9, n9, q9, _⟩ := q; cases q9) ?_
    rintro _ _ ⟨z9, hz9, rfl, rfl⟩
    cases hz9
    refine p_pick [0, 1, 2] ?_
    exact wX11_isIn_b4 X hG hex hM hN (show uc + (hX z1 - hX h) + X0 = hX z1 from (by have o0 := (show lez h (hX z1) (hV z1) from hc1).1; have o1 := hu; (try simp only [hX_sI, hX_sR, hX_sL, hX_sD, hX_sIa, hX_sRa, hV_sI, hV_sR, hV_sL, hV_sD, hV_sIa, hV_sRa, hX_new, hV_new] at o0 o1 ⊢); omega)) (show us + (hV z1 - hV h) + V0 = hV z1 from (by have o0 := (show lez h (hX z1) (hV z1) from hc1).2; have o1 := hv; (try simp only [hX_sI, hX_sR, hX_sL, hX_sD, hX_sIa, hX_sRa, hV_sI, hV_sR, hV_sL, hV_sD, hV_sIa, hV_sRa, hX_new, hV_new] at o0 o1 ⊢); omega)) hf 
  · have hr9 := h2y2 z1 rfl
    subst hr9
    refine p_callSX (As := [_]) X hex ml_X11_128 (dcg dc_X11_isIn 1 rfl) rfl rfl  (wX11_demandWord hG hy2) (by decide) (room4 (Nat.le_of_ble_eq_true rfl)) (show uc + (hX z1.2 + 1 - hX h) ≤ MC from (by have o0 := (show lez h (hX z1.2 + 1) (hV z1.2 + 6) from hc1).1; have o1 := (show MC + X0 = hX z1.2 + 1 from hM); have o2 := hu; (try simp only [hX_sI, hX_sR, hX_sL, hX_sD, hX_sIa, hX_sRa, hV_sI, hV_sR, hV_sL, hV_sD, hV_sIa, hV_sRa, hX_new, hV_new] at o0 o1 o2 ⊢); omega)) (show us + (hV z1.2 + 6 - hV h) ≤ MS from (by have o0 := (show lez h (hX z1.2 + 1) (hV z1.2 + 6) from hc1).2; have o1 := (show MS + V0 = hV z1.2 + 6 from hN); have o2 := hv; (try simp only [hX_sI, hX_sR, hX_sL, hX_sD, hX_sIa, hX_sRa, hV_sI, hV_sR, hV_sL, hV_sD, hV_sIa, hV_sRa, hX_new, hV_new] at o0 o1 o2 ⊢); omega)) (show uc + (hX z1.2 + 1 - hX h) ≤ MC from (by have o0 := (show lez h (hX z1.2 + 1) (hV z1.2 + 6) from hc1).1; have o1 := (show MC + X0 = hX z1.2 + 1 from hM); have o2 := hu; (try simp only [hX_sI, hX_sR, hX_sL, hX_sD, hX_sIa, hX_sRa, hV_sI, hV_sR, hV_sL, hV_sD, hV_sIa, hV_sRa, hX_new, hV_new] at o0 o1 o2 ⊢); omega)) (show us + (hV z1.2 + 6 - hV h) ≤ MS from (by have o0 := (show lez h (hX z1.2 + 1) (hV z1.2 + 6) from hc1).2; have o1 := (show MS + V0 = hV z1.2 + 6 from hN); have o2 := hv; (try simp only [hX_sI, hX_sR, hX_sL, hX_sD, hX_sIa, hX_sRa, hV_sI, hV_sR, hV_sL, hV_sD, hV_sIa, hV_sRa, hX_new, hV_new] at o0 o1 o2 ⊢); omega)) (fun En u q => by obtain ⟨z9, n9, q9, q8⟩ := q; cases q9; exact ⟨_, n9, rfl, q8⟩) ?_
    rintro _ _ ⟨z9, hz9, _⟩
    cases hz9
noncomputable def fX11_isIn (v0 : Nat) (v1 : Int32) (v2 : Int32) (h : PH) : Option ((Int32 × PH) ⊕ (Nat × PH)) :=
  fX11_isIn_b0 v0 v1 v2 h
set_option maxRecDepth 100000 in
theorem mX11_isIn {v0 : Nat} {v1 : Int32} {v2 : Int32} {h : PH} {r : ((Int32 × PH) ⊕ (Nat × PH))} (hf : fX11_isIn v0 v1 v2 h = some r) : lez h (xT2 r) (vT2 r) := by
  unfold fX11_isIn at hf
  have hle := lez_rf h
  exact lez_rt (mX11_isIn_b0 hf) hle
set_option maxRecDepth 100000 in
theorem wX11_isIn {E : PE} {l : Launch} (hG : Gs E l) {v0 : Nat} {v1 : Int32} {v2 : Int32} {h : PH} {r : ((Int32 × PH) ⊕ (Nat × PH))} (hf : fX11_isIn v0 v1 v2 h = some r) : CtX E l 9 ((xT2 r) - hX h) ((vT2 r) - hV h) yX11_isIn cX11_isIn 4 (some .boolean) [.ref v0, .int v1, .int v2] h (fun v u => ∃ z, r = .inl z ∧ v = some (.int z.1) ∧ u = z.2) (fun En u => ∃ (z : Nat × PH) (n : Nat), r = .inr z ∧ En = exn z.1 ∧ hX z.2 ≤ n ∧ u = hbump z.2 n) := by
  have hmm := mX11_isIn hf
  refine ctx_of hG (by decide) (Nat.le_of_ble_eq_true rfl) ?_
  intro p e s m args below meth c X hex
  show PW E p l e _ s m args below meth c _ 0 0 _ h 0 [(0, some (.ref v0)), (1, some (.int v1)), (2, some (.int v2))] []
  unfold fX11_isIn at hf
  have hM := Nat.sub_add_cancel hmm.1
  have hN := Nat.sub_add_cancel hmm.2
  refine p_pick [0, 1, 2] ?_
  exact wX11_isIn_b0 X hG hex hM hN (Nat.zero_add _) (Nat.zero_add _) hf
theorem dc_X11_nextWith : decs cX11_nextWith [(0, .iload_n 1, 1), (1, .invokestatic 128, 3), (4, .iload_n 2, 1), (5, .ifCond .ge 11, 3), (8, .new 125, 3), (11, .dup, 1), (12, .invokespecial 127, 3), (15, .athrow, 1), (16, .aload_n 0, 1), (17, .getfield 34, 3), (20, .iload_n 1, 1), (21, .invokevirtual 194, 3), (24, .astore_n 3, 1), (25, .aload_n 3, 1), (26, .ifnonnull 7, 3), (29, .iconst (-1), 1), (30, .goto 11, 3), (33, .aload_n 3, 1), (34, .getfield 198, 3), (37, .iload_n 2, 1), (38, .invokevirtual 207, 3), (41, .ireturn, 1)] = true := by decide +kernel
noncomputable def fX11_nextWith_b41 (t0 : Int32) (h : PH) : Option ((Int32 × PH) ⊕ (Nat × PH)) :=
  some (.inl ((t0, h)))
set_option maxRecDepth 100000 in
theorem mX11_nextWith_b41 {t0 : Int32} {h : PH} {r : ((Int32 × PH) ⊕ (Nat × PH))} (hf : fX11_nextWith_b41 t0 h = some r) : lez h (xT2 r) (vT2 r) := by
  unfold fX11_nextWith_b41 at hf
  have hle := lez_rf h
  have ee := Option.some.inj hf; subst ee; exact hle
set_option maxRecDepth 100000 in
theorem wX11_nextWith_b41 {E : PE} {p : Program} {l : Launch} {e : Env} {s : State} {m : MethodId} {args : Array Value} {below : List Frame} {meth : Method} {c : Code} {X0 V0 MC MS uc us : Nat} (X : Cx E p l e (rmv 9 MC MS) s m args below meth c RX11 cX11_nextWith 4 (some .int)) (hG : Gs E l) (hex : ∀ x ∈ c.exceptionTable.toList, False) {t0 : Int32} {h : PH} {r : ((Int32 × PH) ⊕ (Nat × PH))} (hM : MC + X0 = (xT2 r)) (hN : MS + V0 = (vT2 r)) (hu : uc + X0 = hX h) (hv : us + V0 = hV h) (hf : fX11_nextWith_b41 t0 h = some r)  : PW E p l e (rmv 9 MC MS) s m args below meth c 4 uc us (vx_MQ below (QG E (fun v u => ∃ z, r = .inl z ∧ v = some (.int z.1) ∧ u = z.2)) (XG E (fun En u => ∃ (z : Nat × PH) (n : Nat), r = .inr z ∧ En = exn z.1 ∧ hX z.2 ≤ n ∧ u = hbump z.2 n)) args s MC MS (pA E)) h 41 [] [.int t0] := by
  have hm1 : lez h (xT2 r) (vT2 r) := mX11_nextWith_b41 hf
  have hcm : uc ≤ MC := (by have o0 := hm1.1; have o1 := hM; have o2 := hu; (try simp only [hX_sI, hX_sR, hX_sL, hX_sD, hX_sIa, hX_sRa, hV_sI, hV_sR, hV_sL, hV_sD, hV_sIa, hV_sRa, hX_new, hV_new] at o0 o1 o2 ⊢); omega)
  have hsm : us ≤ MS := (by have o0 := hm1.2; have o1 := hN; have o2 := hv; (try simp only [hX_sI, hX_sR, hX_sL, hX_sD, hX_sIa, hX_sRa, hV_sI, hV_sR, hV_sL, hV_sD, hV_sIa, hV_sRa, hX_new, hV_new] at o0 o1 o2 ⊢); omega)
  clear hm1
  unfold fX11_nextWith_b41 at hf
  have er := Option.some.inj hf
  subst er
  refine p_vx ?_
  exact p_iret X rfl (dcg dc_X11_nextWith 21 rfl) ⟨_, rfl, rfl, rfl⟩ hcm hsm
noncomputable def fX11_nextWith_b4 (v0 : Nat) (v1 : Int32) (v2 : Int32) (h : PH) : Option ((Int32 × PH) ⊕ (Nat × PH)) :=
  if (0 ≤ v2) then (gd (hK h v0 = 11) (gs (hR h 11 v0 3) (fun a4 =>
  gd (hK h a4 = 3) (bd (fX3_find a4 v1 h) (fun z7 =>
  mq z7 (fX11_nextWith_b41 (-1 : Int32) h) (fun a8 =>
  gd (hK h a8 = 10) (gs (hR h 10 a8 2) (fun a10 =>
  gd (hK h a10 = 9) (bd (fX9_next a10 v2 h) (fun z13 =>
  fX11_nextWith_b41 z13 h)))))))))) else
  some (.inr (2, h))
set_option maxRecDepth 100000 in
theorem mX11_nextWith_b4 {v0 : Nat} {v1 : Int32} {v2 : Int32} {h : PH} {r : ((Int32 × PH) ⊕ (Nat × PH))} (hf : fX11_nextWith_b4 v0 v1 v2 h = some r) : lez h (xT2 r) (vT2 r) := by
  unfold fX11_nextWith_b4 at hf
  have hle := lez_rf h
  rcases ite_or hf with ⟨q, hf⟩ | ⟨q, hf⟩
  · have hf := if_t q hf
    obtain ⟨hk3, hf⟩ := gd_some hf
    obtain ⟨a4, e5, hf⟩ := gs_some hf
    obtain ⟨hk6, hf⟩ := gd_some hf
    obtain ⟨z7, hz7, hf⟩ := bd_some hf
    rcases mq_or hf with ⟨q, hf⟩ | ⟨a8, q, hf⟩
    · have hf := mq_n q hf
      exact lez_rt (mX11_nextWith_b41 hf) hle
    · have hk14 := mq_s q hf
      first | subst q | skip
      have hf := hk14
      obtain ⟨hk9, hf⟩ := gd_some hf
      obtain ⟨a10, e11, hf⟩ := gs_some hf
      obtain ⟨hk12, hf⟩ := gd_some hf
      obtain ⟨z13, hz13, hf⟩ := bd_some hf
      exact lez_rt (mX11_nextWith_b41 hf) hle
  · have hf := if_f q hf
    cases hf; exact lez_up hle
set_option maxRecDepth 100000 in
theorem wX11_nextWith_b4 {E : PE} {p : Program} {l : Launch} {e : Env} {s : State} {m : MethodId} {args : Array Value} {below : List Frame} {meth : Method} {c : Code} {X0 V0 MC MS uc us : Nat} (X : Cx E p l e (rmv 9 MC MS) s m args below meth c RX11 cX11_nextWith 4 (some .int)) (hG : Gs E l) (hex : ∀ x ∈ c.exceptionTable.toList, False) {v0 : Nat} {v1 : Int32} {v2 : Int32} {h : PH} {r : ((Int32 × PH) ⊕ (Nat × PH))} (hM : MC + X0 = (xT2 r)) (hN : MS + V0 = (vT2 r)) (hu : uc + X0 = hX h) (hv : us + V0 = hV h) (hf : fX11_nextWith_b4 v0 v1 v2 h = some r)  : PW E p l e (rmv 9 MC MS) s m args below meth c 4 uc us (vx_MQ below (QG E (fun v u => ∃ z, r = .inl z ∧ v = some (.int z.1) ∧ u = z.2)) (XG E (fun En u => ∃ (z : Nat × PH) (n : Nat), r = .inr z ∧ En = exn z.1 ∧ hX z.2 ≤ n ∧ u = hbump z.2 n)) args s MC MS (pA E)) h 4 [(0, some (.ref v0)), (1, some (.int v1)), (2, some (.int v2))] [] := by
  have hm1 : lez h (xT2 r) (vT2 r) := mX11_nextWith_b4 hf
  have hcm : uc ≤ MC := (by have o0 := hm1.1; have o1 := hM; have o2 := hu; (try simp only [hX_sI, hX_sR, hX_sL, hX_sD, hX_sIa, hX_sRa, hV_sI, hV_sR, hV_sL, hV_sD, hV_sIa, hV_sRa, hX_new, hV_new] at o0 o1 o2 ⊢); omega)
  have hsm : us ≤ MS := (by have o0 := hm1.2; have o1 := hN; have o2 := hv; (try simp only [hX_sI, hX_sR, hX_sL, hX_sD, hX_sIa, hX_sRa, hV_sI, hV_sR, hV_sL, hV_sD, hV_sIa, hV_sRa, hX_new, hV_new] at o0 o1 o2 ⊢); omega)
  clear hm1
  unfold fX11_nextWith_b4 at hf
  refine p_iload_n X (dcg dc_X11_nextWith 2 rfl) rfl rfl ?_
  refine p_if_ge (tgt := 16) X (dcg dc_X11_nextWith 3 rfl) (by decide) (fun q => ?_) (fun q => ?_)
  · have hf := if_t q hf
    refine p_aload_n X (dcg dc_X11_nextWith 8 rfl) rfl rfl ?_
    obtain ⟨hk3, hf⟩ := gd_some hf
    refine p_getR X fl_X11_34 rfl (by decide) (dcg dc_X11_nextWith 9 rfl) hk3 ?_
    refine p_iload_n X (dcg dc_X11_nextWith 10 rfl) rfl rfl ?_
    obtain ⟨a4, e5, hf⟩ := gs_some hf
    first | subst e5 | (try rw [e5])
    obtain ⟨hk6, hf⟩ := gd_some hf
    obtain ⟨z7, hz7, hf⟩ := bd_some hf
    refine p_callV (As := [_]) X ml_X11_194 (dcg dc_X11_nextWith 11 rfl) rfl rfl hk6 (wX3_find hG hz7) (by decide) (room4 (Nat.le_of_ble_eq_true rfl)) hcm hsm ?_
    rintro _ u9 ⟨rfl, e9⟩; have e9 := e9.symm; subst e9
    refine p_astoreq_n X (dcg dc_X11_nextWith 12 rfl) rfl (by decide) rfl ?_
    refine p_aloadq_n X (dcg dc_X11_nextWith 13 rfl) rfl rfl ?_
    refine p_ifnonnull (tgt := 33) X (dcg dc_X11_nextWith 14 rfl) (by decide) (fun a8 q => ?_) (fun q => ?_)
    · have hk14 := mq_s q hf
      first | subst q | (try rw [q])
      have hf := hk14
      refine p_aload_n X (dcg dc_X11_nextWith 17 rfl) rfl rfl ?_
      obtain ⟨hk9, hf⟩ := gd_some hf
      refine p_getRn X fl_X11_198 rfl (by decide) (dcg dc_X11_nextWith 18 rfl) hk9 ?_
      refine p_iload_n X (dcg dc_X11_nextWith 19 rfl) rfl rfl ?_
      obtain ⟨a10, e11, hf⟩ := gs_some hf
      first | subst e11 | (try rw [e11])
      obtain ⟨hk12, hf⟩ := gd_some hf
      obtain ⟨z13, hz13, hf⟩ := bd_some hf
      refine p_callV (As := [_]) X ml_X11_207 (dcg dc_X11_nextWith 20 rfl) rfl rfl hk12 (wX9_next hG hz13) (by decide) (room4 (Nat.le_of_ble_eq_true rfl)) hcm hsm ?_
      rintro _ u9 ⟨rfl, e9⟩; have e9 := e9.symm; subst e9
      refine p_pick [] ?_
      exact wX11_nextWith_b41 X hG hex hM hN hu hv hf 
    · have hk14 := mq_n q hf
      first | subst q | (try rw [q])
      have hf := hk14
      refine p_iconst (v := -1) X (dcg dc_X11_nextWith 15 rfl) (by decide) ?_
      refine p_goto (tgt := 41) X (dcg dc_X11_nextWith 16 rfl) (by decide) ?_
      refine p_pick [] ?_
      exact wX11_nextWith_b41 X hG hex hM hN hu hv hf 
  · have hf := if_f q hf
    have er := Option.some.inj hf
    subst er
    exact p_throw0 (cls := "java/lang/IndexOutOfBoundsException") (names := ["java/lang/RuntimeException", "java/lang/Exception"]) X hex (by decide) (by decide) tw_1205 tw_127 th_X11_127a th_X11_127b th_X11_127c th_X11_127d (dcg dc_X11_nextWith 4 rfl) (dcg dc_X11_nextWith 5 rfl) (dcg dc_X11_nextWith 6 rfl) (dcg dc_X11_nextWith 7 rfl) (Nat.le_of_ble_eq_true rfl) (Nat.le_trans (Nat.add_le_add_right (room4 (Nat.le_of_ble_eq_true rfl)) _) (Nat.le_of_ble_eq_true rfl)) (show uc + 1 ≤ MC from (by have o0 := (show MC + X0 = hX h + 1 from hM); have o1 := hu; (try simp only [hX_sI, hX_sR, hX_sL, hX_sD, hX_sIa, hX_sRa, hV_sI, hV_sR, hV_sL, hV_sD, hV_sIa, hV_sRa, hX_new, hV_new] at o0 o1 ⊢); omega)) (show us + 6 ≤ MS from (by have o0 := (show MS + V0 = hV h + 6 from hN); have o1 := hv; (try simp only [hX_sI, hX_sR, hX_sL, hX_sD, hX_sIa, hX_sRa, hV_sI, hV_sR, hV_sL, hV_sD, hV_sIa, hV_sRa, hX_new, hV_new] at o0 o1 ⊢); omega)) (show uc + 1 ≤ MC from (by have o0 := (show MC + X0 = hX h + 1 from hM); have o1 := hu; (try simp only [hX_sI, hX_sR, hX_sL, hX_sD, hX_sIa, hX_sRa, hV_sI, hV_sR, hV_sL, hV_sD, hV_sIa, hV_sRa, hX_new, hV_new] at o0 o1 ⊢); omega)) (show us + 6 ≤ MS from (by have o0 := (show MS + V0 = hV h + 6 from hN); have o1 := hv; (try simp only [hX_sI, hX_sR, hX_sL, hX_sD, hX_sIa, hX_sRa, hV_sI, hV_sR, hV_sL, hV_sD, hV_sIa, hV_sRa, hX_new, hV_new] at o0 o1 ⊢); omega)) (fun n hn => ⟨_, n, rfl, rfl, hn, rfl⟩)
noncomputable def fX11_nextWith_b0 (v0 : Nat) (v1 : Int32) (v2 : Int32) (h : PH) : Option ((Int32 × PH) ⊕ (Nat × PH)) :=
  bx (fX11_demandWord v1 h) (fun z1 =>
  fX11_nextWith_b4 v0 v1 v2 z1)
set_option maxRecDepth 100000 in
theorem mX11_nextWith_b0 {v0 : Nat} {v1 : Int32} {v2 : Int32} {h : PH} {r : ((Int32 × PH) ⊕ (Nat × PH))} (hf : fX11_nextWith_b0 v0 v1 v2 h = some r) : lez h (xT2 r) (vT2 r) := by
  unfold fX11_nextWith_b0 at hf
  have hle := lez_rf h
  obtain ⟨y2, hy2, h1y2, h2y2⟩ := bx_some hf
  have hc1 := mX11_demandWord hy2
  rcases y2 with z1 | z1
  · have hf := h1y2 z1 rfl
    have hle : lez h (hX z1) (hV z1) := lez_rt hc1 hle
    exact lez_rt (mX11_nextWith_b4 hf) hle
  · have hr9 := h2y2 z1 rfl
    subst hr9
    exact lez_rt hc1 hle
set_option maxRecDepth 100000 in
theorem wX11_nextWith_b0 {E : PE} {p : Program} {l : Launch} {e : Env} {s : State} {m : MethodId} {args : Array Value} {below : List Frame} {meth : Method} {c : Code} {X0 V0 MC MS uc us : Nat} (X : Cx E p l e (rmv 9 MC MS) s m args below meth c RX11 cX11_nextWith 4 (some .int)) (hG : Gs E l) (hex : ∀ x ∈ c.exceptionTable.toList, False) {v0 : Nat} {v1 : Int32} {v2 : Int32} {h : PH} {r : ((Int32 × PH) ⊕ (Nat × PH))} (hM : MC + X0 = (xT2 r)) (hN : MS + V0 = (vT2 r)) (hu : uc + X0 = hX h) (hv : us + V0 = hV h) (hf : fX11_nextWith_b0 v0 v1 v2 h = some r)  : PW E p l e (rmv 9 MC MS) s m args below meth c 4 uc us (vx_MQ below (QG E (fun v u => ∃ z, r = .inl z ∧ v = some (.int z.1) ∧ u = z.2)) (XG E (fun En u => ∃ (z : Nat × PH) (n : Nat), r = .inr z ∧ En = exn z.1 ∧ hX z.2 ≤ n ∧ u = hbump z.2 n)) args s MC MS (pA E)) h 0 [(0, some (.ref v0)), (1, some (.int v1)), (2, some (.int v2))] [] := by
  have hm1 : lez h (xT2 r) (vT2 r) := mX11_nextWith_b0 hf
  have hcm : uc ≤ MC := (by have o0 := hm1.1; have o1 := hM; have o2 := hu; (try simp only [hX_sI, hX_sR, hX_sL, hX_sD, hX_sIa, hX_sRa, hV_sI, hV_sR, hV_sL, hV_sD, hV_sIa, hV_sRa, hX_new, hV_new] at o0 o1 o2 ⊢); omega)
  have hsm : us ≤ MS := (by have o0 := hm1.2; have o1 := hN; have o2 := hv; (try simp only [hX_sI, hX_sR, hX_sL, hX_sD, hX_sIa, hX_sRa, hV_sI, hV_sR, hV_sL, hV_sD, hV_sIa, hV_sRa, hX_new, hV_new] at o0 o1 o2 ⊢); omega)
  clear hm1
  unfold fX11_nextWith_b0 at hf
  refine p_iload_n X (dcg dc_X11_nextWith 0 rfl) rfl rfl ?_
  obtain ⟨y2, hy2, h1y2, h2y2⟩ := bx_some hf
  have hc1 := mX11_demandWord hy2
  rcases y2 with z1 | z1
  · have hf := h1y2 z1 rfl
    have hm1 : lez _ (xT2 r) (vT2 r) := mX11_nextWith_b4 hf
    refine p_callSX (As := [_]) X hex ml_X11_128 (dcg dc_X11_nextWith 1 rfl) rfl rfl  (wX11_demandWord hG hy2) (by decide) (room4 (Nat.le_of_ble_eq_true rfl)) (show uc + (hX z1 - hX h) ≤ MC from (by have o0 := hm1.1; have o1 := (show lez h (hX z1) (hV z1) from hc1).1; have o2 := hM; have o3 := hu; (try simp only [hX_sI, hX_sR, hX_sL, hX_sD, hX_sIa, hX_sRa, hV_sI, hV_sR, hV_sL, hV_sD, hV_sIa, hV_sRa, hX_new, hV_new] at o0 o1 o2 o3 ⊢); omega)) (show us + (hV z1 - hV h) ≤ MS from (by have o0 := hm1.2; have o1 := (show lez h (hX z1) (hV z1) from hc1).2; have o2 := hN; have o3 := hv; (try simp only [hX_sI, hX_sR, hX_sL, hX_sD, hX_sIa, hX_sRa, hV_sI, hV_sR, hV_sL, hV_sD, hV_sIa, hV_sRa, hX_new, hV_new] at o0 o1 o2 o3 ⊢); omega)) (show uc + (hX z1 - hX h) ≤ MC from (by have o0 := hm1.1; have o1 := (show lez h (hX z1) (hV z1) from hc1).1; have o2 := hM; have o3 := hu; (try simp only [hX_sI, hX_sR, hX_sL, hX_sD, hX_sIa, hX_sRa, hV_sI, hV_sR, hV_sL, hV_sD, hV_sIa, hV_sRa, hX_new, hV_new] at o0 o1 o2 o3 ⊢); omega)) (show us + (hV z1 - hV h) ≤ MS from (by have o0 := hm1.2; have o1 := (show lez h (hX z1) (hV z1) from hc1).2; have o2 := hN; have o3 := hv; (try simp only [hX_sI, hX_sR, hX_sL, hX_sD, hX_sIa, hX_sRa, hV_sI, hV_sR, hV_sL, hV_sD, hV_sIa, hV_sRa, hX_new, hV_new] at o0 o1 o2 o3 ⊢); omega)) (fun En u q => by obtain ⟨z9, n9, q9, _⟩ := q; cases q9) ?_
    rintro _ _ ⟨z9, hz9, rfl, rfl⟩
    cases hz9
    refine p_pick [0, 1, 2] ?_
    exact wX11_nextWith_b4 X hG hex hM hN (show uc + (hX z1 - hX h) + X0 = hX z1 from (by have o0 := (show lez h (hX z1) (hV z1) from hc1).1; have o1 := hu; (try simp only [hX_sI, hX_sR, hX_sL, hX_sD, hX_sIa, hX_sRa, hV_sI, hV_sR, hV_sL, hV_sD, hV_sIa, hV_sRa, hX_new, hV_new] at o0 o1 ⊢); omega)) (show us + (hV z1 - hV h) + V0 = hV z1 from (by have o0 := (show lez h (hX z1) (hV z1) from hc1).2; have o1 := hv; (try simp only [hX_sI, hX_sR, hX_sL, hX_sD, hX_sIa, hX_sRa, hV_sI, hV_sR, hV_sL, hV_sD, hV_sIa, hV_sRa, hX_new, hV_new] at o0 o1 ⊢); omega)) hf 
  · have hr9 := h2y2 z1 rfl
    subst hr9
    refine p_callSX (As := [_]) X hex ml_X11_128 (dcg dc_X11_nextWith 1 rfl) rfl rfl  (wX11_demandWord hG hy2) (by decide) (room4 (Nat.le_of_ble_eq_true rfl)) (show uc + (hX z1.2 + 1 - hX h) ≤ MC from (by have o0 := (show lez h (hX z1.2 + 1) (hV z1.2 + 6) from hc1).1; have o1 := (show MC + X0 = hX z1.2 + 1 from hM); have o2 := hu; (try simp only [hX_sI, hX_sR, hX_sL, hX_sD, hX_sIa, hX_sRa, hV_sI, hV_sR, hV_sL, hV_sD, hV_sIa, hV_sRa, hX_new, hV_new] at o0 o1 o2 ⊢); omega)) (show us + (hV z1.2 + 6 - hV h) ≤ MS from (by have o0 := (show lez h (hX z1.2 + 1) (hV z1.2 + 6) from hc1).2; have o1 := (show MS + V0 = hV z1.2 + 6 from hN); have o2 := hv; (try simp only [hX_sI, hX_sR, hX_sL, hX_sD, hX_sIa, hX_sRa, hV_sI, hV_sR, hV_sL, hV_sD, hV_sIa, hV_sRa, hX_new, hV_new] at o0 o1 o2 ⊢); omega)) (show uc + (hX z1.2 + 1 - hX h) ≤ MC from (by have o0 := (show lez h (hX z1.2 + 1) (hV z1.2 + 6) from hc1).1; have o1 := (show MC + X0 = hX z1.2 + 1 from hM); have o2 := hu; (try simp only [hX_sI, hX_sR, hX_sL, hX_sD, hX_sIa, hX_sRa, hV_sI, hV_sR, hV_sL, hV_sD, hV_sIa, hV_sRa, hX_new, hV_new] at o0 o1 o2 ⊢); omega)) (show us + (hV z1.2 + 6 - hV h) ≤ MS from (by have o0 := (show lez h (hX z1.2 + 1) (hV z1.2 + 6) from hc1).2; have o1 := (show MS + V0 = hV z1.2 + 6 from hN); have o2 := hv; (try simp only [hX_sI, hX_sR, hX_sL, hX_sD, hX_sIa, hX_sRa, hV_sI, hV_sR, hV_sL, hV_sD, hV_sIa, hV_sRa, hX_new, hV_new] at o0 o1 o2 ⊢); omega)) (fun En u q => by obtain ⟨z9, n9, q9, q8⟩ := q; cases q9; exact ⟨_, n9, rfl, q8⟩) ?_
    rintro _ _ ⟨z9, hz9, _⟩
    cases hz9
noncomputable def fX11_nextWith (v0 : Nat) (v1 : Int32) (v2 : Int32) (h : PH) : Option ((Int32 × PH) ⊕ (Nat × PH)) :=
  fX11_nextWith_b0 v0 v1 v2 h
set_option maxRecDepth 100000 in
theorem mX11_nextWith {v0 : Nat} {v1 : Int32} {v2 : Int32} {h : PH} {r : ((Int32 × PH) ⊕ (Nat × PH))} (hf : fX11_nextWith v0 v1 v2 h = some r) : lez h (xT2 r) (vT2 r) := by
  unfold fX11_nextWith at hf
  have hle := lez_rf h
  exact lez_rt (mX11_nextWith_b0 hf) hle
set_option maxRecDepth 100000 in
theorem wX11_nextWith {E : PE} {l : Launch} (hG : Gs E l) {v0 : Nat} {v1 : Int32} {v2 : Int32} {h : PH} {r : ((Int32 × PH) ⊕ (Nat × PH))} (hf : fX11_nextWith v0 v1 v2 h = some r) : CtX E l 9 ((xT2 r) - hX h) ((vT2 r) - hV h) yX11_nextWith cX11_nextWith 4 (some .int) [.ref v0, .int v1, .int v2] h (fun v u => ∃ z, r = .inl z ∧ v = some (.int z.1) ∧ u = z.2) (fun En u => ∃ (z : Nat × PH) (n : Nat), r = .inr z ∧ En = exn z.1 ∧ hX z.2 ≤ n ∧ u = hbump z.2 n) := by
  have hmm := mX11_nextWith hf
  refine ctx_of hG (by decide) (Nat.le_of_ble_eq_true rfl) ?_
  intro p e s m args below meth c X hex
  show PW E p l e _ s m args below meth c _ 0 0 _ h 0 [(0, some (.ref v0)), (1, some (.int v1)), (2, some (.int v2))] []
  unfold fX11_nextWith at hf
  have hM := Nat.sub_add_cancel hmm.1
  have hN := Nat.sub_add_cancel hmm.2
  refine p_pick [0, 1, 2] ?_
  exact wX11_nextWith_b0 X hG hex hM hN (Nat.zero_add _) (Nat.zero_add _) hf
theorem dc_X11_places : decs cX11_places [(0, .iload_n 1, 1), (1, .invokestatic 128, 3), (4, .iconst 0, 1), (5, .istore_n 2, 1), (6, .iconst 0, 1), (7, .istore_n 3, 1), (8, .iload_n 3, 1), (9, .bipush 100, 2), (11, .if_icmp .ge 31, 3), (14, .aload_n 0, 1), (15, .getfield 27, 3), (18, .iload_n 3, 1), (19, .aaload, 1), (20, .ifnull 16, 3), (23, .iload_n 2, 1), (24, .aload_n 0, 1), (25, .getfield 27, 3), (28, .iload_n 3, 1), (29, .aaload, 1), (30, .iload_n 1, 1), (31, .invokevirtual 210, 3), (34, .iadd, 1), (35, .istore_n 2, 1), (36, .iinc 3 1, 3), (39, .goto (-31), 3), (42, .iload_n 2, 1), (43, .ireturn, 1)] = true := by decide +kernel
noncomputable def fX11_places_b36 (v0 : Nat) (v1 : Int32) (v2 : Int32) (v3 : Int32) (h : PH) : Option ((Int32 × Int32) ⊕ ((Int32 × PH) ⊕ (Nat × PH))) :=
  some (.inl (v2, (v3 + 1)))
set_option maxRecDepth 100000 in
theorem mX11_places_b36 {v0 : Nat} {v1 : Int32} {v2 : Int32} {v3 : Int32} {h : PH} {x : ((Int32 × Int32) ⊕ ((Int32 × PH) ⊕ (Nat × PH)))} (hf : fX11_places_b36 v0 v1 v2 v3 h = some x) : (∀ w9 : ((Int32 × PH) ⊕ (Nat × PH)), x = .inr w9 → lez h (xT2 w9) (vT2 w9)) := by
  unfold fX11_places_b36 at hf
  have hle := lez_rf h
  have ee := Option.some.inj hf; subst ee
  exact (fun z e => nomatch e)
set_option maxRecDepth 100000 in
theorem wX11_places_b36 {E : PE} {p : Program} {l : Launch} {e : Env} {s : State} {m : MethodId} {args : Array Value} {below : List Frame} {meth : Method} {c : Code} {X0 V0 MC MS uc us : Nat} (X : Cx E p l e (rmv 9 MC MS) s m args below meth c RX11 cX11_places 4 (some .int)) (hG : Gs E l) (hex : ∀ x ∈ c.exceptionTable.toList, False) {v0 : Nat} {v1 : Int32} {v2 : Int32} {v3 : Int32} {h : PH} {r : ((Int32 × PH) ⊕ (Nat × PH))} {x : ((Int32 × Int32) ⊕ ((Int32 × PH) ⊕ (Nat × PH)))} (hM : MC + X0 = (xT2 r)) (hN : MS + V0 = (vT2 r)) (hu : uc + X0 = hX h) (hv : us + V0 = hV h) (hf : fX11_places_b36 v0 v1 v2 v3 h = some x) (k0 : ∀ (z : (Int32 × Int32)) (uc us : Nat), x = .inl z → uc + X0 = hX h → us + V0 = hV h → PW E p l e (rmv 9 MC MS) s m args below meth c 4 uc us (vx_MQ below (QG E (fun v u => ∃ z, r = .inl z ∧ v = some (.int z.1) ∧ u = z.2)) (XG E (fun En u => ∃ (z : Nat × PH) (n : Nat), r = .inr z ∧ En = exn z.1 ∧ hX z.2 ≤ n ∧ u = hbump z.2 n)) args s MC MS (pA E)) h 8 [(0, some (.ref v0)), (1, some (.int v1)), (2, some (.int (z.1))), (3, some (.int (z.2)))] []) (kl0 : ∀ z : (Int32 × Int32), x = .inl z → lez h (xT2 r) (vT2 r)) (kf : ∀ z : ((Int32 × PH) ⊕ (Nat × PH)), x = .inr z → z = r) : PW E p l e (rmv 9 MC MS) s m args below meth c 4 uc us (vx_MQ below (QG E (fun v u => ∃ z, r = .inl z ∧ v = some (.int z.1) ∧ u = z.2)) (XG E (fun En u => ∃ (z : Nat × PH) (n : Nat), r = .inr z ∧ En = exn z.1 ∧ hX z.2 ≤ n ∧ u = hbump z.2 n)) args s MC MS (pA E)) h 36 [(0, some (.ref v0)), (1, some (.int v1)), (2, some (.int v2)), (3, some (.int v3))] [] := by
  have hm1 : lez h (xT2 r) (vT2 r) := by
    obtain cf := mX11_places_b36 hf
    rcases hxx : x with zz | zz
    · exact kl0 zz hxx
    · have ee := kf zz hxx; subst ee; exact cf zz hxx
  have hcm : uc ≤ MC := (by have o0 := hm1.1; have o1 := hM; have o2 := hu; (try simp only [hX_sI, hX_sR, hX_sL, hX_sD, hX_sIa, hX_sRa, hV_sI, hV_sR, hV_sL, hV_sD, hV_sIa, hV_sRa, hX_new, hV_new] at o0 o1 o2 ⊢); omega)
  have hsm : us ≤ MS := (by have o0 := hm1.2; have o1 := hN; have o2 := hv; (try simp only [hX_sI, hX_sR, hX_sL, hX_sD, hX_sIa, hX_sRa, hV_sI, hV_sR, hV_sL, hV_sD, hV_sIa, hV_sRa, hX_new, hV_new] at o0 o1 o2 ⊢); omega)
  clear hm1
  unfold fX11_places_b36 at hf
  refine p_iinc (v := 1) X (dcg dc_X11_places 23 rfl) rfl (by decide) (by decide) rfl ?_
  refine p_goto (tgt := 8) X (dcg dc_X11_places 24 rfl) (by decide) ?_
  refine p_pick [0, 1, 2, 3] ?_
  exact k0 _ _ _ (Option.some.inj hf).symm hu hv
noncomputable def fX11_places_c8 (v0 : Nat) (v1 : Int32) (v2 : Int32) (v3 : Int32) (h : PH) : Option ((Int32 × Int32) ⊕ ((Int32 × PH) ⊕ (Nat × PH))) :=
  if ((100 : Int32) ≤ v3) then (mr (some (.inl ((v2, h))))) else
  gd (hK h v0 = 11) (gs (hR h 11 v0 2) (fun a6 =>
  gd (hK h a6 = 26 ∧ inb v3 (hN h a6)) (mq (hR h 26 a6 (Int32.toNatClampNeg v3)) (fX11_places_b36 v0 v1 v2 v3 h) (fun a10 =>
  gs (hR h 11 v0 2) (fun a11 =>
  gd (hK h a11 = 26 ∧ inb v3 (hN h a11)) (gs (hR h 26 a11 (Int32.toNatClampNeg v3)) (fun a15 =>
  gd (hK h a15 = 8) (bd (fX8_countWord a15 v1 h) (fun z18 =>
  fX11_places_b36 v0 v1 (v2 + z18) v3 h)))))))))
set_option maxRecDepth 100000 in
theorem mX11_places_c8 {v0 : Nat} {v1 : Int32} {v2 : Int32} {v3 : Int32} {h : PH} {x : ((Int32 × Int32) ⊕ ((Int32 × PH) ⊕ (Nat × PH)))} (hf : fX11_places_c8 v0 v1 v2 v3 h = some x) : (∀ w9 : ((Int32 × PH) ⊕ (Nat × PH)), x = .inr w9 → lez h (xT2 w9) (vT2 w9)) := by
  unfold fX11_places_c8 at hf
  have hle := lez_rf h
  rcases ite_or hf with ⟨q, hf⟩ | ⟨q, hf⟩
  · have hf := if_t q hf
    obtain ⟨y3, hfm, rfl⟩ := mr_some hf; have hf := hfm; clear hfm
    have ee := Option.some.inj hf; subst ee
    exact (fun z e => by have ee := Sum.inr.inj (e); subst ee; exact hle)
  · have hf := if_f q hf
    obtain ⟨hk5, hf⟩ := gd_some hf
    obtain ⟨a6, e7, hf⟩ := gs_some hf
    obtain ⟨⟨hk9, hb8⟩, hf⟩ := gd_some hf
    rcases mq_or hf with ⟨q, hf⟩ | ⟨a10, q, hf⟩
    · have hf := mq_n q hf
      obtain cf := mX11_places_b36 hf
      exact fun z e => lez_rt (cf z (e)) hle
    · have hk19 := mq_s q hf
      first | subst q | skip
      have hf := hk19
      obtain ⟨a11, e12, hf⟩ := gs_some hf
      obtain ⟨⟨hk14, hb13⟩, hf⟩ := gd_some hf
      obtain ⟨a15, e16, hf⟩ := gs_some hf
      obtain ⟨hk17, hf⟩ := gd_some hf
      obtain ⟨z18, hz18, hf⟩ := bd_some hf
      obtain cf := mX11_places_b36 hf
      exact fun z e => lez_rt (cf z (e)) hle
set_option maxRecDepth 100000 in
theorem wX11_places_c8 {E : PE} {p : Program} {l : Launch} {e : Env} {s : State} {m : MethodId} {args : Array Value} {below : List Frame} {meth : Method} {c : Code} {X0 V0 MC MS uc us : Nat} (X : Cx E p l e (rmv 9 MC MS) s m args below meth c RX11 cX11_places 4 (some .int)) (hG : Gs E l) (hex : ∀ x ∈ c.exceptionTable.toList, False) {v0 : Nat} {v1 : Int32} {v2 : Int32} {v3 : Int32} {h : PH} {r : ((Int32 × PH) ⊕ (Nat × PH))} {x : ((Int32 × Int32) ⊕ ((Int32 × PH) ⊕ (Nat × PH)))} (hM : MC + X0 = (xT2 r)) (hN : MS + V0 = (vT2 r)) (hu : uc + X0 = hX h) (hv : us + V0 = hV h) (hf : fX11_places_c8 v0 v1 v2 v3 h = some x) (k0 : ∀ (z : (Int32 × Int32)) (uc us : Nat), x = .inl z → uc + X0 = hX h → us + V0 = hV h → PW E p l e (rmv 9 MC MS) s m args below meth c 4 uc us (vx_MQ below (QG E (fun v u => ∃ z, r = .inl z ∧ v = some (.int z.1) ∧ u = z.2)) (XG E (fun En u => ∃ (z : Nat × PH) (n : Nat), r = .inr z ∧ En = exn z.1 ∧ hX z.2 ≤ n ∧ u = hbump z.2 n)) args s MC MS (pA E)) h 8 [(0, some (.ref v0)), (1, some (.int v1)), (2, some (.int (z.1))), (3, some (.int (z.2)))] []) (kl0 : ∀ z : (Int32 × Int32), x = .inl z → lez h (xT2 r) (vT2 r)) (kf : ∀ z : ((Int32 × PH) ⊕ (Nat × PH)), x = .inr z → z = r) : PW E p l e (rmv 9 MC MS) s m args below meth c 4 uc us (vx_MQ below (QG E (fun v u => ∃ z, r = .inl z ∧ v = some (.int z.1) ∧ u = z.2)) (XG E (fun En u => ∃ (z : Nat × PH) (n : Nat), r = .inr z ∧ En = exn z.1 ∧ hX z.2 ≤ n ∧ u = hbump z.2 n)) args s MC MS (pA E)) h 8 [(0, some (.ref v0)), (1, some (.int v1)), (2, some (.int v2)), (3, some (.int v3))] [] := by
  have hm1 : lez h (xT2 r) (vT2 r) := by
    obtain cf := mX11_places_c8 hf
    rcases hxx : x with zz | zz
    · exact kl0 zz hxx
    · have ee := kf zz hxx; subst ee; exact cf zz hxx
  have hcm : uc ≤ MC := (by have o0 := hm1.1; have o1 := hM; have o2 := hu; (try simp only [hX_sI, hX_sR, hX_sL, hX_sD, hX_sIa, hX_sRa, hV_sI, hV_sR, hV_sL, hV_sD, hV_sIa, hV_sRa, hX_new, hV_new] at o0 o1 o2 ⊢); omega)
  have hsm : us ≤ MS := (by have o0 := hm1.2; have o1 := hN; have o2 := hv; (try simp only [hX_sI, hX_sR, hX_sL, hX_sD, hX_sIa, hX_sRa, hV_sI, hV_sR, hV_sL, hV_sD, hV_sIa, hV_sRa, hX_new, hV_new] at o0 o1 o2 ⊢); omega)
  clear hm1
  unfold fX11_places_c8 at hf
  refine p_iload_n X (dcg dc_X11_places 6 rfl) rfl rfl ?_
  refine p_bipush (v := 100) X (dcg dc_X11_places 7 rfl) (by decide) ?_
  refine p_icmp_ge (tgt := 42) X (dcg dc_X11_places 8 rfl) (by decide) (fun q => ?_) (fun q => ?_)
  · have hf := if_t q hf
    obtain ⟨y3, hf, hy4⟩ := mr_some hf
    have hy4f := kf y3 hy4
    subst hy4f
    refine p_iload_n X (dcg dc_X11_places 25 rfl) rfl rfl ?_
    have er := Option.some.inj hf
    subst er
    refine p_vx ?_
    exact p_iret X rfl (dcg dc_X11_places 26 rfl) ⟨_, rfl, rfl, rfl⟩ hcm hsm
  · have hf := if_f q hf
    refine p_aload_n X (dcg dc_X11_places 9 rfl) rfl rfl ?_
    obtain ⟨hk5, hf⟩ := gd_some hf
    refine p_getR X fl_X11_27 rfl (by decide) (dcg dc_X11_places 10 rfl) hk5 ?_
    refine p_iload_n X (dcg dc_X11_places 11 rfl) rfl rfl ?_
    obtain ⟨a6, e7, hf⟩ := gs_some hf
    first | subst e7 | (try rw [e7])
    obtain ⟨⟨hk9, hb8⟩, hf⟩ := gd_some hf
    refine p_aald26 X (dcg dc_X11_places 12 rfl) hk9 (vp_of_inb hb8) ?_
    refine p_ifnull (tgt := 36) X (dcg dc_X11_places 13 rfl) (by decide) (fun q => ?_) (fun a10 q => ?_)
    · have hk19 := mq_n q hf
      first | subst q | (try rw [q])
      have hf := hk19
      refine p_pick [0, 1, 2, 3] ?_
      exact wX11_places_b36 X hG hex hM hN hu hv hf k0 kl0 kf
    · have hk19 := mq_s q hf
      first | subst q | (try rw [q])
      have hf := hk19
      refine p_iload_n X (dcg dc_X11_places 14 rfl) rfl rfl ?_
      refine p_aload_n X (dcg dc_X11_places 15 rfl) rfl rfl ?_
      refine p_getR X fl_X11_27 rfl (by decide) (dcg dc_X11_places 16 rfl) hk5 ?_
      refine p_iload_n X (dcg dc_X11_places 17 rfl) rfl rfl ?_
      obtain ⟨a11, e12, hf⟩ := gs_some hf
      first | subst e12 | (try rw [e12])
      obtain ⟨⟨hk14, hb13⟩, hf⟩ := gd_some hf
      refine p_aald26 X (dcg dc_X11_places 18 rfl) hk14 (vp_of_inb hb13) ?_
      refine p_iload_n X (dcg dc_X11_places 19 rfl) rfl rfl ?_
      obtain ⟨a15, e16, hf⟩ := gs_some hf
      first | subst e16 | (try rw [e16])
      obtain ⟨hk17, hf⟩ := gd_some hf
      obtain ⟨z18, hz18, hf⟩ := bd_some hf
      refine p_callV (As := [_]) X ml_X11_210 (dcg dc_X11_places 20 rfl) rfl rfl hk17 (wX8_countWord hG hz18) (by decide) (room4 (Nat.le_of_ble_eq_true rfl)) hcm hsm ?_
      rintro _ u9 ⟨rfl, e9⟩; have e9 := e9.symm; subst e9
      refine p_iadd X (dcg dc_X11_places 21 rfl) ?_
      refine p_istore_n X (dcg dc_X11_places 22 rfl) rfl (by decide) rfl ?_
      refine p_pick [0, 1, 2, 3] ?_
      exact wX11_places_b36 X hG hex hM hN hu hv hf k0 kl0 kf
noncomputable def fX11_places_l8 (v0 : Nat) (v1 : Int32) (v2 : Int32) (v3 : Int32) (h : PH) : Option ((Int32 × PH) ⊕ (Nat × PH)) := wh (fun z : (Int32 × Int32) => fX11_places_c8 v0 v1 (z.1) (z.2) h) (v2, v3)
set_option maxRecDepth 100000 in
theorem mX11_places_l8 {v0 : Nat} {v1 : Int32} {v2 : Int32} {v3 : Int32} {h : PH} {r : ((Int32 × PH) ⊕ (Nat × PH))} (hf : fX11_places_l8 v0 v1 v2 v3 h = some r) : lez h (xT2 r) (vT2 r) := by
  unfold fX11_places_l8 at hf
  refine wh_ind (P := fun z => lez h (xT2 r) (vT2 r)) (fun z x0 hs i1 i2 => ?_) _ hf
  obtain cf := mX11_places_c8 (v0 := v0) (v1 := v1) (v2 := z.1) (v3 := z.2) (h := h) hs
  rcases hxx : x0 with zz | zz
  · exact (i1 zz hxx)
  · have ee := i2 zz hxx; subst ee; exact cf zz hxx
set_option maxRecDepth 100000 in
theorem wX11_places_l8 {E : PE} {p : Program} {l : Launch} {e : Env} {s : State} {m : MethodId} {args : Array Value} {below : List Frame} {meth : Method} {c : Code} {X0 V0 MC MS uc us : Nat} (X : Cx E p l e (rmv 9 MC MS) s m args below meth c RX11 cX11_places 4 (some .int)) (hG : Gs E l) (hex : ∀ x ∈ c.exceptionTable.toList, False) {v0 : Nat} {v1 : Int32} {v2 : Int32} {v3 : Int32} {h : PH} {r : ((Int32 × PH) ⊕ (Nat × PH))} (hM : MC + X0 = (xT2 r)) (hN : MS + V0 = (vT2 r)) (hu : uc + X0 = hX h) (hv : us + V0 = hV h) (hf : fX11_places_l8 v0 v1 v2 v3 h = some r)  : PW E p l e (rmv 9 MC MS) s m args below meth c 4 uc us (vx_MQ below (QG E (fun v u => ∃ z, r = .inl z ∧ v = some (.int z.1) ∧ u = z.2)) (XG E (fun En u => ∃ (z : Nat × PH) (n : Nat), r = .inr z ∧ En = exn z.1 ∧ hX z.2 ≤ n ∧ u = hbump z.2 n)) args s MC MS (pA E)) h 8 [(0, some (.ref v0)), (1, some (.int v1)), (2, some (.int v2)), (3, some (.int v3))] [] := by
  unfold fX11_places_l8 at hf
  refine wh_ind2 (P := fun z => ∀ uc us : Nat, uc + X0 = hX h → us + V0 = hV h → PW E p l e (rmv 9 MC MS) s m args below meth c 4 uc us (vx_MQ below (QG E (fun v u => ∃ z, r = .inl z ∧ v = some (.int z.1) ∧ u = z.2)) (XG E (fun En u => ∃ (z : Nat × PH) (n : Nat), r = .inr z ∧ En = exn z.1 ∧ hX z.2 ≤ n ∧ u = hbump z.2 n)) args s MC MS (pA E)) h 8 [(0, some (.ref v0)), (1, some (.int v1)), (2, some (.int (z.1))), (3, some (.int (z.2)))] []) (fun z x0 hs i1 i2 uc us hu hv => ?_) _ hf uc us hu hv
  exact wX11_places_c8 (r := r) (v0 := v0) (v1 := v1) (v2 := z.1) (v3 := z.2) (h := h) X hG hex hM hN hu hv hs (fun z1 uc1 us1 e1 e2 e3 => (i1 z1 e1).1 uc1 us1 e2 e3) (fun z1 e1 => mX11_places_l8 (v0 := v0) (v1 := v1) (v2 := z1.1) (v3 := z1.2) (h := h) (by unfold fX11_places_l8; exact (i1 z1 e1).2))  i2
noncomputable def fX11_places_b4 (v0 : Nat) (v1 : Int32) (h : PH) : Option ((Int32 × PH) ⊕ (Nat × PH)) :=
  fX11_places_l8 v0 v1 (0 : Int32) (0 : Int32) h
set_option maxRecDepth 100000 in
theorem mX11_places_b4 {v0 : Nat} {v1 : Int32} {h : PH} {r : ((Int32 × PH) ⊕ (Nat × PH))} (hf : fX11_places_b4 v0 v1 h = some r) : lez h (xT2 r) (vT2 r) := by
  unfold fX11_places_b4 at hf
  have hle := lez_rf h
  exact lez_rt (mX11_places_l8 hf) hle
set_option maxRecDepth 100000 in
theorem wX11_places_b4 {E : PE} {p : Program} {l : Launch} {e : Env} {s : State} {m : MethodId} {args : Array Value} {below : List Frame} {meth : Method} {c : Code} {X0 V0 MC MS uc us : Nat} (X : Cx E p l e (rmv 9 MC MS) s m args below meth c RX11 cX11_places 4 (some .int)) (hG : Gs E l) (hex : ∀ x ∈ c.exceptionTable.toList, False) {v0 : Nat} {v1 : Int32} {h : PH} {r : ((Int32 × PH) ⊕ (Nat × PH))} (hM : MC + X0 = (xT2 r)) (hN : MS + V0 = (vT2 r)) (hu : uc + X0 = hX h) (hv : us + V0 = hV h) (hf : fX11_places_b4 v0 v1 h = some r)  : PW E p l e (rmv 9 MC MS) s m args below meth c 4 uc us (vx_MQ below (QG E (fun v u => ∃ z, r = .inl z ∧ v = some (.int z.1) ∧ u = z.2)) (XG E (fun En u => ∃ (z : Nat × PH) (n : Nat), r = .inr z ∧ En = exn z.1 ∧ hX z.2 ≤ n ∧ u = hbump z.2 n)) args s MC MS (pA E)) h 4 [(0, some (.ref v0)), (1, some (.int v1))] [] := by
  have hm1 : lez h (xT2 r) (vT2 r) := mX11_places_b4 hf
  have hcm : uc ≤ MC := (by have o0 := hm1.1; have o1 := hM; have o2 := hu; (try simp only [hX_sI, hX_sR, hX_sL, hX_sD, hX_sIa, hX_sRa, hV_sI, hV_sR, hV_sL, hV_sD, hV_sIa, hV_sRa, hX_new, hV_new] at o0 o1 o2 ⊢); omega)
  have hsm : us ≤ MS := (by have o0 := hm1.2; have o1 := hN; have o2 := hv; (try simp only [hX_sI, hX_sR, hX_sL, hX_sD, hX_sIa, hX_sRa, hV_sI, hV_sR, hV_sL, hV_sD, hV_sIa, hV_sRa, hX_new, hV_new] at o0 o1 o2 ⊢); omega)
  clear hm1
  unfold fX11_places_b4 at hf
  refine p_iconst (v := 0) X (dcg dc_X11_places 2 rfl) (by decide) ?_
  refine p_istore_n X (dcg dc_X11_places 3 rfl) rfl (by decide) rfl ?_
  refine p_iconst (v := 0) X (dcg dc_X11_places 4 rfl) (by decide) ?_
  refine p_istore_n X (dcg dc_X11_places 5 rfl) rfl (by decide) rfl ?_
  refine p_pick [0, 1, 2, 3] ?_
  exact wX11_places_l8 X hG hex hM hN hu hv hf 
noncomputable def fX11_places_b0 (v0 : Nat) (v1 : Int32) (h : PH) : Option ((Int32 × PH) ⊕ (Nat × PH)) :=
  bx (fX11_demandWord v1 h) (fun z1 =>
  fX11_places_b4 v0 v1 z1)
set_option maxRecDepth 100000 in
theorem mX11_places_b0 {v0 : Nat} {v1 : Int32} {h : PH} {r : ((Int32 × PH) ⊕ (Nat × PH))} (hf : fX11_places_b0 v0 v1 h = some r) : lez h (xT2 r) (vT2 r) := by
  unfold fX11_places_b0 at hf
  have hle := lez_rf h
  obtain ⟨y2, hy2, h1y2, h2y2⟩ := bx_some hf
  have hc1 := mX11_demandWord hy2
  rcases y2 with z1 | z1
  · have hf := h1y2 z1 rfl
    have hle : lez h (hX z1) (hV z1) := lez_rt hc1 hle
    exact lez_rt (mX11_places_b4 hf) hle
  · have hr9 := h2y2 z1 rfl
    subst hr9
    exact lez_rt hc1 hle
set_option maxRecDepth 100000 in
theorem wX11_places_b0 {E : PE} {p : Program} {l : Launch} {e : Env} {s : State} {m : MethodId} {args : Array Value} {below : List Frame} {meth : Method} {c : Code} {X0 V0 MC MS uc us : Nat} (X : Cx E p l e (rmv 9 MC MS) s m args below meth c RX11 cX11_places 4 (some .int)) (hG : Gs E l) (hex : ∀ x ∈ c.exceptionTable.toList, False) {v0 : Nat} {v1 : Int32} {h : PH} {r : ((Int32 × PH) ⊕ (Nat × PH))} (hM : MC + X0 = (xT2 r)) (hN : MS + V0 = (vT2 r)) (hu : uc + X0 = hX h) (hv : us + V0 = hV h) (hf : fX11_places_b0 v0 v1 h = some r)  : PW E p l e (rmv 9 MC MS) s m args below meth c 4 uc us (vx_MQ below (QG E (fun v u => ∃ z, r = .inl z ∧ v = some (.int z.1) ∧ u = z.2)) (XG E (fun En u => ∃ (z : Nat × PH) (n : Nat), r = .inr z ∧ En = exn z.1 ∧ hX z.2 ≤ n ∧ u = hbump z.2 n)) args s MC MS (pA E)) h 0 [(0, some (.ref v0)), (1, some (.int v1))] [] := by
  have hm1 : lez h (xT2 r) (vT2 r) := mX11_places_b0 hf
  have hcm : uc ≤ MC := (by have o0 := hm1.1; have o1 := hM; have o2 := hu; (try simp only [hX_sI, hX_sR, hX_sL, hX_sD, hX_sIa, hX_sRa, hV_sI, hV_sR, hV_sL, hV_sD, hV_sIa, hV_sRa, hX_new, hV_new] at o0 o1 o2 ⊢); omega)
  have hsm : us ≤ MS := (by have o0 := hm1.2; have o1 := hN; have o2 := hv; (try simp only [hX_sI, hX_sR, hX_sL, hX_sD, hX_sIa, hX_sRa, hV_sI, hV_sR, hV_sL, hV_sD, hV_sIa, hV_sRa, hX_new, hV_new] at o0 o1 o2 ⊢); omega)
  clear hm1
  unfold fX11_places_b0 at hf
  refine p_iload_n X (dcg dc_X11_places 0 rfl) rfl rfl ?_
  obtain ⟨y2, hy2, h1y2, h2y2⟩ := bx_some hf
  have hc1 := mX11_demandWord hy2
  rcases y2 with z1 | z1
  · have hf := h1y2 z1 rfl
    have hm1 : lez _ (xT2 r) (vT2 r) := mX11_places_b4 hf
    refine p_callSX (As := [_]) X hex ml_X11_128 (dcg dc_X11_places 1 rfl) rfl rfl  (wX11_demandWord hG hy2) (by decide) (room4 (Nat.le_of_ble_eq_true rfl)) (show uc + (hX z1 - hX h) ≤ MC from (by have o0 := hm1.1; have o1 := (show lez h (hX z1) (hV z1) from hc1).1; have o2 := hM; have o3 := hu; (try simp only [hX_sI, hX_sR, hX_sL, hX_sD, hX_sIa, hX_sRa, hV_sI, hV_sR, hV_sL, hV_sD, hV_sIa, hV_sRa, hX_new, hV_new] at o0 o1 o2 o3 ⊢); omega)) (show us + (hV z1 - hV h) ≤ MS from (by have o0 := hm1.2; have o1 := (show lez h (hX z1) (hV z1) from hc1).2; have o2 := hN; have o3 := hv; (try simp only [hX_sI, hX_sR, hX_sL, hX_sD, hX_sIa, hX_sRa, hV_sI, hV_sR, hV_sL, hV_sD, hV_sIa, hV_sRa, hX_new, hV_new] at o0 o1 o2 o3 ⊢); omega)) (show uc + (hX z1 - hX h) ≤ MC from (by have o0 := hm1.1; have o1 := (show lez h (hX z1) (hV z1) from hc1).1; have o2 := hM; have o3 := hu; (try simp only [hX_sI, hX_sR, hX_sL, hX_sD, hX_sIa, hX_sRa, hV_sI, hV_sR, hV_sL, hV_sD, hV_sIa, hV_sRa, hX_new, hV_new] at o0 o1 o2 o3 ⊢); omega)) (show us + (hV z1 - hV h) ≤ MS from (by have o0 := hm1.2; have o1 := (show lez h (hX z1) (hV z1) from hc1).2; have o2 := hN; have o3 := hv; (try simp only [hX_sI, hX_sR, hX_sL, hX_sD, hX_sIa, hX_sRa, hV_sI, hV_sR, hV_sL, hV_sD, hV_sIa, hV_sRa, hX_new, hV_new] at o0 o1 o2 o3 ⊢); omega)) (fun En u q => by obtain ⟨z9, n9, q9, _⟩ := q; cases q9) ?_
    rintro _ _ ⟨z9, hz9, rfl, rfl⟩
    cases hz9
    refine p_pick [0, 1] ?_
    exact wX11_places_b4 X hG hex hM hN (show uc + (hX z1 - hX h) + X0 = hX z1 from (by have o0 := (show lez h (hX z1) (hV z1) from hc1).1; have o1 := hu; (try simp only [hX_sI, hX_sR, hX_sL, hX_sD, hX_sIa, hX_sRa, hV_sI, hV_sR, hV_sL, hV_sD, hV_sIa, hV_sRa, hX_new, hV_new] at o0 o1 ⊢); omega)) (show us + (hV z1 - hV h) + V0 = hV z1 from (by have o0 := (show lez h (hX z1) (hV z1) from hc1).2; have o1 := hv; (try simp only [hX_sI, hX_sR, hX_sL, hX_sD, hX_sIa, hX_sRa, hV_sI, hV_sR, hV_sL, hV_sD, hV_sIa, hV_sRa, hX_new, hV_new] at o0 o1 ⊢); omega)) hf 
  · have hr9 := h2y2 z1 rfl
    subst hr9
    refine p_callSX (As := [_]) X hex ml_X11_128 (dcg dc_X11_places 1 rfl) rfl rfl  (wX11_demandWord hG hy2) (by decide) (room4 (Nat.le_of_ble_eq_true rfl)) (show uc + (hX z1.2 + 1 - hX h) ≤ MC from (by have o0 := (show lez h (hX z1.2 + 1) (hV z1.2 + 6) from hc1).1; have o1 := (show MC + X0 = hX z1.2 + 1 from hM); have o2 := hu; (try simp only [hX_sI, hX_sR, hX_sL, hX_sD, hX_sIa, hX_sRa, hV_sI, hV_sR, hV_sL, hV_sD, hV_sIa, hV_sRa, hX_new, hV_new] at o0 o1 o2 ⊢); omega)) (show us + (hV z1.2 + 6 - hV h) ≤ MS from (by have o0 := (show lez h (hX z1.2 + 1) (hV z1.2 + 6) from hc1).2; have o1 := (show MS + V0 = hV z1.2 + 6 from hN); have o2 := hv; (try simp only [hX_sI, hX_sR, hX_sL, hX_sD, hX_sIa, hX_sRa, hV_sI, hV_sR, hV_sL, hV_sD, hV_sIa, hV_sRa, hX_new, hV_new] at o0 o1 o2 ⊢); omega)) (show uc + (hX z1.2 + 1 - hX h) ≤ MC from (by have o0 := (show lez h (hX z1.2 + 1) (hV z1.2 + 6) from hc1).1; have o1 := (show MC + X0 = hX z1.2 + 1 from hM); have o2 := hu; (try simp only [hX_sI, hX_sR, hX_sL, hX_sD, hX_sIa, hX_sRa, hV_sI, hV_sR, hV_sL, hV_sD, hV_sIa, hV_sRa, hX_new, hV_new] at o0 o1 o2 ⊢); omega)) (show us + (hV z1.2 + 6 - hV h) ≤ MS from (by have o0 := (show lez h (hX z1.2 + 1) (hV z1.2 + 6) from hc1).2; have o1 := (show MS + V0 = hV z1.2 + 6 from hN); have o2 := hv; (try simp only [hX_sI, hX_sR, hX_sL, hX_sD, hX_sIa, hX_sRa, hV_sI, hV_sR, hV_sL, hV_sD, hV_sIa, hV_sRa, hX_new, hV_new] at o0 o1 o2 ⊢); omega)) (fun En u q => by obtain ⟨z9, n9, q9, q8⟩ := q; cases q9; exact ⟨_, n9, rfl, q8⟩) ?_
    rintro _ _ ⟨z9, hz9, _⟩
    cases hz9
noncomputable def fX11_places (v0 : Nat) (v1 : Int32) (h : PH) : Option ((Int32 × PH) ⊕ (Nat × PH)) :=
  fX11_places_b0 v0 v1 h
set_option maxRecDepth 100000 in
theorem mX11_places {v0 : Nat} {v1 : Int32} {h : PH} {r : ((Int32 × PH) ⊕ (Nat × PH))} (hf : fX11_places v0 v1 h = some r) : lez h (xT2 r) (vT2 r) := by
  unfold fX11_places at hf
  have hle := lez_rf h
  exact lez_rt (mX11_places_b0 hf) hle
set_option maxRecDepth 100000 in
theorem wX11_places {E : PE} {l : Launch} (hG : Gs E l) {v0 : Nat} {v1 : Int32} {h : PH} {r : ((Int32 × PH) ⊕ (Nat × PH))} (hf : fX11_places v0 v1 h = some r) : CtX E l 9 ((xT2 r) - hX h) ((vT2 r) - hV h) yX11_places cX11_places 4 (some .int) [.ref v0, .int v1] h (fun v u => ∃ z, r = .inl z ∧ v = some (.int z.1) ∧ u = z.2) (fun En u => ∃ (z : Nat × PH) (n : Nat), r = .inr z ∧ En = exn z.1 ∧ hX z.2 ≤ n ∧ u = hbump z.2 n) := by
  have hmm := mX11_places hf
  refine ctx_of hG (by decide) (Nat.le_of_ble_eq_true rfl) ?_
  intro p e s m args below meth c X hex
  show PW E p l e _ s m args below meth c _ 0 0 _ h 0 [(0, some (.ref v0)), (1, some (.int v1))] []
  unfold fX11_places at hf
  have hM := Nat.sub_add_cancel hmm.1
  have hN := Nat.sub_add_cancel hmm.2
  refine p_pick [0, 1] ?_
  exact wX11_places_b0 X hG hex hM hN (Nat.zero_add _) (Nat.zero_add _) hf
theorem dc_X11_placeIn : decs cX11_placeIn [(0, .iload_n 1, 1), (1, .invokestatic 128, 3), (4, .aload_n 0, 1), (5, .iload_n 2, 1), (6, .invokevirtual 119, 3), (9, .iload_n 1, 1), (10, .iload_n 3, 1), (11, .invokevirtual 213, 3), (14, .ireturn, 1)] = true := by decide +kernel
noncomputable def fX11_placeIn_b9 (v1 : Int32) (v3 : Int32) (t0 : Option Nat) (h : PH) : Option ((Int32 × PH) ⊕ (Nat × PH)) :=
  gs t0 (fun a6 =>
  gd (hK h a6 = 8) (bd (fX8_placeOf a6 v1 v3 h) (fun z9 =>
  some (.inl ((z9, h))))))
set_option maxRecDepth 100000 in
theorem mX11_placeIn_b9 {v1 : Int32} {v3 : Int32} {t0 : Option Nat} {h : PH} {r : ((Int32 × PH) ⊕ (Nat × PH))} (hf : fX11_placeIn_b9 v1 v3 t0 h = some r) : lez h (xT2 r) (vT2 r) := by
  unfold fX11_placeIn_b9 at hf
  have hle := lez_rf h
  obtain ⟨a6, e7, hf⟩ := gs_some hf
  obtain ⟨hk8, hf⟩ := gd_some hf
  obtain ⟨z9, hz9, hf⟩ := bd_some hf
  have ee := Option.some.inj hf; subst ee; exact hle
set_option maxRecDepth 100000 in
theorem wX11_placeIn_b9 {E : PE} {p : Program} {l : Launch} {e : Env} {s : State} {m : MethodId} {args : Array Value} {below : List Frame} {meth : Method} {c : Code} {X0 V0 MC MS uc us : Nat} (X : Cx E p l e (rmv 9 MC MS) s m args below meth c RX11 cX11_placeIn 4 (some .int)) (hG : Gs E l) (hex : ∀ x ∈ c.exceptionTable.toList, False) {v1 : Int32} {v3 : Int32} {t0 : Option Nat} {h : PH} {r : ((Int32 × PH) ⊕ (Nat × PH))} (hM : MC + X0 = (xT2 r)) (hN : MS + V0 = (vT2 r)) (hu : uc + X0 = hX h) (hv : us + V0 = hV h) (hf : fX11_placeIn_b9 v1 v3 t0 h = some r)  : PW E p l e (rmv 9 MC MS) s m args below meth c 4 uc us (vx_MQ below (QG E (fun v u => ∃ z, r = .inl z ∧ v = some (.int z.1) ∧ u = z.2)) (XG E (fun En u => ∃ (z : Nat × PH) (n : Nat), r = .inr z ∧ En = exn z.1 ∧ hX z.2 ≤ n ∧ u = hbump z.2 n)) args s MC MS (pA E)) h 9 [(1, some (.int v1)), (3, some (.int v3))] [va_rf t0] := by
  have hm1 : lez h (xT2 r) (vT2 r) := mX11_placeIn_b9 hf
  have hcm : uc ≤ MC := (by have o0 := hm1.1; have o1 := hM; have o2 := hu; (try simp only [hX_sI, hX_sR, hX_sL, hX_sD, hX_sIa, hX_sRa, hV_sI, hV_sR, hV_sL, hV_sD, hV_sIa, hV_sRa, hX_new, hV_new] at o0 o1 o2 ⊢); omega)
  have hsm : us ≤ MS := (by have o0 := hm1.2; have o1 := hN; have o2 := hv; (try simp only [hX_sI, hX_sR, hX_sL, hX_sD, hX_sIa, hX_sRa, hV_sI, hV_sR, hV_sL, hV_sD, hV_sIa, hV_sRa, hX_new, hV_new] at o0 o1 o2 ⊢); omega)
  clear hm1
  unfold fX11_placeIn_b9 at hf
  refine p_iload_n X (dcg dc_X11_placeIn 5 rfl) rfl rfl ?_
  refine p_iload_n X (dcg dc_X11_placeIn 6 rfl) rfl rfl ?_
  obtain ⟨a6, e7, hf⟩ := gs_some hf
  first | subst e7 | (try rw [e7])
  obtain ⟨hk8, hf⟩ := gd_some hf
  obtain ⟨z9, hz9, hf⟩ := bd_some hf
  refine p_callV (As := [_, _]) X ml_X11_213 (dcg dc_X11_placeIn 7 rfl) rfl rfl hk8 (wX8_placeOf hG hz9) (by decide) (room4 (Nat.le_of_ble_eq_true rfl)) hcm hsm ?_
  rintro _ u9 ⟨rfl, e9⟩; have e9 := e9.symm; subst e9
  have er := Option.some.inj hf
  subst er
  refine p_vx ?_
  exact p_iret X rfl (dcg dc_X11_placeIn 8 rfl) ⟨_, rfl, rfl, rfl⟩ hcm hsm
noncomputable def fX11_placeIn_b4 (v0 : Nat) (v1 : Int32) (v2 : Int32) (v3 : Int32) (h : PH) : Option ((Int32 × PH) ⊕ (Nat × PH)) :=
  gd (hK h v0 = 11) (bx (fX11_demandText v0 v2 h) (fun z4 =>
  fX11_placeIn_b9 v1 v3 z4.1 z4.2))
set_option maxRecDepth 100000 in
theorem mX11_placeIn_b4 {v0 : Nat} {v1 : Int32} {v2 : Int32} {v3 : Int32} {h : PH} {r : ((Int32 × PH) ⊕ (Nat × PH))} (hf : fX11_placeIn_b4 v0 v1 v2 v3 h = some r) : lez h (xT2 r) (vT2 r) := by
  unfold fX11_placeIn_b4 at hf
  have hle := lez_rf h
  obtain ⟨hk3, hf⟩ := gd_some hf
  obtain ⟨y5, hy5, h1y5, h2y5⟩ := bx_some hf
  have hc1 := mX11_demandText hy5
  rcases y5 with z4 | z4
  · have hf := h1y5 z4 rfl
    have hle : lez h (hX z4.2) (hV z4.2) := lez_rt hc1 hle
    exact lez_rt (mX11_placeIn_b9 hf) hle
  · have hr9 := h2y5 z4 rfl
    subst hr9
    exact lez_rt hc1 hle
set_option maxRecDepth 100000 in
theorem wX11_placeIn_b4 {E : PE} {p : Program} {l : Launch} {e : Env} {s : State} {m : MethodId} {args : Array Value} {below : List Frame} {meth : Method} {c : Code} {X0 V0 MC MS uc us : Nat} (X : Cx E p l e (rmv 9 MC MS) s m args below meth c RX11 cX11_placeIn 4 (some .int)) (hG : Gs E l) (hex : ∀ x ∈ c.exceptionTable.toList, False) {v0 : Nat} {v1 : Int32} {v2 : Int32} {v3 : Int32} {h : PH} {r : ((Int32 × PH) ⊕ (Nat × PH))} (hM : MC + X0 = (xT2 r)) (hN : MS + V0 = (vT2 r)) (hu : uc + X0 = hX h) (hv : us + V0 = hV h) (hf : fX11_placeIn_b4 v0 v1 v2 v3 h = some r)  : PW E p l e (rmv 9 MC MS) s m args below meth c 4 uc us (vx_MQ below (QG E (fun v u => ∃ z, r = .inl z ∧ v = some (.int z.1) ∧ u = z.2)) (XG E (fun En u => ∃ (z : Nat × PH) (n : Nat), r = .inr z ∧ En = exn z.1 ∧ hX z.2 ≤ n ∧ u = hbump z.2 n)) args s MC MS (pA E)) h 4 [(0, some (.ref v0)), (1, some (.int v1)), (2, some (.int v2)), (3, some (.int v3))] [] := by
  have hm1 : lez h (xT2 r) (vT2 r) := mX11_placeIn_b4 hf
  have hcm : uc ≤ MC := (by have o0 := hm1.1; have o1 := hM; have o2 := hu; (try simp only [hX_sI, hX_sR, hX_sL, hX_sD, hX_sIa, hX_sRa, hV_sI, hV_sR, hV_sL, hV_sD, hV_sIa, hV_sRa, hX_new, hV_new] at o0 o1 o2 ⊢); omega)
  have hsm : us ≤ MS := (by have o0 := hm1.2; have o1 := hN; have o2 := hv; (try simp only [hX_sI, hX_sR, hX_sL, hX_sD, hX_sIa, hX_sRa, hV_sI, hV_sR, hV_sL, hV_sD, hV_sIa, hV_sRa, hX_new, hV_new] at o0 o1 o2 ⊢); omega)
  clear hm1
  unfold fX11_placeIn_b4 at hf
  refine p_aload_n X (dcg dc_X11_placeIn 2 rfl) rfl rfl ?_
  refine p_iload_n X (dcg dc_X11_placeIn 3 rfl) rfl rfl ?_
  obtain ⟨hk3, hf⟩ := gd_some hf
  obtain ⟨y5, hy5, h1y5, h2y5⟩ := bx_some hf
  have hc1 := mX11_demandText hy5
  rcases y5 with z4 | z4
  · have hf := h1y5 z4 rfl
    have hm1 : lez _ (xT2 r) (vT2 r) := mX11_placeIn_b9 hf
    refine p_callVX (As := [_]) X hex ml_X11_119 (dcg dc_X11_placeIn 4 rfl) rfl rfl hk3 (wX11_demandText hG hy5) (by decide) (room4 (Nat.le_of_ble_eq_true rfl)) (show uc + (hX z4.2 - hX h) ≤ MC from (by have o0 := hm1.1; have o1 := (show lez h (hX z4.2) (hV z4.2) from hc1).1; have o2 := hM; have o3 := hu; (try simp only [hX_sI, hX_sR, hX_sL, hX_sD, hX_sIa, hX_sRa, hV_sI, hV_sR, hV_sL, hV_sD, hV_sIa, hV_sRa, hX_new, hV_new] at o0 o1 o2 o3 ⊢); omega)) (show us + (hV z4.2 - hV h) ≤ MS from (by have o0 := hm1.2; have o1 := (show lez h (hX z4.2) (hV z4.2) from hc1).2; have o2 := hN; have o3 := hv; (try simp only [hX_sI, hX_sR, hX_sL, hX_sD, hX_sIa, hX_sRa, hV_sI, hV_sR, hV_sL, hV_sD, hV_sIa, hV_sRa, hX_new, hV_new] at o0 o1 o2 o3 ⊢); omega)) (show uc + (hX z4.2 - hX h) ≤ MC from (by have o0 := hm1.1; have o1 := (show lez h (hX z4.2) (hV z4.2) from hc1).1; have o2 := hM; have o3 := hu; (try simp only [hX_sI, hX_sR, hX_sL, hX_sD, hX_sIa, hX_sRa, hV_sI, hV_sR, hV_sL, hV_sD, hV_sIa, hV_sRa, hX_new, hV_new] at o0 o1 o2 o3 ⊢); omega)) (show us + (hV z4.2 - hV h) ≤ MS from (by have o0 := hm1.2; have o1 := (show lez h (hX z4.2) (hV z4.2) from hc1).2; have o2 := hN; have o3 := hv; (try simp only [hX_sI, hX_sR, hX_sL, hX_sD, hX_sIa, hX_sRa, hV_sI, hV_sR, hV_sL, hV_sD, hV_sIa, hV_sRa, hX_new, hV_new] at o0 o1 o2 o3 ⊢); omega)) (fun En u q => by obtain ⟨z9, n9, q9, _⟩ := q; cases q9) ?_
    rintro _ _ ⟨z9, hz9, rfl, rfl⟩
    cases hz9
    refine p_pick [1, 3] ?_
    exact wX11_placeIn_b9 X hG hex hM hN (show uc + (hX z4.2 - hX h) + X0 = hX z4.2 from (by have o0 := (show lez h (hX z4.2) (hV z4.2) from hc1).1; have o1 := hu; (try simp only [hX_sI, hX_sR, hX_sL, hX_sD, hX_sIa, hX_sRa, hV_sI, hV_sR, hV_sL, hV_sD, hV_sIa, hV_sRa, hX_new, hV_new] at o0 o1 ⊢); omega)) (show us + (hV z4.2 - hV h) + V0 = hV z4.2 from (by have o0 := (show lez h (hX z4.2) (hV z4.2) from hc1).2; have o1 := hv; (try simp only [hX_sI, hX_sR, hX_sL, hX_sD, hX_sIa, hX_sRa, hV_sI, hV_sR, hV_sL, hV_sD, hV_sIa, hV_sRa, hX_new, hV_new] at o0 o1 ⊢); omega)) hf 
  · have hr9 := h2y5 z4 rfl
    subst hr9
    refine p_callVX (As := [_]) X hex ml_X11_119 (dcg dc_X11_placeIn 4 rfl) rfl rfl hk3 (wX11_demandText hG hy5) (by decide) (room4 (Nat.le_of_ble_eq_true rfl)) (show uc + (hX z4.2 + 1 - hX h) ≤ MC from (by have o0 := (show lez h (hX z4.2 + 1) (hV z4.2 + 6) from hc1).1; have o1 := (show MC + X0 = hX z4.2 + 1 from hM); have o2 := hu; (try simp only [hX_sI, hX_sR, hX_sL, hX_sD, hX_sIa, hX_sRa, hV_sI, hV_sR, hV_sL, hV_sD, hV_sIa, hV_sRa, hX_new, hV_new] at o0 o1 o2 ⊢); omega)) (show us + (hV z4.2 + 6 - hV h) ≤ MS from (by have o0 := (show lez h (hX z4.2 + 1) (hV z4.2 + 6) from hc1).2; have o1 := (show MS + V0 = hV z4.2 + 6 from hN); have o2 := hv; (try simp only [hX_sI, hX_sR, hX_sL, hX_sD, hX_sIa, hX_sRa, hV_sI, hV_sR, hV_sL, hV_sD, hV_sIa, hV_sRa, hX_new, hV_new] at o0 o1 o2 ⊢); omega)) (show uc + (hX z4.2 + 1 - hX h) ≤ MC from (by have o0 := (show lez h (hX z4.2 + 1) (hV z4.2 + 6) from hc1).1; have o1 := (show MC + X0 = hX z4.2 + 1 from hM); have o2 := hu; (try simp only [hX_sI, hX_sR, hX_sL, hX_sD, hX_sIa, hX_sRa, hV_sI, hV_sR, hV_sL, hV_sD, hV_sIa, hV_sRa, hX_new, hV_new] at o0 o1 o2 ⊢); omega)) (show us + (hV z4.2 + 6 - hV h) ≤ MS from (by have o0 := (show lez h (hX z4.2 + 1) (hV z4.2 + 6) from hc1).2; have o1 := (show MS + V0 = hV z4.2 + 6 from hN); have o2 := hv; (try simp only [hX_sI, hX_sR, hX_sL, hX_sD, hX_sIa, hX_sRa, hV_sI, hV_sR, hV_sL, hV_sD, hV_sIa, hV_sRa, hX_new, hV_new] at o0 o1 o2 ⊢); omega)) (fun En u q => by obtain ⟨z9, n9, q9, q8⟩ := q; cases q9; exact ⟨_, n9, rfl, q8⟩) ?_
    rintro _ _ ⟨z9, hz9, _⟩
    cases hz9
noncomputable def fX11_placeIn_b0 (v0 : Nat) (v1 : Int32) (v2 : Int32) (v3 : Int32) (h : PH) : Option ((Int32 × PH) ⊕ (Nat × PH)) :=
  bx (fX11_demandWord v1 h) (fun z1 =>
  fX11_placeIn_b4 v0 v1 v2 v3 z1)
set_option maxRecDepth 100000 in
theorem mX11_placeIn_b0 {v0 : Nat} {v1 : Int32} {v2 : Int32} {v3 : Int32} {h : PH} {r : ((Int32 × PH) ⊕ (Nat × PH))} (hf : fX11_placeIn_b0 v0 v1 v2 v3 h = some r) : lez h (xT2 r) (vT2 r) := by
  unfold fX11_placeIn_b0 at hf
  have hle := lez_rf h
  obtain ⟨y2, hy2, h1y2, h2y2⟩ := bx_some hf
  have hc1 := mX11_demandWord hy2
  rcases y2 with z1 | z1
  · have hf := h1y2 z1 rfl
    have hle : lez h (hX z1) (hV z1) := lez_rt hc1 hle
    exact lez_rt (mX11_placeIn_b4 hf) hle
  · have hr9 := h2y2 z1 rfl
    subst hr9
    exact lez_rt hc1 hle
set_option maxRecDepth 100000 in
theorem wX11_placeIn_b0 {E : PE} {p : Program} {l : Launch} {e : Env} {s : State} {m : MethodId} {args : Array Value} {below : List Frame} {meth : Method} {c : Code} {X0 V0 MC MS uc us : Nat} (X : Cx E p l e (rmv 9 MC MS) s m args below meth c RX11 cX11_placeIn 4 (some .int)) (hG : Gs E l) (hex : ∀ x ∈ c.exceptionTable.toList, False) {v0 : Nat} {v1 : Int32} {v2 : Int32} {v3 : Int32} {h : PH} {r : ((Int32 × PH) ⊕ (Nat × PH))} (hM : MC + X0 = (xT2 r)) (hN : MS + V0 = (vT2 r)) (hu : uc + X0 = hX h) (hv : us + V0 = hV h) (hf : fX11_placeIn_b0 v0 v1 v2 v3 h = some r)  : PW E p l e (rmv 9 MC MS) s m args below meth c 4 uc us (vx_MQ below (QG E (fun v u => ∃ z, r = .inl z ∧ v = some (.int z.1) ∧ u = z.2)) (XG E (fun En u => ∃ (z : Nat × PH) (n : Nat), r = .inr z ∧ En = exn z.1 ∧ hX z.2 ≤ n ∧ u = hbump z.2 n)) args s MC MS (pA E)) h 0 [(0, some (.ref v0)), (1, some (.int v1)), (2, some (.int v2)), (3, some (.int v3))] [] := by
  have hm1 : lez h (xT2 r) (vT2 r) := mX11_placeIn_b0 hf
  have hcm : uc ≤ MC := (by have o0 := hm1.1; have o1 := hM; have o2 := hu; (try simp only [hX_sI, hX_sR, hX_sL, hX_sD, hX_sIa, hX_sRa, hV_sI, hV_sR, hV_sL, hV_sD, hV_sIa, hV_sRa, hX_new, hV_new] at o0 o1 o2 ⊢); omega)
  have hsm : us ≤ MS := (by have o0 := hm1.2; have o1 := hN; have o2 := hv; (try simp only [hX_sI, hX_sR, hX_sL, hX_sD, hX_sIa, hX_sRa, hV_sI, hV_sR, hV_sL, hV_sD, hV_sIa, hV_sRa, hX_new, hV_new] at o0 o1 o2 ⊢); omega)
  clear hm1
  unfold fX11_placeIn_b0 at hf
  refine p_iload_n X (dcg dc_X11_placeIn 0 rfl) rfl rfl ?_
  obtain ⟨y2, hy2, h1y2, h2y2⟩ := bx_some hf
  have hc1 := mX11_demandWord hy2
  rcases y2 with z1 | z1
  · have hf := h1y2 z1 rfl
    have hm1 : lez _ (xT2 r) (vT2 r) := mX11_placeIn_b4 hf
    refine p_callSX (As := [_]) X hex ml_X11_128 (dcg dc_X11_placeIn 1 rfl) rfl rfl  (wX11_demandWord hG hy2) (by decide) (room4 (Nat.le_of_ble_eq_true rfl)) (show uc + (hX z1 - hX h) ≤ MC from (by have o0 := hm1.1; have o1 := (show lez h (hX z1) (hV z1) from hc1).1; have o2 := hM; have o3 := hu; (try simp only [hX_sI, hX_sR, hX_sL, hX_sD, hX_sIa, hX_sRa, hV_sI, hV_sR, hV_sL, hV_sD, hV_sIa, hV_sRa, hX_new, hV_new] at o0 o1 o2 o3 ⊢); omega)) (show us + (hV z1 - hV h) ≤ MS from (by have o0 := hm1.2; have o1 := (show lez h (hX z1) (hV z1) from hc1).2; have o2 := hN; have o3 := hv; (try simp only [hX_sI, hX_sR, hX_sL, hX_sD, hX_sIa, hX_sRa, hV_sI, hV_sR, hV_sL, hV_sD, hV_sIa, hV_sRa, hX_new, hV_new] at o0 o1 o2 o3 ⊢); omega)) (show uc + (hX z1 - hX h) ≤ MC from (by have o0 := hm1.1; have o1 := (show lez h (hX z1) (hV z1) from hc1).1; have o2 := hM; have o3 := hu; (try simp only [hX_sI, hX_sR, hX_sL, hX_sD, hX_sIa, hX_sRa, hV_sI, hV_sR, hV_sL, hV_sD, hV_sIa, hV_sRa, hX_new, hV_new] at o0 o1 o2 o3 ⊢); omega)) (show us + (hV z1 - hV h) ≤ MS from (by have o0 := hm1.2; have o1 := (show lez h (hX z1) (hV z1) from hc1).2; have o2 := hN; have o3 := hv; (try simp only [hX_sI, hX_sR, hX_sL, hX_sD, hX_sIa, hX_sRa, hV_sI, hV_sR, hV_sL, hV_sD, hV_sIa, hV_sRa, hX_new, hV_new] at o0 o1 o2 o3 ⊢); omega)) (fun En u q => by obtain ⟨z9, n9, q9, _⟩ := q; cases q9) ?_
    rintro _ _ ⟨z9, hz9, rfl, rfl⟩
    cases hz9
    refine p_pick [0, 1, 2, 3] ?_
    exact wX11_placeIn_b4 X hG hex hM hN (show uc + (hX z1 - hX h) + X0 = hX z1 from (by have o0 := (show lez h (hX z1) (hV z1) from hc1).1; have o1 := hu; (try simp only [hX_sI, hX_sR, hX_sL, hX_sD, hX_sIa, hX_sRa, hV_sI, hV_sR, hV_sL, hV_sD, hV_sIa, hV_sRa, hX_new, hV_new] at o0 o1 ⊢); omega)) (show us + (hV z1 - hV h) + V0 = hV z1 from (by have o0 := (show lez h (hX z1) (hV z1) from hc1).2; have o1 := hv; (try simp only [hX_sI, hX_sR, hX_sL, hX_sD, hX_sIa, hX_sRa, hV_sI, hV_sR, hV_sL, hV_sD, hV_sIa, hV_sRa, hX_new, hV_new] at o0 o1 ⊢); omega)) hf 
  · have hr9 := h2y2 z1 rfl
    subst hr9
    refine p_callSX (As := [_]) X hex ml_X11_128 (dcg dc_X11_placeIn 1 rfl) rfl rfl  (wX11_demandWord hG hy2) (by decide) (room4 (Nat.le_of_ble_eq_true rfl)) (show uc + (hX z1.2 + 1 - hX h) ≤ MC from (by have o0 := (show lez h (hX z1.2 + 1) (hV z1.2 + 6) from hc1).1; have o1 := (show MC + X0 = hX z1.2 + 1 from hM); have o2 := hu; (try simp only [hX_sI, hX_sR, hX_sL, hX_sD, hX_sIa, hX_sRa, hV_sI, hV_sR, hV_sL, hV_sD, hV_sIa, hV_sRa, hX_new, hV_new] at o0 o1 o2 ⊢); omega)) (show us + (hV z1.2 + 6 - hV h) ≤ MS from (by have o0 := (show lez h (hX z1.2 + 1) (hV z1.2 + 6) from hc1).2; have o1 := (show MS + V0 = hV z1.2 + 6 from hN); have o2 := hv; (try simp only [hX_sI, hX_sR, hX_sL, hX_sD, hX_sIa, hX_sRa, hV_sI, hV_sR, hV_sL, hV_sD, hV_sIa, hV_sRa, hX_new, hV_new] at o0 o1 o2 ⊢); omega)) (show uc + (hX z1.2 + 1 - hX h) ≤ MC from (by have o0 := (show lez h (hX z1.2 + 1) (hV z1.2 + 6) from hc1).1; have o1 := (show MC + X0 = hX z1.2 + 1 from hM); have o2 := hu; (try simp only [hX_sI, hX_sR, hX_sL, hX_sD, hX_sIa, hX_sRa, hV_sI, hV_sR, hV_sL, hV_sD, hV_sIa, hV_sRa, hX_new, hV_new] at o0 o1 o2 ⊢); omega)) (show us + (hV z1.2 + 6 - hV h) ≤ MS from (by have o0 := (show lez h (hX z1.2 + 1) (hV z1.2 + 6) from hc1).2; have o1 := (show MS + V0 = hV z1.2 + 6 from hN); have o2 := hv; (try simp only [hX_sI, hX_sR, hX_sL, hX_sD, hX_sIa, hX_sRa, hV_sI, hV_sR, hV_sL, hV_sD, hV_sIa, hV_sRa, hX_new, hV_new] at o0 o1 o2 ⊢); omega)) (fun En u q => by obtain ⟨z9, n9, q9, q8⟩ := q; cases q9; exact ⟨_, n9, rfl, q8⟩) ?_
    rintro _ _ ⟨z9, hz9, _⟩
    cases hz9
noncomputable def fX11_placeIn (v0 : Nat) (v1 : Int32) (v2 : Int32) (v3 : Int32) (h : PH) : Option ((Int32 × PH) ⊕ (Nat × PH)) :=
  fX11_placeIn_b0 v0 v1 v2 v3 h
set_option maxRecDepth 100000 in
theorem mX11_placeIn {v0 : Nat} {v1 : Int32} {v2 : Int32} {v3 : Int32} {h : PH} {r : ((Int32 × PH) ⊕ (Nat × PH))} (hf : fX11_placeIn v0 v1 v2 v3 h = some r) : lez h (xT2 r) (vT2 r) := by
  unfold fX11_placeIn at hf
  have hle := lez_rf h
  exact lez_rt (mX11_placeIn_b0 hf) hle
set_option maxRecDepth 100000 in
theorem wX11_placeIn {E : PE} {l : Launch} (hG : Gs E l) {v0 : Nat} {v1 : Int32} {v2 : Int32} {v3 : Int32} {h : PH} {r : ((Int32 × PH) ⊕ (Nat × PH))} (hf : fX11_placeIn v0 v1 v2 v3 h = some r) : CtX E l 9 ((xT2 r) - hX h) ((vT2 r) - hV h) yX11_placeIn cX11_placeIn 4 (some .int) [.ref v0, .int v1, .int v2, .int v3] h (fun v u => ∃ z, r = .inl z ∧ v = some (.int z.1) ∧ u = z.2) (fun En u => ∃ (z : Nat × PH) (n : Nat), r = .inr z ∧ En = exn z.1 ∧ hX z.2 ≤ n ∧ u = hbump z.2 n) := by
  have hmm := mX11_placeIn hf
  refine ctx_of hG (by decide) (Nat.le_of_ble_eq_true rfl) ?_
  intro p e s m args below meth c X hex
  show PW E p l e _ s m args below meth c _ 0 0 _ h 0 [(0, some (.ref v0)), (1, some (.int v1)), (2, some (.int v2)), (3, some (.int v3))] []
  unfold fX11_placeIn at hf
  have hM := Nat.sub_add_cancel hmm.1
  have hN := Nat.sub_add_cancel hmm.2
  refine p_pick [0, 1, 2, 3] ?_
  exact wX11_placeIn_b0 X hG hex hM hN (Nat.zero_add _) (Nat.zero_add _) hf
theorem dc_X11_frequent : decs cX11_frequent [(0, .aload_n 0, 1), (1, .getfield 34, 3), (4, .iload_n 1, 1), (5, .invokevirtual 216, 3), (8, .istore_n 2, 1), (9, .iload_n 2, 1), (10, .iconst (-1), 1), (11, .if_icmp .ne 11, 3), (14, .new 125, 3), (17, .dup, 1), (18, .invokespecial 127, 3), (21, .athrow, 1), (22, .iload_n 2, 1), (23, .ireturn, 1)] = true := by decide +kernel
noncomputable def fX11_frequent_b0 (v0 : Nat) (v1 : Int32) (h : PH) : Option ((Int32 × PH) ⊕ (Nat × PH)) :=
  gd (hK h v0 = 11) (gs (hR h 11 v0 3) (fun a2 =>
  gd (hK h a2 = 3) (bd (fX3_frequentAt a2 v1 h) (fun z5 =>
  if (¬ z5.1 = (-1 : Int32)) then (some (.inl ((z5.1, z5.2)))) else
  some (.inr (2, z5.2))))))
set_option maxRecDepth 100000 in
theorem mX11_frequent_b0 {v0 : Nat} {v1 : Int32} {h : PH} {r : ((Int32 × PH) ⊕ (Nat × PH))} (hf : fX11_frequent_b0 v0 v1 h = some r) : lez h (xT2 r) (vT2 r) := by
  unfold fX11_frequent_b0 at hf
  have hle := lez_rf h
  obtain ⟨hk1, hf⟩ := gd_some hf
  obtain ⟨a2, e3, hf⟩ := gs_some hf
  obtain ⟨hk4, hf⟩ := gd_some hf
  obtain ⟨z5, hz5, hf⟩ := bd_some hf
  have hle := lez_rt (lez_eq (mX3_frequentAt hz5)) hle
  rcases ite_or hf with ⟨q, hf⟩ | ⟨q, hf⟩
  · have hf := if_t q hf
    have ee := Option.some.inj hf; subst ee; exact hle
  · have hf := if_f q hf
    cases hf; exact lez_up hle
set_option maxRecDepth 100000 in
theorem wX11_frequent_b0 {E : PE} {p : Program} {l : Launch} {e : Env} {s : State} {m : MethodId} {args : Array Value} {below : List Frame} {meth : Method} {c : Code} {X0 V0 MC MS uc us : Nat} (X : Cx E p l e (rmv 8 MC MS) s m args below meth c RX11 cX11_frequent 3 (some .int)) (hG : Gs E l) (hex : ∀ x ∈ c.exceptionTable.toList, False) {v0 : Nat} {v1 : Int32} {h : PH} {r : ((Int32 × PH) ⊕ (Nat × PH))} (hM : MC + X0 = (xT2 r)) (hN : MS + V0 = (vT2 r)) (hu : uc + X0 = hX h) (hv : us + V0 = hV h) (hf : fX11_frequent_b0 v0 v1 h = some r)  : PW E p l e (rmv 8 MC MS) s m args below meth c 3 uc us (vx_MQ below (QG E (fun v u => ∃ z, r = .inl z ∧ v = some (.int z.1) ∧ u = z.2)) (XG E (fun En u => ∃ (z : Nat × PH) (n : Nat), r = .inr z ∧ En = exn z.1 ∧ hX z.2 ≤ n ∧ u = hbump z.2 n)) args s MC MS (pA E)) h 0 [(0, some (.ref v0)), (1, some (.int v1))] [] := by
  have hm1 : lez h (xT2 r) (vT2 r) := mX11_frequent_b0 hf
  have hcm : uc ≤ MC := (by have o0 := hm1.1; have o1 := hM; have o2 := hu; (try simp only [hX_sI, hX_sR, hX_sL, hX_sD, hX_sIa, hX_sRa, hV_sI, hV_sR, hV_sL, hV_sD, hV_sIa, hV_sRa, hX_new, hV_new] at o0 o1 o2 ⊢); omega)
  have hsm : us ≤ MS := (by have o0 := hm1.2; have o1 := hN; have o2 := hv; (try simp only [hX_sI, hX_sR, hX_sL, hX_sD, hX_sIa, hX_sRa, hV_sI, hV_sR, hV_sL, hV_sD, hV_sIa, hV_sRa, hX_new, hV_new] at o0 o1 o2 ⊢); omega)
  clear hm1
  unfold fX11_frequent_b0 at hf
  refine p_aload_n X (dcg dc_X11_frequent 0 rfl) rfl rfl ?_
  obtain ⟨hk1, hf⟩ := gd_some hf
  refine p_getR X fl_X11_34 rfl (by decide) (dcg dc_X11_frequent 1 rfl) hk1 ?_
  refine p_iload_n X (dcg dc_X11_frequent 2 rfl) rfl rfl ?_
  obtain ⟨a2, e3, hf⟩ := gs_some hf
  first | subst e3 | (try rw [e3])
  obtain ⟨hk4, hf⟩ := gd_some hf
  obtain ⟨z5, hz5, hf⟩ := bd_some hf
  refine p_callV (As := [_]) X ml_X11_216 (dcg dc_X11_frequent 3 rfl) rfl rfl hk4 (wX3_frequentAt hG hz5) (by decide) (room4 (Nat.le_of_ble_eq_true rfl)) hcm hsm ?_
  rintro _ u9 ⟨rfl, e9⟩; have e9 := e9.symm; subst e9
  have hu := hu.trans (mX3_frequentAt hz5).1
  have hv := hv.trans (mX3_frequentAt hz5).2
  refine p_istore_n X (dcg dc_X11_frequent 4 rfl) rfl (by decide) rfl ?_
  refine p_iload_n X (dcg dc_X11_frequent 5 rfl) rfl rfl ?_
  refine p_iconst (v := -1) X (dcg dc_X11_frequent 6 rfl) (by decide) ?_
  refine p_icmp_ne (tgt := 22) X (dcg dc_X11_frequent 7 rfl) (by decide) (fun q => ?_) (fun q => ?_)
  · have hf := if_t q hf
    refine p_iload_n X (dcg dc_X11_frequent 12 rfl) rfl rfl ?_
    have er := Option.some.inj hf
    subst er
    refine p_vx ?_
    exact p_iret X rfl (dcg dc_X11_frequent 13 rfl) ⟨_, rfl, rfl, rfl⟩ hcm hsm
  · have hf := if_f q hf
    have er := Option.some.inj hf
    subst er
    exact p_throw0 (cls := "java/lang/IndexOutOfBoundsException") (names := ["java/lang/RuntimeException", "java/lang/Exception"]) X hex (by decide) (by decide) tw_1205 tw_127 th_X11_127a th_X11_127b th_X11_127c th_X11_127d (dcg dc_X11_frequent 8 rfl) (dcg dc_X11_frequent 9 rfl) (dcg dc_X11_frequent 10 rfl) (dcg dc_X11_frequent 11 rfl) (Nat.le_of_ble_eq_true rfl) (Nat.le_trans (Nat.add_le_add_right (room4 (Nat.le_of_ble_eq_true rfl)) _) (Nat.le_of_ble_eq_true rfl)) (show uc + 1 ≤ MC from (by have o0 := (show MC + X0 = hX z5.2 + 1 from hM); have o1 := hu; (try simp only [hX_sI, hX_sR, hX_sL, hX_sD, hX_sIa, hX_sRa, hV_sI, hV_sR, hV_sL, hV_sD, hV_sIa, hV_sRa, hX_new, hV_new] at o0 o1 ⊢); omega)) (show us + 6 ≤ MS from (by have o0 := (show MS + V0 = hV z5.2 + 6 from hN); have o1 := hv; (try simp only [hX_sI, hX_sR, hX_sL, hX_sD, hX_sIa, hX_sRa, hV_sI, hV_sR, hV_sL, hV_sD, hV_sIa, hV_sRa, hX_new, hV_new] at o0 o1 ⊢); omega)) (show uc + 1 ≤ MC from (by have o0 := (show MC + X0 = hX z5.2 + 1 from hM); have o1 := hu; (try simp only [hX_sI, hX_sR, hX_sL, hX_sD, hX_sIa, hX_sRa, hV_sI, hV_sR, hV_sL, hV_sD, hV_sIa, hV_sRa, hX_new, hV_new] at o0 o1 ⊢); omega)) (show us + 6 ≤ MS from (by have o0 := (show MS + V0 = hV z5.2 + 6 from hN); have o1 := hv; (try simp only [hX_sI, hX_sR, hX_sL, hX_sD, hX_sIa, hX_sRa, hV_sI, hV_sR, hV_sL, hV_sD, hV_sIa, hV_sRa, hX_new, hV_new] at o0 o1 ⊢); omega)) (fun n hn => ⟨_, n, rfl, rfl, hn, rfl⟩)
noncomputable def fX11_frequent (v0 : Nat) (v1 : Int32) (h : PH) : Option ((Int32 × PH) ⊕ (Nat × PH)) :=
  fX11_frequent_b0 v0 v1 h
set_option maxRecDepth 100000 in
theorem mX11_frequent {v0 : Nat} {v1 : Int32} {h : PH} {r : ((Int32 × PH) ⊕ (Nat × PH))} (hf : fX11_frequent v0 v1 h = some r) : lez h (xT2 r) (vT2 r) := by
  unfold fX11_frequent at hf
  have hle := lez_rf h
  exact lez_rt (mX11_frequent_b0 hf) hle
set_option maxRecDepth 100000 in
theorem wX11_frequent {E : PE} {l : Launch} (hG : Gs E l) {v0 : Nat} {v1 : Int32} {h : PH} {r : ((Int32 × PH) ⊕ (Nat × PH))} (hf : fX11_frequent v0 v1 h = some r) : CtX E l 8 ((xT2 r) - hX h) ((vT2 r) - hV h) yX11_frequent cX11_frequent 3 (some .int) [.ref v0, .int v1] h (fun v u => ∃ z, r = .inl z ∧ v = some (.int z.1) ∧ u = z.2) (fun En u => ∃ (z : Nat × PH) (n : Nat), r = .inr z ∧ En = exn z.1 ∧ hX z.2 ≤ n ∧ u = hbump z.2 n) := by
  have hmm := mX11_frequent hf
  refine ctx_of hG (by decide) (Nat.le_of_ble_eq_true rfl) ?_
  intro p e s m args below meth c X hex
  show PW E p l e _ s m args below meth c _ 0 0 _ h 0 [(0, some (.ref v0)), (1, some (.int v1))] []
  unfold fX11_frequent at hf
  have hM := Nat.sub_add_cancel hmm.1
  have hN := Nat.sub_add_cancel hmm.2
  refine p_pick [0, 1] ?_
  exact wX11_frequent_b0 X hG hex hM hN (Nat.zero_add _) (Nat.zero_add _) hf
theorem dc_X11_together : decs cX11_together [(0, .iload_n 1, 1), (1, .invokestatic 128, 3), (4, .iload_n 2, 1), (5, .invokestatic 128, 3), (8, .aload_n 0, 1), (9, .getfield 34, 3), (12, .iload_n 1, 1), (13, .invokevirtual 194, 3), (16, .astore_n 3, 1), (17, .aload_n 0, 1), (18, .getfield 34, 3), (21, .iload_n 2, 1), (22, .invokevirtual 194, 3), (25, .astore 4, 2), (27, .aload_n 3, 1), (28, .ifnull 8, 3), (31, .aload 4, 2), (33, .ifnonnull 7, 3), (36, .iconst 0, 1), (37, .goto 15, 3), (40, .aload_n 3, 1), (41, .getfield 198, 3), (44, .aload 4, 2), (46, .getfield 198, 3), (49, .invokevirtual 219, 3), (52, .ireturn, 1)] = true := by decide +kernel
noncomputable def fX11_together_b52 (t0 : Int32) (h : PH) : Option ((Int32 × PH) ⊕ (Nat × PH)) :=
  some (.inl ((t0, h)))
set_option maxRecDepth 100000 in
theorem mX11_together_b52 {t0 : Int32} {h : PH} {r : ((Int32 × PH) ⊕ (Nat × PH))} (hf : fX11_together_b52 t0 h = some r) : lez h (xT2 r) (vT2 r) := by
  unfold fX11_together_b52 at hf
  have hle := lez_rf h
  have ee := Option.some.inj hf; subst ee; exact hle
set_option maxRecDepth 100000 in
theorem wX11_together_b52 {E : PE} {p : Program} {l : Launch} {e : Env} {s : State} {m : MethodId} {args : Array Value} {below : List Frame} {meth : Method} {c : Code} {X0 V0 MC MS uc us : Nat} (X : Cx E p l e (rmv 9 MC MS) s m args below meth c RX11 cX11_together 5 (some .int)) (hG : Gs E l) (hex : ∀ x ∈ c.exceptionTable.toList, False) {t0 : Int32} {h : PH} {r : ((Int32 × PH) ⊕ (Nat × PH))} (hM : MC + X0 = (xT2 r)) (hN : MS + V0 = (vT2 r)) (hu : uc + X0 = hX h) (hv : us + V0 = hV h) (hf : fX11_together_b52 t0 h = some r)  : PW E p l e (rmv 9 MC MS) s m args below meth c 5 uc us (vx_MQ below (QG E (fun v u => ∃ z, r = .inl z ∧ v = some (.int z.1) ∧ u = z.2)) (XG E (fun En u => ∃ (z : Nat × PH) (n : Nat), r = .inr z ∧ En = exn z.1 ∧ hX z.2 ≤ n ∧ u = hbump z.2 n)) args s MC MS (pA E)) h 52 [] [.int t0] := by
  have hm1 : lez h (xT2 r) (vT2 r) := mX11_together_b52 hf
  have hcm : uc ≤ MC := (by have o0 := hm1.1; have o1 := hM; have o2 := hu; (try simp only [hX_sI, hX_sR, hX_sL, hX_sD, hX_sIa, hX_sRa, hV_sI, hV_sR, hV_sL, hV_sD, hV_sIa, hV_sRa, hX_new, hV_new] at o0 o1 o2 ⊢); omega)
  have hsm : us ≤ MS := (by have o0 := hm1.2; have o1 := hN; have o2 := hv; (try simp only [hX_sI, hX_sR, hX_sL, hX_sD, hX_sIa, hX_sRa, hV_sI, hV_sR, hV_sL, hV_sD, hV_sIa, hV_sRa, hX_new, hV_new] at o0 o1 o2 ⊢); omega)
  clear hm1
  unfold fX11_together_b52 at hf
  have er := Option.some.inj hf
  subst er
  refine p_vx ?_
  exact p_iret X rfl (dcg dc_X11_together 25 rfl) ⟨_, rfl, rfl, rfl⟩ hcm hsm
noncomputable def fX11_together_b36  (h : PH) : Option ((Int32 × PH) ⊕ (Nat × PH)) :=
  fX11_together_b52 (0 : Int32) h
set_option maxRecDepth 100000 in
theorem mX11_together_b36  {h : PH} {r : ((Int32 × PH) ⊕ (Nat × PH))} (hf : fX11_together_b36  h = some r) : lez h (xT2 r) (vT2 r) := by
  unfold fX11_together_b36 at hf
  have hle := lez_rf h
  exact lez_rt (mX11_together_b52 hf) hle
set_option maxRecDepth 100000 in
theorem wX11_together_b36 {E : PE} {p : Program} {l : Launch} {e : Env} {s : State} {m : MethodId} {args : Array Value} {below : List Frame} {meth : Method} {c : Code} {X0 V0 MC MS uc us : Nat} (X : Cx E p l e (rmv 9 MC MS) s m args below meth c RX11 cX11_together 5 (some .int)) (hG : Gs E l) (hex : ∀ x ∈ c.exceptionTable.toList, False)  {h : PH} {r : ((Int32 × PH) ⊕ (Nat × PH))} (hM : MC + X0 = (xT2 r)) (hN : MS + V0 = (vT2 r)) (hu : uc + X0 = hX h) (hv : us + V0 = hV h) (hf : fX11_together_b36  h = some r)  : PW E p l e (rmv 9 MC MS) s m args below meth c 5 uc us (vx_MQ below (QG E (fun v u => ∃ z, r = .inl z ∧ v = some (.int z.1) ∧ u = z.2)) (XG E (fun En u => ∃ (z : Nat × PH) (n : Nat), r = .inr z ∧ En = exn z.1 ∧ hX z.2 ≤ n ∧ u = hbump z.2 n)) args s MC MS (pA E)) h 36 [] [] := by
  have hm1 : lez h (xT2 r) (vT2 r) := mX11_together_b36 hf
  have hcm : uc ≤ MC := (by have o0 := hm1.1; have o1 := hM; have o2 := hu; (try simp only [hX_sI, hX_sR, hX_sL, hX_sD, hX_sIa, hX_sRa, hV_sI, hV_sR, hV_sL, hV_sD, hV_sIa, hV_sRa, hX_new, hV_new] at o0 o1 o2 ⊢); omega)
  have hsm : us ≤ MS := (by have o0 := hm1.2; have o1 := hN; have o2 := hv; (try simp only [hX_sI, hX_sR, hX_sL, hX_sD, hX_sIa, hX_sRa, hV_sI, hV_sR, hV_sL, hV_sD, hV_sIa, hV_sRa, hX_new, hV_new] at o0 o1 o2 ⊢); omega)
  clear hm1
  unfold fX11_together_b36 at hf
  refine p_iconst (v := 0) X (dcg dc_X11_together 18 rfl) (by decide) ?_
  refine p_goto (tgt := 52) X (dcg dc_X11_together 19 rfl) (by decide) ?_
  refine p_pick [] ?_
  exact wX11_together_b52 X hG hex hM hN hu hv hf 
noncomputable def fX11_together_b8 (v0 : Nat) (v1 : Int32) (v2 : Int32) (h : PH) : Option ((Int32 × PH) ⊕ (Nat × PH)) :=
  gd (hK h v0 = 11) (gs (hR h 11 v0 3) (fun a6 =>
  gd (hK h a6 = 3) (bd (fX3_find a6 v1 h) (fun z9 =>
  gs (hR h 11 v0 3) (fun a10 =>
  gd (hK h a10 = 3) (bd (fX3_find a10 v2 h) (fun z13 =>
  mq z9 (fX11_together_b36  h) (fun a14 =>
  mq z13 (fX11_together_b36  h) (fun a15 =>
  gd (hK h a14 = 10) (gd (hK h a15 = 10) (gs (hR h 10 a14 2) (fun a18 =>
  gd (hK h a18 = 9) (bd (fX9_shared a18 (hR h 10 a15 2) h) (fun z21 =>
  fX11_together_b52 z21 h))))))))))))))
set_option maxRecDepth 100000 in
theorem mX11_together_b8 {v0 : Nat} {v1 : Int32} {v2 : Int32} {h : PH} {r : ((Int32 × PH) ⊕ (Nat × PH))} (hf : fX11_together_b8 v0 v1 v2 h = some r) : lez h (xT2 r) (vT2 r) := by
  unfold fX11_together_b8 at hf
  have hle := lez_rf h
  obtain ⟨hk5, hf⟩ := gd_some hf
  obtain ⟨a6, e7, hf⟩ := gs_some hf
  obtain ⟨hk8, hf⟩ := gd_some hf
  obtain ⟨z9, hz9, hf⟩ := bd_some hf
  obtain ⟨a10, e11, hf⟩ := gs_some hf
  obtain ⟨hk12, hf⟩ := gd_some hf
  obtain ⟨z13, hz13, hf⟩ := bd_some hf
  rcases mq_or hf with ⟨q, hf⟩ | ⟨a14, q, hf⟩
  · have hf := mq_n q hf
    exact lez_rt (mX11_together_b36 hf) hle
  · have hk23 := mq_s q hf
    first | subst q | skip
    have hf := hk23
    rcases mq_or hf with ⟨q, hf⟩ | ⟨a15, q, hf⟩
    · have hf := mq_n q hf
      exact lez_rt (mX11_together_b36 hf) hle
    · have hk22 := mq_s q hf
      first | subst q | skip
      have hf := hk22
      obtain ⟨hk16, hf⟩ := gd_some hf
      obtain ⟨hk17, hf⟩ := gd_some hf
      obtain ⟨a18, e19, hf⟩ := gs_some hf
      obtain ⟨hk20, hf⟩ := gd_some hf
      obtain ⟨z21, hz21, hf⟩ := bd_some hf
      exact lez_rt (mX11_together_b52 hf) hle
set_option maxRecDepth 100000 in
theorem wX11_together_b8 {E : PE} {p : Program} {l : Launch} {e : Env} {s : State} {m : MethodId} {args : Array Value} {below : List Frame} {meth : Method} {c : Code} {X0 V0 MC MS uc us : Nat} (X : Cx E p l e (rmv 9 MC MS) s m args below meth c RX11 cX11_together 5 (some .int)) (hG : Gs E l) (hex : ∀ x ∈ c.exceptionTable.toList, False) {v0 : Nat} {v1 : Int32} {v2 : Int32} {h : PH} {r : ((Int32 × PH) ⊕ (Nat × PH))} (hM : MC + X0 = (xT2 r)) (hN : MS + V0 = (vT2 r)) (hu : uc + X0 = hX h) (hv : us + V0 = hV h) (hf : fX11_together_b8 v0 v1 v2 h = some r)  : PW E p l e (rmv 9 MC MS) s m args below meth c 5 uc us (vx_MQ below (QG E (fun v u => ∃ z, r = .inl z ∧ v = some (.int z.1) ∧ u = z.2)) (XG E (fun En u => ∃ (z : Nat × PH) (n : Nat), r = .inr z ∧ En = exn z.1 ∧ hX z.2 ≤ n ∧ u = hbump z.2 n)) args s MC MS (pA E)) h 8 [(0, some (.ref v0)), (1, some (.int v1)), (2, some (.int v2))] [] := by
  have hm1 : lez h (xT2 r) (vT2 r) := mX11_together_b8 hf
  have hcm : uc ≤ MC := (by have o0 := hm1.1; have o1 := hM; have o2 := hu; (try simp only [hX_sI, hX_sR, hX_sL, hX_sD, hX_sIa, hX_sRa, hV_sI, hV_sR, hV_sL, hV_sD, hV_sIa, hV_sRa, hX_new, hV_new] at o0 o1 o2 ⊢); omega)
  have hsm : us ≤ MS := (by have o0 := hm1.2; have o1 := hN; have o2 := hv; (try simp only [hX_sI, hX_sR, hX_sL, hX_sD, hX_sIa, hX_sRa, hV_sI, hV_sR, hV_sL, hV_sD, hV_sIa, hV_sRa, hX_new, hV_new] at o0 o1 o2 ⊢); omega)
  clear hm1
  unfold fX11_together_b8 at hf
  refine p_aload_n X (dcg dc_X11_together 4 rfl) rfl rfl ?_
  obtain ⟨hk5, hf⟩ := gd_some hf
  refine p_getR X fl_X11_34 rfl (by decide) (dcg dc_X11_together 5 rfl) hk5 ?_
  refine p_iload_n X (dcg dc_X11_together 6 rfl) rfl rfl ?_
  obtain ⟨a6, e7, hf⟩ := gs_some hf
  first | subst e7 | (try rw [e7])
  obtain ⟨hk8, hf⟩ := gd_some hf
  obtain ⟨z9, hz9, hf⟩ := bd_some hf
  refine p_callV (As := [_]) X ml_X11_194 (dcg dc_X11_together 7 rfl) rfl rfl hk8 (wX3_find hG hz9) (by decide) (room4 (Nat.le_of_ble_eq_true rfl)) hcm hsm ?_
  rintro _ u9 ⟨rfl, e9⟩; have e9 := e9.symm; subst e9
  refine p_astoreq_n X (dcg dc_X11_together 8 rfl) rfl (by decide) rfl ?_
  refine p_aload_n X (dcg dc_X11_together 9 rfl) rfl rfl ?_
  refine p_getR X fl_X11_34 rfl (by decide) (dcg dc_X11_together 10 rfl) hk5 ?_
  refine p_iload_n X (dcg dc_X11_together 11 rfl) rfl rfl ?_
  obtain ⟨a10, e11, hf⟩ := gs_some hf
  first | subst e11 | (try rw [e11])
  obtain ⟨hk12, hf⟩ := gd_some hf
  obtain ⟨z13, hz13, hf⟩ := bd_some hf
  refine p_callV (As := [_]) X ml_X11_194 (dcg dc_X11_together 12 rfl) rfl rfl hk12 (wX3_find hG hz13) (by decide) (room4 (Nat.le_of_ble_eq_true rfl)) hcm hsm ?_
  rintro _ u9 ⟨rfl, e9⟩; have e9 := e9.symm; subst e9
  refine p_astoreq X (dcg dc_X11_together 13 rfl) (by decide) (nwq (k := 3) rfl) ?_
  refine p_aloadq_n X (dcg dc_X11_together 14 rfl) rfl rfl ?_
  refine p_ifnull (tgt := 36) X (dcg dc_X11_together 15 rfl) (by decide) (fun q => ?_) (fun a14 q => ?_)
  · have hk23 := mq_n q hf
    first | subst q | (try rw [q])
    have hf := hk23
    refine p_pick [] ?_
    exact wX11_together_b36 X hG hex hM hN hu hv hf 
  · have hk23 := mq_s q hf
    first | subst q | (try rw [q])
    have hf := hk23
    refine p_aloadq X (dcg dc_X11_together 16 rfl) rfl ?_
    refine p_ifnonnull (tgt := 40) X (dcg dc_X11_together 17 rfl) (by decide) (fun a15 q => ?_) (fun q => ?_)
    · have hk22 := mq_s q hf
      first | subst q | (try rw [q])
      have hf := hk22
      refine p_aload_n X (dcg dc_X11_together 20 rfl) rfl rfl ?_
      obtain ⟨hk16, hf⟩ := gd_some hf
      refine p_getRn X fl_X11_198 rfl (by decide) (dcg dc_X11_together 21 rfl) hk16 ?_
      refine p_aload X (dcg dc_X11_together 22 rfl) rfl ?_
      obtain ⟨hk17, hf⟩ := gd_some hf
      refine p_getRn X fl_X11_198 rfl (by decide) (dcg dc_X11_together 23 rfl) hk17 ?_
      obtain ⟨a18, e19, hf⟩ := gs_some hf
      first | subst e19 | (try rw [e19])
      obtain ⟨hk20, hf⟩ := gd_some hf
      obtain ⟨z21, hz21, hf⟩ := bd_some hf
      refine p_callV (As := [va_rf _]) X ml_X11_219 (dcg dc_X11_together 24 rfl) rfl rfl hk20 (wX9_shared hG hz21) (by decide) (room4 (Nat.le_of_ble_eq_true rfl)) hcm hsm ?_
      rintro _ u9 ⟨rfl, e9⟩; have e9 := e9.symm; subst e9
      refine p_pick [] ?_
      exact wX11_together_b52 X hG hex hM hN hu hv hf 
    · have hk22 := mq_n q hf
      first | subst q | (try rw [q])
      have hf := hk22
      refine p_pick [] ?_
      exact wX11_together_b36 X hG hex hM hN hu hv hf 
noncomputable def fX11_together_b4 (v0 : Nat) (v1 : Int32) (v2 : Int32) (h : PH) : Option ((Int32 × PH) ⊕ (Nat × PH)) :=
  bx (fX11_demandWord v2 h) (fun z3 =>
  fX11_together_b8 v0 v1 v2 z3)
set_option maxRecDepth 100000 in
theorem mX11_together_b4 {v0 : Nat} {v1 : Int32} {v2 : Int32} {h : PH} {r : ((Int32 × PH) ⊕ (Nat × PH))} (hf : fX11_together_b4 v0 v1 v2 h = some r) : lez h (xT2 r) (vT2 r) := by
  unfold fX11_together_b4 at hf
  have hle := lez_rf h
  obtain ⟨y4, hy4, h1y4, h2y4⟩ := bx_some hf
  have hc1 := mX11_demandWord hy4
  rcases y4 with z3 | z3
  · have hf := h1y4 z3 rfl
    have hle : lez h (hX z3) (hV z3) := lez_rt hc1 hle
    exact lez_rt (mX11_together_b8 hf) hle
  · have hr9 := h2y4 z3 rfl
    subst hr9
    exact lez_rt hc1 hle
set_option maxRecDepth 100000 in
theorem wX11_together_b4 {E : PE} {p : Program} {l : Launch} {e : Env} {s : State} {m : MethodId} {args : Array Value} {below : List Frame} {meth : Method} {c : Code} {X0 V0 MC MS uc us : Nat} (X : Cx E p l e (rmv 9 MC MS) s m args below meth c RX11 cX11_together 5 (some .int)) (hG : Gs E l) (hex : ∀ x ∈ c.exceptionTable.toList, False) {v0 : Nat} {v1 : Int32} {v2 : Int32} {h : PH} {r : ((Int32 × PH) ⊕ (Nat × PH))} (hM : MC + X0 = (xT2 r)) (hN : MS + V0 = (vT2 r)) (hu : uc + X0 = hX h) (hv : us + V0 = hV h) (hf : fX11_together_b4 v0 v1 v2 h = some r)  : PW E p l e (rmv 9 MC MS) s m args below meth c 5 uc us (vx_MQ below (QG E (fun v u => ∃ z, r = .inl z ∧ v = some (.int z.1) ∧ u = z.2)) (XG E (fun En u => ∃ (z : Nat × PH) (n : Nat), r = .inr z ∧ En = exn z.1 ∧ hX z.2 ≤ n ∧ u = hbump z.2 n)) args s MC MS (pA E)) h 4 [(0, some (.ref v0)), (1, some (.int v1)), (2, some (.int v2))] [] := by
  have hm1 : lez h (xT2 r) (vT2 r) := mX11_together_b4 hf
  have hcm : uc ≤ MC := (by have o0 := hm1.1; have o1 := hM; have o2 := hu; (try simp only [hX_sI, hX_sR, hX_sL, hX_sD, hX_sIa, hX_sRa, hV_sI, hV_sR, hV_sL, hV_sD, hV_sIa, hV_sRa, hX_new, hV_new] at o0 o1 o2 ⊢); omega)
  have hsm : us ≤ MS := (by have o0 := hm1.2; have o1 := hN; have o2 := hv; (try simp only [hX_sI, hX_sR, hX_sL, hX_sD, hX_sIa, hX_sRa, hV_sI, hV_sR, hV_sL, hV_sD, hV_sIa, hV_sRa, hX_new, hV_new] at o0 o1 o2 ⊢); omega)
  clear hm1
  unfold fX11_together_b4 at hf
  refine p_iload_n X (dcg dc_X11_together 2 rfl) rfl rfl ?_
  obtain ⟨y4, hy4, h1y4, h2y4⟩ := bx_some hf
  have hc1 := mX11_demandWord hy4
  rcases y4 with z3 | z3
  · have hf := h1y4 z3 rfl
    have hm1 : lez _ (xT2 r) (vT2 r) := mX11_together_b8 hf
    refine p_callSX (As := [_]) X hex ml_X11_128 (dcg dc_X11_together 3 rfl) rfl rfl  (wX11_demandWord hG hy4) (by decide) (room4 (Nat.le_of_ble_eq_true rfl)) (show uc + (hX z3 - hX h) ≤ MC from (by have o0 := hm1.1; have o1 := (show lez h (hX z3) (hV z3) from hc1).1; have o2 := hM; have o3 := hu; (try simp only [hX_sI, hX_sR, hX_sL, hX_sD, hX_sIa, hX_sRa, hV_sI, hV_sR, hV_sL, hV_sD, hV_sIa, hV_sRa, hX_new, hV_new] at o0 o1 o2 o3 ⊢); omega)) (show us + (hV z3 - hV h) ≤ MS from (by have o0 := hm1.2; have o1 := (show lez h (hX z3) (hV z3) from hc1).2; have o2 := hN; have o3 := hv; (try simp only [hX_sI, hX_sR, hX_sL, hX_sD, hX_sIa, hX_sRa, hV_sI, hV_sR, hV_sL, hV_sD, hV_sIa, hV_sRa, hX_new, hV_new] at o0 o1 o2 o3 ⊢); omega)) (show uc + (hX z3 - hX h) ≤ MC from (by have o0 := hm1.1; have o1 := (show lez h (hX z3) (hV z3) from hc1).1; have o2 := hM; have o3 := hu; (try simp only [hX_sI, hX_sR, hX_sL, hX_sD, hX_sIa, hX_sRa, hV_sI, hV_sR, hV_sL, hV_sD, hV_sIa, hV_sRa, hX_new, hV_new] at o0 o1 o2 o3 ⊢); omega)) (show us + (hV z3 - hV h) ≤ MS from (by have o0 := hm1.2; have o1 := (show lez h (hX z3) (hV z3) from hc1).2; have o2 := hN; have o3 := hv; (try simp only [hX_sI, hX_sR, hX_sL, hX_sD, hX_sIa, hX_sRa, hV_sI, hV_sR, hV_sL, hV_sD, hV_sIa, hV_sRa, hX_new, hV_new] at o0 o1 o2 o3 ⊢); omega)) (fun En u q => by obtain ⟨z9, n9, q9, _⟩ := q; cases q9) ?_
    rintro _ _ ⟨z9, hz9, rfl, rfl⟩
    cases hz9
    refine p_pick [0, 1, 2] ?_
    exact wX11_together_b8 X hG hex hM hN (show uc + (hX z3 - hX h) + X0 = hX z3 from (by have o0 := (show lez h (hX z3) (hV z3) from hc1).1; have o1 := hu; (try simp only [hX_sI, hX_sR, hX_sL, hX_sD, hX_sIa, hX_sRa, hV_sI, hV_sR, hV_sL, hV_sD, hV_sIa, hV_sRa, hX_new, hV_new] at o0 o1 ⊢); omega)) (show us + (hV z3 - hV h) + V0 = hV z3 from (by have o0 := (show lez h (hX z3) (hV z3) from hc1).2; have o1 := hv; (try simp only [hX_sI, hX_sR, hX_sL, hX_sD, hX_sIa, hX_sRa, hV_sI, hV_sR, hV_sL, hV_sD, hV_sIa, hV_sRa, hX_new, hV_new] at o0 o1 ⊢); omega)) hf 
  · have hr9 := h2y4 z3 rfl
    subst hr9
    refine p_callSX (As := [_]) X hex ml_X11_128 (dcg dc_X11_together 3 rfl) rfl rfl  (wX11_demandWord hG hy4) (by decide) (room4 (Nat.le_of_ble_eq_true rfl)) (show uc + (hX z3.2 + 1 - hX h) ≤ MC from (by have o0 := (show lez h (hX z3.2 + 1) (hV z3.2 + 6) from hc1).1; have o1 := (show MC + X0 = hX z3.2 + 1 from hM); have o2 := hu; (try simp only [hX_sI, hX_sR, hX_sL, hX_sD, hX_sIa, hX_sRa, hV_sI, hV_sR, hV_sL, hV_sD, hV_sIa, hV_sRa, hX_new, hV_new] at o0 o1 o2 ⊢); omega)) (show us + (hV z3.2 + 6 - hV h) ≤ MS from (by have o0 := (show lez h (hX z3.2 + 1) (hV z3.2 + 6) from hc1).2; have o1 := (show MS + V0 = hV z3.2 + 6 from hN); have o2 := hv; (try simp only [hX_sI, hX_sR, hX_sL, hX_sD, hX_sIa, hX_sRa, hV_sI, hV_sR, hV_sL, hV_sD, hV_sIa, hV_sRa, hX_new, hV_new] at o0 o1 o2 ⊢); omega)) (show uc + (hX z3.2 + 1 - hX h) ≤ MC from (by have o0 := (show lez h (hX z3.2 + 1) (hV z3.2 + 6) from hc1).1; have o1 := (show MC + X0 = hX z3.2 + 1 from hM); have o2 := hu; (try simp only [hX_sI, hX_sR, hX_sL, hX_sD, hX_sIa, hX_sRa, hV_sI, hV_sR, hV_sL, hV_sD, hV_sIa, hV_sRa, hX_new, hV_new] at o0 o1 o2 ⊢); omega)) (show us + (hV z3.2 + 6 - hV h) ≤ MS from (by have o0 := (show lez h (hX z3.2 + 1) (hV z3.2 + 6) from hc1).2; have o1 := (show MS + V0 = hV z3.2 + 6 from hN); have o2 := hv; (try simp only [hX_sI, hX_sR, hX_sL, hX_sD, hX_sIa, hX_sRa, hV_sI, hV_sR, hV_sL, hV_sD, hV_sIa, hV_sRa, hX_new, hV_new] at o0 o1 o2 ⊢); omega)) (fun En u q => by obtain ⟨z9, n9, q9, q8⟩ := q; cases q9; exact ⟨_, n9, rfl, q8⟩) ?_
    rintro _ _ ⟨z9, hz9, _⟩
    cases hz9
noncomputable def fX11_together_b0 (v0 : Nat) (v1 : Int32) (v2 : Int32) (h : PH) : Option ((Int32 × PH) ⊕ (Nat × PH)) :=
  bx (fX11_demandWord v1 h) (fun z1 =>
  fX11_together_b4 v0 v1 v2 z1)
set_option maxRecDepth 100000 in
theorem mX11_together_b0 {v0 : Nat} {v1 : Int32} {v2 : Int32} {h : PH} {r : ((Int32 × PH) ⊕ (Nat × PH))} (hf : fX11_together_b0 v0 v1 v2 h = some r) : lez h (xT2 r) (vT2 r) := by
  unfold fX11_together_b0 at hf
  have hle := lez_rf h
  obtain ⟨y2, hy2, h1y2, h2y2⟩ := bx_some hf
  have hc1 := mX11_demandWord hy2
  rcases y2 with z1 | z1
  · have hf := h1y2 z1 rfl
    have hle : lez h (hX z1) (hV z1) := lez_rt hc1 hle
    exact lez_rt (mX11_together_b4 hf) hle
  · have hr9 := h2y2 z1 rfl
    subst hr9
    exact lez_rt hc1 hle
set_option maxRecDepth 100000 in
theorem wX11_together_b0 {E : PE} {p : Program} {l : Launch} {e : Env} {s : State} {m : MethodId} {args : Array Value} {below : List Frame} {meth : Method} {c : Code} {X0 V0 MC MS uc us : Nat} (X : Cx E p l e (rmv 9 MC MS) s m args below meth c RX11 cX11_together 5 (some .int)) (hG : Gs E l) (hex : ∀ x ∈ c.exceptionTable.toList, False) {v0 : Nat} {v1 : Int32} {v2 : Int32} {h : PH} {r : ((Int32 × PH) ⊕ (Nat × PH))} (hM : MC + X0 = (xT2 r)) (hN : MS + V0 = (vT2 r)) (hu : uc + X0 = hX h) (hv : us + V0 = hV h) (hf : fX11_together_b0 v0 v1 v2 h = some r)  : PW E p l e (rmv 9 MC MS) s m args below meth c 5 uc us (vx_MQ below (QG E (fun v u => ∃ z, r = .inl z ∧ v = some (.int z.1) ∧ u = z.2)) (XG E (fun En u => ∃ (z : Nat × PH) (n : Nat), r = .inr z ∧ En = exn z.1 ∧ hX z.2 ≤ n ∧ u = hbump z.2 n)) args s MC MS (pA E)) h 0 [(0, some (.ref v0)), (1, some (.int v1)), (2, some (.int v2))] [] := by
  have hm1 : lez h (xT2 r) (vT2 r) := mX11_together_b0 hf
  have hcm : uc ≤ MC := (by have o0 := hm1.1; have o1 := hM; have o2 := hu; (try simp only [hX_sI, hX_sR, hX_sL, hX_sD, hX_sIa, hX_sRa, hV_sI, hV_sR, hV_sL, hV_sD, hV_sIa, hV_sRa, hX_new, hV_new] at o0 o1 o2 ⊢); omega)
  have hsm : us ≤ MS := (by have o0 := hm1.2; have o1 := hN; have o2 := hv; (try simp only [hX_sI, hX_sR, hX_sL, hX_sD, hX_sIa, hX_sRa, hV_sI, hV_sR, hV_sL, hV_sD, hV_sIa, hV_sRa, hX_new, hV_new] at o0 o1 o2 ⊢); omega)
  clear hm1
  unfold fX11_together_b0 at hf
  refine p_iload_n X (dcg dc_X11_together 0 rfl) rfl rfl ?_
  obtain ⟨y2, hy2, h1y2, h2y2⟩ := bx_some hf
  have hc1 := mX11_demandWord hy2
  rcases y2 with z1 | z1
  · have hf := h1y2 z1 rfl
    have hm1 : lez _ (xT2 r) (vT2 r) := mX11_together_b4 hf
    refine p_callSX (As := [_]) X hex ml_X11_128 (dcg dc_X11_together 1 rfl) rfl rfl  (wX11_demandWord hG hy2) (by decide) (room4 (Nat.le_of_ble_eq_true rfl)) (show uc + (hX z1 - hX h) ≤ MC from (by have o0 := hm1.1; have o1 := (show lez h (hX z1) (hV z1) from hc1).1; have o2 := hM; have o3 := hu; (try simp only [hX_sI, hX_sR, hX_sL, hX_sD, hX_sIa, hX_sRa, hV_sI, hV_sR, hV_sL, hV_sD, hV_sIa, hV_sRa, hX_new, hV_new] at o0 o1 o2 o3 ⊢); omega)) (show us + (hV z1 - hV h) ≤ MS from (by have o0 := hm1.2; have o1 := (show lez h (hX z1) (hV z1) from hc1).2; have o2 := hN; have o3 := hv; (try simp only [hX_sI, hX_sR, hX_sL, hX_sD, hX_sIa, hX_sRa, hV_sI, hV_sR, hV_sL, hV_sD, hV_sIa, hV_sRa, hX_new, hV_new] at o0 o1 o2 o3 ⊢); omega)) (show uc + (hX z1 - hX h) ≤ MC from (by have o0 := hm1.1; have o1 := (show lez h (hX z1) (hV z1) from hc1).1; have o2 := hM; have o3 := hu; (try simp only [hX_sI, hX_sR, hX_sL, hX_sD, hX_sIa, hX_sRa, hV_sI, hV_sR, hV_sL, hV_sD, hV_sIa, hV_sRa, hX_new, hV_new] at o0 o1 o2 o3 ⊢); omega)) (show us + (hV z1 - hV h) ≤ MS from (by have o0 := hm1.2; have o1 := (show lez h (hX z1) (hV z1) from hc1).2; have o2 := hN; have o3 := hv; (try simp only [hX_sI, hX_sR, hX_sL, hX_sD, hX_sIa, hX_sRa, hV_sI, hV_sR, hV_sL, hV_sD, hV_sIa, hV_sRa, hX_new, hV_new] at o0 o1 o2 o3 ⊢); omega)) (fun En u q => by obtain ⟨z9, n9, q9, _⟩ := q; cases q9) ?_
    rintro _ _ ⟨z9, hz9, rfl, rfl⟩
    cases hz9
    refine p_pick [0, 1, 2] ?_
    exact wX11_together_b4 X hG hex hM hN (show uc + (hX z1 - hX h) + X0 = hX z1 from (by have o0 := (show lez h (hX z1) (hV z1) from hc1).1; have o1 := hu; (try simp only [hX_sI, hX_sR, hX_sL, hX_sD, hX_sIa, hX_sRa, hV_sI, hV_sR, hV_sL, hV_sD, hV_sIa, hV_sRa, hX_new, hV_new] at o0 o1 ⊢); omega)) (show us + (hV z1 - hV h) + V0 = hV z1 from (by have o0 := (show lez h (hX z1) (hV z1) from hc1).2; have o1 := hv; (try simp only [hX_sI, hX_sR, hX_sL, hX_sD, hX_sIa, hX_sRa, hV_sI, hV_sR, hV_sL, hV_sD, hV_sIa, hV_sRa, hX_new, hV_new] at o0 o1 ⊢); omega)) hf 
  · have hr9 := h2y2 z1 rfl
    subst hr9
    refine p_callSX (As := [_]) X hex ml_X11_128 (dcg dc_X11_together 1 rfl) rfl rfl  (wX11_demandWord hG hy2) (by decide) (room4 (Nat.le_of_ble_eq_true rfl)) (show uc + (hX z1.2 + 1 - hX h) ≤ MC from (by have o0 := (show lez h (hX z1.2 + 1) (hV z1.2 + 6) from hc1).1; have o1 := (show MC + X0 = hX z1.2 + 1 from hM); have o2 := hu; (try simp only [hX_sI, hX_sR, hX_sL, hX_sD, hX_sIa, hX_sRa, hV_sI, hV_sR, hV_sL, hV_sD, hV_sIa, hV_sRa, hX_new, hV_new] at o0 o1 o2 ⊢); omega)) (show us + (hV z1.2 + 6 - hV h) ≤ MS from (by have o0 := (show lez h (hX z1.2 + 1) (hV z1.2 + 6) from hc1).2; have o1 := (show MS + V0 = hV z1.2 + 6 from hN); have o2 := hv; (try simp only [hX_sI, hX_sR, hX_sL, hX_sD, hX_sIa, hX_sRa, hV_sI, hV_sR, hV_sL, hV_sD, hV_sIa, hV_sRa, hX_new, hV_new] at o0 o1 o2 ⊢); omega)) (show uc + (hX z1.2 + 1 - hX h) ≤ MC from (by have o0 := (show lez h (hX z1.2 + 1) (hV z1.2 + 6) from hc1).1; have o1 := (show MC + X0 = hX z1.2 + 1 from hM); have o2 := hu; (try simp only [hX_sI, hX_sR, hX_sL, hX_sD, hX_sIa, hX_sRa, hV_sI, hV_sR, hV_sL, hV_sD, hV_sIa, hV_sRa, hX_new, hV_new] at o0 o1 o2 ⊢); omega)) (show us + (hV z1.2 + 6 - hV h) ≤ MS from (by have o0 := (show lez h (hX z1.2 + 1) (hV z1.2 + 6) from hc1).2; have o1 := (show MS + V0 = hV z1.2 + 6 from hN); have o2 := hv; (try simp only [hX_sI, hX_sR, hX_sL, hX_sD, hX_sIa, hX_sRa, hV_sI, hV_sR, hV_sL, hV_sD, hV_sIa, hV_sRa, hX_new, hV_new] at o0 o1 o2 ⊢); omega)) (fun En u q => by obtain ⟨z9, n9, q9, q8⟩ := q; cases q9; exact ⟨_, n9, rfl, q8⟩) ?_
    rintro _ _ ⟨z9, hz9, _⟩
    cases hz9
noncomputable def fX11_together (v0 : Nat) (v1 : Int32) (v2 : Int32) (h : PH) : Option ((Int32 × PH) ⊕ (Nat × PH)) :=
  fX11_together_b0 v0 v1 v2 h
set_option maxRecDepth 100000 in
theorem mX11_together {v0 : Nat} {v1 : Int32} {v2 : Int32} {h : PH} {r : ((Int32 × PH) ⊕ (Nat × PH))} (hf : fX11_together v0 v1 v2 h = some r) : lez h (xT2 r) (vT2 r) := by
  unfold fX11_together at hf
  have hle := lez_rf h
  exact lez_rt (mX11_together_b0 hf) hle
set_option maxRecDepth 100000 in
theorem wX11_together {E : PE} {l : Launch} (hG : Gs E l) {v0 : Nat} {v1 : Int32} {v2 : Int32} {h : PH} {r : ((Int32 × PH) ⊕ (Nat × PH))} (hf : fX11_together v0 v1 v2 h = some r) : CtX E l 9 ((xT2 r) - hX h) ((vT2 r) - hV h) yX11_together cX11_together 5 (some .int) [.ref v0, .int v1, .int v2] h (fun v u => ∃ z, r = .inl z ∧ v = some (.int z.1) ∧ u = z.2) (fun En u => ∃ (z : Nat × PH) (n : Nat), r = .inr z ∧ En = exn z.1 ∧ hX z.2 ≤ n ∧ u = hbump z.2 n) := by
  have hmm := mX11_together hf
  refine ctx_of hG (by decide) (Nat.le_of_ble_eq_true rfl) ?_
  intro p e s m args below meth c X hex
  show PW E p l e _ s m args below meth c _ 0 0 _ h 0 [(0, some (.ref v0)), (1, some (.int v1)), (2, some (.int v2))] []
  unfold fX11_together at hf
  have hM := Nat.sub_add_cancel hmm.1
  have hN := Nat.sub_add_cancel hmm.2
  refine p_pick [0, 1, 2] ?_
  exact wX11_together_b0 X hG hex hM hN (Nat.zero_add _) (Nat.zero_add _) hf
theorem dc_X11_companion : decs cX11_companion [(0, .iload_n 1, 1), (1, .invokestatic 128, 3), (4, .aload_n 0, 1), (5, .getfield 34, 3), (8, .iload_n 1, 1), (9, .invokevirtual 223, 3), (12, .ireturn, 1)] = true := by decide +kernel
noncomputable def fX11_companion_b4 (v0 : Nat) (v1 : Int32) (h : PH) : Option ((Int32 × PH) ⊕ (Nat × PH)) :=
  gd (hK h v0 = 11) (gs (hR h 11 v0 3) (fun a4 =>
  gd (hK h a4 = 3) (bd (fX3_companionOf a4 v1 h) (fun z7 =>
  some (.inl ((z7, h)))))))
set_option maxRecDepth 100000 in
theorem mX11_companion_b4 {v0 : Nat} {v1 : Int32} {h : PH} {r : ((Int32 × PH) ⊕ (Nat × PH))} (hf : fX11_companion_b4 v0 v1 h = some r) : lez h (xT2 r) (vT2 r) := by
  unfold fX11_companion_b4 at hf
  have hle := lez_rf h
  obtain ⟨hk3, hf⟩ := gd_some hf
  obtain ⟨a4, e5, hf⟩ := gs_some hf
  obtain ⟨hk6, hf⟩ := gd_some hf
  obtain ⟨z7, hz7, hf⟩ := bd_some hf
  have ee := Option.some.inj hf; subst ee; exact hle
set_option maxRecDepth 100000 in
theorem wX11_companion_b4 {E : PE} {p : Program} {l : Launch} {e : Env} {s : State} {m : MethodId} {args : Array Value} {below : List Frame} {meth : Method} {c : Code} {X0 V0 MC MS uc us : Nat} (X : Cx E p l e (rmv 9 MC MS) s m args below meth c RX11 cX11_companion 2 (some .int)) (hG : Gs E l) (hex : ∀ x ∈ c.exceptionTable.toList, False) {v0 : Nat} {v1 : Int32} {h : PH} {r : ((Int32 × PH) ⊕ (Nat × PH))} (hM : MC + X0 = (xT2 r)) (hN : MS + V0 = (vT2 r)) (hu : uc + X0 = hX h) (hv : us + V0 = hV h) (hf : fX11_companion_b4 v0 v1 h = some r)  : PW E p l e (rmv 9 MC MS) s m args below meth c 2 uc us (vx_MQ below (QG E (fun v u => ∃ z, r = .inl z ∧ v = some (.int z.1) ∧ u = z.2)) (XG E (fun En u => ∃ (z : Nat × PH) (n : Nat), r = .inr z ∧ En = exn z.1 ∧ hX z.2 ≤ n ∧ u = hbump z.2 n)) args s MC MS (pA E)) h 4 [(0, some (.ref v0)), (1, some (.int v1))] [] := by
  have hm1 : lez h (xT2 r) (vT2 r) := mX11_companion_b4 hf
  have hcm : uc ≤ MC := (by have o0 := hm1.1; have o1 := hM; have o2 := hu; (try simp only [hX_sI, hX_sR, hX_sL, hX_sD, hX_sIa, hX_sRa, hV_sI, hV_sR, hV_sL, hV_sD, hV_sIa, hV_sRa, hX_new, hV_new] at o0 o1 o2 ⊢); omega)
  have hsm : us ≤ MS := (by have o0 := hm1.2; have o1 := hN; have o2 := hv; (try simp only [hX_sI, hX_sR, hX_sL, hX_sD, hX_sIa, hX_sRa, hV_sI, hV_sR, hV_sL, hV_sD, hV_sIa, hV_sRa, hX_new, hV_new] at o0 o1 o2 ⊢); omega)
  clear hm1
  unfold fX11_companion_b4 at hf
  refine p_aload_n X (dcg dc_X11_companion 2 rfl) rfl rfl ?_
  obtain ⟨hk3, hf⟩ := gd_some hf
  refine p_getR X fl_X11_34 rfl (by decide) (dcg dc_X11_companion 3 rfl) hk3 ?_
  refine p_iload_n X (dcg dc_X11_companion 4 rfl) rfl rfl ?_
  obtain ⟨a4, e5, hf⟩ := gs_some hf
  first | subst e5 | (try rw [e5])
  obtain ⟨hk6, hf⟩ := gd_some hf
  obtain ⟨z7, hz7, hf⟩ := bd_some hf
  refine p_callV (As := [_]) X ml_X11_223 (dcg dc_X11_companion 5 rfl) rfl rfl hk6 (wX3_companionOf hG hz7) (by decide) (room4 (Nat.le_of_ble_eq_true rfl)) hcm hsm ?_
  rintro _ u9 ⟨rfl, e9⟩; have e9 := e9.symm; subst e9
  have er := Option.some.inj hf
  subst er
  refine p_vx ?_
  exact p_iret X rfl (dcg dc_X11_companion 6 rfl) ⟨_, rfl, rfl, rfl⟩ hcm hsm
noncomputable def fX11_companion_b0 (v0 : Nat) (v1 : Int32) (h : PH) : Option ((Int32 × PH) ⊕ (Nat × PH)) :=
  bx (fX11_demandWord v1 h) (fun z1 =>
  fX11_companion_b4 v0 v1 z1)
set_option maxRecDepth 100000 in
theorem mX11_companion_b0 {v0 : Nat} {v1 : Int32} {h : PH} {r : ((Int32 × PH) ⊕ (Nat × PH))} (hf : fX11_companion_b0 v0 v1 h = some r) : lez h (xT2 r) (vT2 r) := by
  unfold fX11_companion_b0 at hf
  have hle := lez_rf h
  obtain ⟨y2, hy2, h1y2, h2y2⟩ := bx_some hf
  have hc1 := mX11_demandWord hy2
  rcases y2 with z1 | z1
  · have hf := h1y2 z1 rfl
    have hle : lez h (hX z1) (hV z1) := lez_rt hc1 hle
    exact lez_rt (mX11_companion_b4 hf) hle
  · have hr9 := h2y2 z1 rfl
    subst hr9
    exact lez_rt hc1 hle
set_option maxRecDepth 100000 in
theorem wX11_companion_b0 {E : PE} {p : Program} {l : Launch} {e : Env} {s : State} {m : MethodId} {args : Array Value} {below : List Frame} {meth : Method} {c : Code} {X0 V0 MC MS uc us : Nat} (X : Cx E p l e (rmv 9 MC MS) s m args below meth c RX11 cX11_companion 2 (some .int)) (hG : Gs E l) (hex : ∀ x ∈ c.exceptionTable.toList, False) {v0 : Nat} {v1 : Int32} {h : PH} {r : ((Int32 × PH) ⊕ (Nat × PH))} (hM : MC + X0 = (xT2 r)) (hN : MS + V0 = (vT2 r)) (hu : uc + X0 = hX h) (hv : us + V0 = hV h) (hf : fX11_companion_b0 v0 v1 h = some r)  : PW E p l e (rmv 9 MC MS) s m args below meth c 2 uc us (vx_MQ below (QG E (fun v u => ∃ z, r = .inl z ∧ v = some (.int z.1) ∧ u = z.2)) (XG E (fun En u => ∃ (z : Nat × PH) (n : Nat), r = .inr z ∧ En = exn z.1 ∧ hX z.2 ≤ n ∧ u = hbump z.2 n)) args s MC MS (pA E)) h 0 [(0, some (.ref v0)), (1, some (.int v1))] [] := by
  have hm1 : lez h (xT2 r) (vT2 r) := mX11_companion_b0 hf
  have hcm : uc ≤ MC := (by have o0 := hm1.1; have o1 := hM; have o2 := hu; (try simp only [hX_sI, hX_sR, hX_sL, hX_sD, hX_sIa, hX_sRa, hV_sI, hV_sR, hV_sL, hV_sD, hV_sIa, hV_sRa, hX_new, hV_new] at o0 o1 o2 ⊢); omega)
  have hsm : us ≤ MS := (by have o0 := hm1.2; have o1 := hN; have o2 := hv; (try simp only [hX_sI, hX_sR, hX_sL, hX_sD, hX_sIa, hX_sRa, hV_sI, hV_sR, hV_sL, hV_sD, hV_sIa, hV_sRa, hX_new, hV_new] at o0 o1 o2 ⊢); omega)
  clear hm1
  unfold fX11_companion_b0 at hf
  refine p_iload_n X (dcg dc_X11_companion 0 rfl) rfl rfl ?_
  obtain ⟨y2, hy2, h1y2, h2y2⟩ := bx_some hf
  have hc1 := mX11_demandWord hy2
  rcases y2 with z1 | z1
  · have hf := h1y2 z1 rfl
    have hm1 : lez _ (xT2 r) (vT2 r) := mX11_companion_b4 hf
    refine p_callSX (As := [_]) X hex ml_X11_128 (dcg dc_X11_companion 1 rfl) rfl rfl  (wX11_demandWord hG hy2) (by decide) (room4 (Nat.le_of_ble_eq_true rfl)) (show uc + (hX z1 - hX h) ≤ MC from (by have o0 := hm1.1; have o1 := (show lez h (hX z1) (hV z1) from hc1).1; have o2 := hM; have o3 := hu; (try simp only [hX_sI, hX_sR, hX_sL, hX_sD, hX_sIa, hX_sRa, hV_sI, hV_sR, hV_sL, hV_sD, hV_sIa, hV_sRa, hX_new, hV_new] at o0 o1 o2 o3 ⊢); omega)) (show us + (hV z1 - hV h) ≤ MS from (by have o0 := hm1.2; have o1 := (show lez h (hX z1) (hV z1) from hc1).2; have o2 := hN; have o3 := hv; (try simp only [hX_sI, hX_sR, hX_sL, hX_sD, hX_sIa, hX_sRa, hV_sI, hV_sR, hV_sL, hV_sD, hV_sIa, hV_sRa, hX_new, hV_new] at o0 o1 o2 o3 ⊢); omega)) (show uc + (hX z1 - hX h) ≤ MC from (by have o0 := hm1.1; have o1 := (show lez h (hX z1) (hV z1) from hc1).1; have o2 := hM; have o3 := hu; (try simp only [hX_sI, hX_sR, hX_sL, hX_sD, hX_sIa, hX_sRa, hV_sI, hV_sR, hV_sL, hV_sD, hV_sIa, hV_sRa, hX_new, hV_new] at o0 o1 o2 o3 ⊢); omega)) (show us + (hV z1 - hV h) ≤ MS from (by have o0 := hm1.2; have o1 := (show lez h (hX z1) (hV z1) from hc1).2; have o2 := hN; have o3 := hv; (try simp only [hX_sI, hX_sR, hX_sL, hX_sD, hX_sIa, hX_sRa, hV_sI, hV_sR, hV_sL, hV_sD, hV_sIa, hV_sRa, hX_new, hV_new] at o0 o1 o2 o3 ⊢); omega)) (fun En u q => by obtain ⟨z9, n9, q9, _⟩ := q; cases q9) ?_
    rintro _ _ ⟨z9, hz9, rfl, rfl⟩
    cases hz9
    refine p_pick [0, 1] ?_
    exact wX11_companion_b4 X hG hex hM hN (show uc + (hX z1 - hX h) + X0 = hX z1 from (by have o0 := (show lez h (hX z1) (hV z1) from hc1).1; have o1 := hu; (try simp only [hX_sI, hX_sR, hX_sL, hX_sD, hX_sIa, hX_sRa, hV_sI, hV_sR, hV_sL, hV_sD, hV_sIa, hV_sRa, hX_new, hV_new] at o0 o1 ⊢); omega)) (show us + (hV z1 - hV h) + V0 = hV z1 from (by have o0 := (show lez h (hX z1) (hV z1) from hc1).2; have o1 := hv; (try simp only [hX_sI, hX_sR, hX_sL, hX_sD, hX_sIa, hX_sRa, hV_sI, hV_sR, hV_sL, hV_sD, hV_sIa, hV_sRa, hX_new, hV_new] at o0 o1 ⊢); omega)) hf 
  · have hr9 := h2y2 z1 rfl
    subst hr9
    refine p_callSX (As := [_]) X hex ml_X11_128 (dcg dc_X11_companion 1 rfl) rfl rfl  (wX11_demandWord hG hy2) (by decide) (room4 (Nat.le_of_ble_eq_true rfl)) (show uc + (hX z1.2 + 1 - hX h) ≤ MC from (by have o0 := (show lez h (hX z1.2 + 1) (hV z1.2 + 6) from hc1).1; have o1 := (show MC + X0 = hX z1.2 + 1 from hM); have o2 := hu; (try simp only [hX_sI, hX_sR, hX_sL, hX_sD, hX_sIa, hX_sRa, hV_sI, hV_sR, hV_sL, hV_sD, hV_sIa, hV_sRa, hX_new, hV_new] at o0 o1 o2 ⊢); omega)) (show us + (hV z1.2 + 6 - hV h) ≤ MS from (by have o0 := (show lez h (hX z1.2 + 1) (hV z1.2 + 6) from hc1).2; have o1 := (show MS + V0 = hV z1.2 + 6 from hN); have o2 := hv; (try simp only [hX_sI, hX_sR, hX_sL, hX_sD, hX_sIa, hX_sRa, hV_sI, hV_sR, hV_sL, hV_sD, hV_sIa, hV_sRa, hX_new, hV_new] at o0 o1 o2 ⊢); omega)) (show uc + (hX z1.2 + 1 - hX h) ≤ MC from (by have o0 := (show lez h (hX z1.2 + 1) (hV z1.2 + 6) from hc1).1; have o1 := (show MC + X0 = hX z1.2 + 1 from hM); have o2 := hu; (try simp only [hX_sI, hX_sR, hX_sL, hX_sD, hX_sIa, hX_sRa, hV_sI, hV_sR, hV_sL, hV_sD, hV_sIa, hV_sRa, hX_new, hV_new] at o0 o1 o2 ⊢); omega)) (show us + (hV z1.2 + 6 - hV h) ≤ MS from (by have o0 := (show lez h (hX z1.2 + 1) (hV z1.2 + 6) from hc1).2; have o1 := (show MS + V0 = hV z1.2 + 6 from hN); have o2 := hv; (try simp only [hX_sI, hX_sR, hX_sL, hX_sD, hX_sIa, hX_sRa, hV_sI, hV_sR, hV_sL, hV_sD, hV_sIa, hV_sRa, hX_new, hV_new] at o0 o1 o2 ⊢); omega)) (fun En u q => by obtain ⟨z9, n9, q9, q8⟩ := q; cases q9; exact ⟨_, n9, rfl, q8⟩) ?_
    rintro _ _ ⟨z9, hz9, _⟩
    cases hz9
noncomputable def fX11_companion (v0 : Nat) (v1 : Int32) (h : PH) : Option ((Int32 × PH) ⊕ (Nat × PH)) :=
  fX11_companion_b0 v0 v1 h
set_option maxRecDepth 100000 in
theorem mX11_companion {v0 : Nat} {v1 : Int32} {h : PH} {r : ((Int32 × PH) ⊕ (Nat × PH))} (hf : fX11_companion v0 v1 h = some r) : lez h (xT2 r) (vT2 r) := by
  unfold fX11_companion at hf
  have hle := lez_rf h
  exact lez_rt (mX11_companion_b0 hf) hle
set_option maxRecDepth 100000 in
theorem wX11_companion {E : PE} {l : Launch} (hG : Gs E l) {v0 : Nat} {v1 : Int32} {h : PH} {r : ((Int32 × PH) ⊕ (Nat × PH))} (hf : fX11_companion v0 v1 h = some r) : CtX E l 9 ((xT2 r) - hX h) ((vT2 r) - hV h) yX11_companion cX11_companion 2 (some .int) [.ref v0, .int v1] h (fun v u => ∃ z, r = .inl z ∧ v = some (.int z.1) ∧ u = z.2) (fun En u => ∃ (z : Nat × PH) (n : Nat), r = .inr z ∧ En = exn z.1 ∧ hX z.2 ≤ n ∧ u = hbump z.2 n) := by
  have hmm := mX11_companion hf
  refine ctx_of hG (by decide) (Nat.le_of_ble_eq_true rfl) ?_
  intro p e s m args below meth c X hex
  show PW E p l e _ s m args below meth c _ 0 0 _ h 0 [(0, some (.ref v0)), (1, some (.int v1))] []
  unfold fX11_companion at hf
  have hM := Nat.sub_add_cancel hmm.1
  have hN := Nat.sub_add_cancel hmm.2
  refine p_pick [0, 1] ?_
  exact wX11_companion_b0 X hG hex hM hN (Nat.zero_add _) (Nat.zero_add _) hf
theorem dc_X11_neighbours : decs cX11_neighbours [(0, .iload_n 1, 1), (1, .invokestatic 128, 3), (4, .aload_n 0, 1), (5, .getfield 34, 3), (8, .iload_n 1, 1), (9, .invokevirtual 226, 3), (12, .ireturn, 1)] = true := by decide +kernel
noncomputable def fX11_neighbours_b4 (v0 : Nat) (v1 : Int32) (h : PH) : Option ((Int32 × PH) ⊕ (Nat × PH)) :=
  gd (hK h v0 = 11) (gs (hR h 11 v0 3) (fun a4 =>
  gd (hK h a4 = 3) (bd (fX3_countNeighbours a4 v1 h) (fun z7 =>
  some (.inl ((z7, h)))))))
set_option maxRecDepth 100000 in
theorem mX11_neighbours_b4 {v0 : Nat} {v1 : Int32} {h : PH} {r : ((Int32 × PH) ⊕ (Nat × PH))} (hf : fX11_neighbours_b4 v0 v1 h = some r) : lez h (xT2 r) (vT2 r) := by
  unfold fX11_neighbours_b4 at hf
  have hle := lez_rf h
  obtain ⟨hk3, hf⟩ := gd_some hf
  obtain ⟨a4, e5, hf⟩ := gs_some hf
  obtain ⟨hk6, hf⟩ := gd_some hf
  obtain ⟨z7, hz7, hf⟩ := bd_some hf
  have ee := Option.some.inj hf; subst ee; exact hle
set_option maxRecDepth 100000 in
theorem wX11_neighbours_b4 {E : PE} {p : Program} {l : Launch} {e : Env} {s : State} {m : MethodId} {args : Array Value} {below : List Frame} {meth : Method} {c : Code} {X0 V0 MC MS uc us : Nat} (X : Cx E p l e (rmv 9 MC MS) s m args below meth c RX11 cX11_neighbours 2 (some .int)) (hG : Gs E l) (hex : ∀ x ∈ c.exceptionTable.toList, False) {v0 : Nat} {v1 : Int32} {h : PH} {r : ((Int32 × PH) ⊕ (Nat × PH))} (hM : MC + X0 = (xT2 r)) (hN : MS + V0 = (vT2 r)) (hu : uc + X0 = hX h) (hv : us + V0 = hV h) (hf : fX11_neighbours_b4 v0 v1 h = some r)  : PW E p l e (rmv 9 MC MS) s m args below meth c 2 uc us (vx_MQ below (QG E (fun v u => ∃ z, r = .inl z ∧ v = some (.int z.1) ∧ u = z.2)) (XG E (fun En u => ∃ (z : Nat × PH) (n : Nat), r = .inr z ∧ En = exn z.1 ∧ hX z.2 ≤ n ∧ u = hbump z.2 n)) args s MC MS (pA E)) h 4 [(0, some (.ref v0)), (1, some (.int v1))] [] := by
  have hm1 : lez h (xT2 r) (vT2 r) := mX11_neighbours_b4 hf
  have hcm : uc ≤ MC := (by have o0 := hm1.1; have o1 := hM; have o2 := hu; (try simp only [hX_sI, hX_sR, hX_sL, hX_sD, hX_sIa, hX_sRa, hV_sI, hV_sR, hV_sL, hV_sD, hV_sIa, hV_sRa, hX_new, hV_new] at o0 o1 o2 ⊢); omega)
  have hsm : us ≤ MS := (by have o0 := hm1.2; have o1 := hN; have o2 := hv; (try simp only [hX_sI, hX_sR, hX_sL, hX_sD, hX_sIa, hX_sRa, hV_sI, hV_sR, hV_sL, hV_sD, hV_sIa, hV_sRa, hX_new, hV_new] at o0 o1 o2 ⊢); omega)
  clear hm1
  unfold fX11_neighbours_b4 at hf
  refine p_aload_n X (dcg dc_X11_neighbours 2 rfl) rfl rfl ?_
  obtain ⟨hk3, hf⟩ := gd_some hf
  refine p_getR X fl_X11_34 rfl (by decide) (dcg dc_X11_neighbours 3 rfl) hk3 ?_
  refine p_iload_n X (dcg dc_X11_neighbours 4 rfl) rfl rfl ?_
  obtain ⟨a4, e5, hf⟩ := gs_some hf
  first | subst e5 | (try rw [e5])
  obtain ⟨hk6, hf⟩ := gd_some hf
  obtain ⟨z7, hz7, hf⟩ := bd_some hf
  refine p_callV (As := [_]) X ml_X11_226 (dcg dc_X11_neighbours 5 rfl) rfl rfl hk6 (wX3_countNeighbours hG hz7) (by decide) (room4 (Nat.le_of_ble_eq_true rfl)) hcm hsm ?_
  rintro _ u9 ⟨rfl, e9⟩; have e9 := e9.symm; subst e9
  have er := Option.some.inj hf
  subst er
  refine p_vx ?_
  exact p_iret X rfl (dcg dc_X11_neighbours 6 rfl) ⟨_, rfl, rfl, rfl⟩ hcm hsm
noncomputable def fX11_neighbours_b0 (v0 : Nat) (v1 : Int32) (h : PH) : Option ((Int32 × PH) ⊕ (Nat × PH)) :=
  bx (fX11_demandWord v1 h) (fun z1 =>
  fX11_neighbours_b4 v0 v1 z1)
set_option maxRecDepth 100000 in
theorem mX11_neighbours_b0 {v0 : Nat} {v1 : Int32} {h : PH} {r : ((Int32 × PH) ⊕ (Nat × PH))} (hf : fX11_neighbours_b0 v0 v1 h = some r) : lez h (xT2 r) (vT2 r) := by
  unfold fX11_neighbours_b0 at hf
  have hle := lez_rf h
  obtain ⟨y2, hy2, h1y2, h2y2⟩ := bx_some hf
  have hc1 := mX11_demandWord hy2
  rcases y2 with z1 | z1
  · have hf := h1y2 z1 rfl
    have hle : lez h (hX z1) (hV z1) := lez_rt hc1 hle
    exact lez_rt (mX11_neighbours_b4 hf) hle
  · have hr9 := h2y2 z1 rfl
    subst hr9
    exact lez_rt hc1 hle
set_option maxRecDepth 100000 in
theorem wX11_neighbours_b0 {E : PE} {p : Program} {l : Launch} {e : Env} {s : State} {m : MethodId} {args : Array Value} {below : List Frame} {meth : Method} {c : Code} {X0 V0 MC MS uc us : Nat} (X : Cx E p l e (rmv 9 MC MS) s m args below meth c RX11 cX11_neighbours 2 (some .int)) (hG : Gs E l) (hex : ∀ x ∈ c.exceptionTable.toList, False) {v0 : Nat} {v1 : Int32} {h : PH} {r : ((Int32 × PH) ⊕ (Nat × PH))} (hM : MC + X0 = (xT2 r)) (hN : MS + V0 = (vT2 r)) (hu : uc + X0 = hX h) (hv : us + V0 = hV h) (hf : fX11_neighbours_b0 v0 v1 h = some r)  : PW E p l e (rmv 9 MC MS) s m args below meth c 2 uc us (vx_MQ below (QG E (fun v u => ∃ z, r = .inl z ∧ v = some (.int z.1) ∧ u = z.2)) (XG E (fun En u => ∃ (z : Nat × PH) (n : Nat), r = .inr z ∧ En = exn z.1 ∧ hX z.2 ≤ n ∧ u = hbump z.2 n)) args s MC MS (pA E)) h 0 [(0, some (.ref v0)), (1, some (.int v1))] [] := by
  have hm1 : lez h (xT2 r) (vT2 r) := mX11_neighbours_b0 hf
  have hcm : uc ≤ MC := (by have o0 := hm1.1; have o1 := hM; have o2 := hu; (try simp only [hX_sI, hX_sR, hX_sL, hX_sD, hX_sIa, hX_sRa, hV_sI, hV_sR, hV_sL, hV_sD, hV_sIa, hV_sRa, hX_new, hV_new] at o0 o1 o2 ⊢); omega)
  have hsm : us ≤ MS := (by have o0 := hm1.2; have o1 := hN; have o2 := hv; (try simp only [hX_sI, hX_sR, hX_sL, hX_sD, hX_sIa, hX_sRa, hV_sI, hV_sR, hV_sL, hV_sD, hV_sIa, hV_sRa, hX_new, hV_new] at o0 o1 o2 ⊢); omega)
  clear hm1
  unfold fX11_neighbours_b0 at hf
  refine p_iload_n X (dcg dc_X11_neighbours 0 rfl) rfl rfl ?_
  obtain ⟨y2, hy2, h1y2, h2y2⟩ := bx_some hf
  have hc1 := mX11_demandWord hy2
  rcases y2 with z1 | z1
  · have hf := h1y2 z1 rfl
    have hm1 : lez _ (xT2 r) (vT2 r) := mX11_neighbours_b4 hf
    refine p_callSX (As := [_]) X hex ml_X11_128 (dcg dc_X11_neighbours 1 rfl) rfl rfl  (wX11_demandWord hG hy2) (by decide) (room4 (Nat.le_of_ble_eq_true rfl)) (show uc + (hX z1 - hX h) ≤ MC from (by have o0 := hm1.1; have o1 := (show lez h (hX z1) (hV z1) from hc1).1; have o2 := hM; have o3 := hu; (try simp only [hX_sI, hX_sR, hX_sL, hX_sD, hX_sIa, hX_sRa, hV_sI, hV_sR, hV_sL, hV_sD, hV_sIa, hV_sRa, hX_new, hV_new] at o0 o1 o2 o3 ⊢); omega)) (show us + (hV z1 - hV h) ≤ MS from (by have o0 := hm1.2; have o1 := (show lez h (hX z1) (hV z1) from hc1).2; have o2 := hN; have o3 := hv; (try simp only [hX_sI, hX_sR, hX_sL, hX_sD, hX_sIa, hX_sRa, hV_sI, hV_sR, hV_sL, hV_sD, hV_sIa, hV_sRa, hX_new, hV_new] at o0 o1 o2 o3 ⊢); omega)) (show uc + (hX z1 - hX h) ≤ MC from (by have o0 := hm1.1; have o1 := (show lez h (hX z1) (hV z1) from hc1).1; have o2 := hM; have o3 := hu; (try simp only [hX_sI, hX_sR, hX_sL, hX_sD, hX_sIa, hX_sRa, hV_sI, hV_sR, hV_sL, hV_sD, hV_sIa, hV_sRa, hX_new, hV_new] at o0 o1 o2 o3 ⊢); omega)) (show us + (hV z1 - hV h) ≤ MS from (by have o0 := hm1.2; have o1 := (show lez h (hX z1) (hV z1) from hc1).2; have o2 := hN; have o3 := hv; (try simp only [hX_sI, hX_sR, hX_sL, hX_sD, hX_sIa, hX_sRa, hV_sI, hV_sR, hV_sL, hV_sD, hV_sIa, hV_sRa, hX_new, hV_new] at o0 o1 o2 o3 ⊢); omega)) (fun En u q => by obtain ⟨z9, n9, q9, _⟩ := q; cases q9) ?_
    rintro _ _ ⟨z9, hz9, rfl, rfl⟩
    cases hz9
    refine p_pick [0, 1] ?_
    exact wX11_neighbours_b4 X hG hex hM hN (show uc + (hX z1 - hX h) + X0 = hX z1 from (by have o0 := (show lez h (hX z1) (hV z1) from hc1).1; have o1 := hu; (try simp only [hX_sI, hX_sR, hX_sL, hX_sD, hX_sIa, hX_sRa, hV_sI, hV_sR, hV_sL, hV_sD, hV_sIa, hV_sRa, hX_new, hV_new] at o0 o1 ⊢); omega)) (show us + (hV z1 - hV h) + V0 = hV z1 from (by have o0 := (show lez h (hX z1) (hV z1) from hc1).2; have o1 := hv; (try simp only [hX_sI, hX_sR, hX_sL, hX_sD, hX_sIa, hX_sRa, hV_sI, hV_sR, hV_sL, hV_sD, hV_sIa, hV_sRa, hX_new, hV_new] at o0 o1 ⊢); omega)) hf 
  · have hr9 := h2y2 z1 rfl
    subst hr9
    refine p_callSX (As := [_]) X hex ml_X11_128 (dcg dc_X11_neighbours 1 rfl) rfl rfl  (wX11_demandWord hG hy2) (by decide) (room4 (Nat.le_of_ble_eq_true rfl)) (show uc + (hX z1.2 + 1 - hX h) ≤ MC from (by have o0 := (show lez h (hX z1.2 + 1) (hV z1.2 + 6) from hc1).1; have o1 := (show MC + X0 = hX z1.2 + 1 from hM); have o2 := hu; (try simp only [hX_sI, hX_sR, hX_sL, hX_sD, hX_sIa, hX_sRa, hV_sI, hV_sR, hV_sL, hV_sD, hV_sIa, hV_sRa, hX_new, hV_new] at o0 o1 o2 ⊢); omega)) (show us + (hV z1.2 + 6 - hV h) ≤ MS from (by have o0 := (show lez h (hX z1.2 + 1) (hV z1.2 + 6) from hc1).2; have o1 := (show MS + V0 = hV z1.2 + 6 from hN); have o2 := hv; (try simp only [hX_sI, hX_sR, hX_sL, hX_sD, hX_sIa, hX_sRa, hV_sI, hV_sR, hV_sL, hV_sD, hV_sIa, hV_sRa, hX_new, hV_new] at o0 o1 o2 ⊢); omega)) (show uc + (hX z1.2 + 1 - hX h) ≤ MC from (by have o0 := (show lez h (hX z1.2 + 1) (hV z1.2 + 6) from hc1).1; have o1 := (show MC + X0 = hX z1.2 + 1 from hM); have o2 := hu; (try simp only [hX_sI, hX_sR, hX_sL, hX_sD, hX_sIa, hX_sRa, hV_sI, hV_sR, hV_sL, hV_sD, hV_sIa, hV_sRa, hX_new, hV_new] at o0 o1 o2 ⊢); omega)) (show us + (hV z1.2 + 6 - hV h) ≤ MS from (by have o0 := (show lez h (hX z1.2 + 1) (hV z1.2 + 6) from hc1).2; have o1 := (show MS + V0 = hV z1.2 + 6 from hN); have o2 := hv; (try simp only [hX_sI, hX_sR, hX_sL, hX_sD, hX_sIa, hX_sRa, hV_sI, hV_sR, hV_sL, hV_sD, hV_sIa, hV_sRa, hX_new, hV_new] at o0 o1 o2 ⊢); omega)) (fun En u q => by obtain ⟨z9, n9, q9, q8⟩ := q; cases q9; exact ⟨_, n9, rfl, q8⟩) ?_
    rintro _ _ ⟨z9, hz9, _⟩
    cases hz9
noncomputable def fX11_neighbours (v0 : Nat) (v1 : Int32) (h : PH) : Option ((Int32 × PH) ⊕ (Nat × PH)) :=
  fX11_neighbours_b0 v0 v1 h
set_option maxRecDepth 100000 in
theorem mX11_neighbours {v0 : Nat} {v1 : Int32} {h : PH} {r : ((Int32 × PH) ⊕ (Nat × PH))} (hf : fX11_neighbours v0 v1 h = some r) : lez h (xT2 r) (vT2 r) := by
  unfold fX11_neighbours at hf
  have hle := lez_rf h
  exact lez_rt (mX11_neighbours_b0 hf) hle
set_option maxRecDepth 100000 in
theorem wX11_neighbours {E : PE} {l : Launch} (hG : Gs E l) {v0 : Nat} {v1 : Int32} {h : PH} {r : ((Int32 × PH) ⊕ (Nat × PH))} (hf : fX11_neighbours v0 v1 h = some r) : CtX E l 9 ((xT2 r) - hX h) ((vT2 r) - hV h) yX11_neighbours cX11_neighbours 2 (some .int) [.ref v0, .int v1] h (fun v u => ∃ z, r = .inl z ∧ v = some (.int z.1) ∧ u = z.2) (fun En u => ∃ (z : Nat × PH) (n : Nat), r = .inr z ∧ En = exn z.1 ∧ hX z.2 ≤ n ∧ u = hbump z.2 n) := by
  have hmm := mX11_neighbours hf
  refine ctx_of hG (by decide) (Nat.le_of_ble_eq_true rfl) ?_
  intro p e s m args below meth c X hex
  show PW E p l e _ s m args below meth c _ 0 0 _ h 0 [(0, some (.ref v0)), (1, some (.int v1))] []
  unfold fX11_neighbours at hf
  have hM := Nat.sub_add_cancel hmm.1
  have hN := Nat.sub_add_cancel hmm.2
  refine p_pick [0, 1] ?_
  exact wX11_neighbours_b0 X hG hex hM hN (Nat.zero_add _) (Nat.zero_add _) hf
theorem dc_X11_neighbourAt : decs cX11_neighbourAt [(0, .iload_n 1, 1), (1, .invokestatic 128, 3), (4, .aload_n 0, 1), (5, .getfield 34, 3), (8, .iload_n 1, 1), (9, .iload_n 2, 1), (10, .invokevirtual 229, 3), (13, .ireturn, 1)] = true := by decide +kernel
noncomputable def fX11_neighbourAt_b4 (v0 : Nat) (v1 : Int32) (v2 : Int32) (h : PH) : Option ((Int32 × PH) ⊕ (Nat × PH)) :=
  gd (hK h v0 = 11) (gs (hR h 11 v0 3) (fun a4 =>
  gd (hK h a4 = 3) (bd (fX3_neighbourOf a4 v1 v2 h) (fun z7 =>
  some (.inl ((z7, h)))))))
set_option maxRecDepth 100000 in
theorem mX11_neighbourAt_b4 {v0 : Nat} {v1 : Int32} {v2 : Int32} {h : PH} {r : ((Int32 × PH) ⊕ (Nat × PH))} (hf : fX11_neighbourAt_b4 v0 v1 v2 h = some r) : lez h (xT2 r) (vT2 r) := by
  unfold fX11_neighbourAt_b4 at hf
  have hle := lez_rf h
  obtain ⟨hk3, hf⟩ := gd_some hf
  obtain ⟨a4, e5, hf⟩ := gs_some hf
  obtain ⟨hk6, hf⟩ := gd_some hf
  obtain ⟨z7, hz7, hf⟩ := bd_some hf
  have ee := Option.some.inj hf; subst ee; exact hle
set_option maxRecDepth 100000 in
theorem wX11_neighbourAt_b4 {E : PE} {p : Program} {l : Launch} {e : Env} {s : State} {m : MethodId} {args : Array Value} {below : List Frame} {meth : Method} {c : Code} {X0 V0 MC MS uc us : Nat} (X : Cx E p l e (rmv 9 MC MS) s m args below meth c RX11 cX11_neighbourAt 3 (some .int)) (hG : Gs E l) (hex : ∀ x ∈ c.exceptionTable.toList, False) {v0 : Nat} {v1 : Int32} {v2 : Int32} {h : PH} {r : ((Int32 × PH) ⊕ (Nat × PH))} (hM : MC + X0 = (xT2 r)) (hN : MS + V0 = (vT2 r)) (hu : uc + X0 = hX h) (hv : us + V0 = hV h) (hf : fX11_neighbourAt_b4 v0 v1 v2 h = some r)  : PW E p l e (rmv 9 MC MS) s m args below meth c 3 uc us (vx_MQ below (QG E (fun v u => ∃ z, r = .inl z ∧ v = some (.int z.1) ∧ u = z.2)) (XG E (fun En u => ∃ (z : Nat × PH) (n : Nat), r = .inr z ∧ En = exn z.1 ∧ hX z.2 ≤ n ∧ u = hbump z.2 n)) args s MC MS (pA E)) h 4 [(0, some (.ref v0)), (1, some (.int v1)), (2, some (.int v2))] [] := by
  have hm1 : lez h (xT2 r) (vT2 r) := mX11_neighbourAt_b4 hf
  have hcm : uc ≤ MC := (by have o0 := hm1.1; have o1 := hM; have o2 := hu; (try simp only [hX_sI, hX_sR, hX_sL, hX_sD, hX_sIa, hX_sRa, hV_sI, hV_sR, hV_sL, hV_sD, hV_sIa, hV_sRa, hX_new, hV_new] at o0 o1 o2 ⊢); omega)
  have hsm : us ≤ MS := (by have o0 := hm1.2; have o1 := hN; have o2 := hv; (try simp only [hX_sI, hX_sR, hX_sL, hX_sD, hX_sIa, hX_sRa, hV_sI, hV_sR, hV_sL, hV_sD, hV_sIa, hV_sRa, hX_new, hV_new] at o0 o1 o2 ⊢); omega)
  clear hm1
  unfold fX11_neighbourAt_b4 at hf
  refine p_aload_n X (dcg dc_X11_neighbourAt 2 rfl) rfl rfl ?_
  obtain ⟨hk3, hf⟩ := gd_some hf
  refine p_getR X fl_X11_34 rfl (by decide) (dcg dc_X11_neighbourAt 3 rfl) hk3 ?_
  refine p_iload_n X (dcg dc_X11_neighbourAt 4 rfl) rfl rfl ?_
  refine p_iload_n X (dcg dc_X11_neighbourAt 5 rfl) rfl rfl ?_
  obtain ⟨a4, e5, hf⟩ := gs_some hf
  first | subst e5 | (try rw [e5])
  obtain ⟨hk6, hf⟩ := gd_some hf
  obtain ⟨z7, hz7, hf⟩ := bd_some hf
  refine p_callV (As := [_, _]) X ml_X11_229 (dcg dc_X11_neighbourAt 6 rfl) rfl rfl hk6 (wX3_neighbourOf hG hz7) (by decide) (room4 (Nat.le_of_ble_eq_true rfl)) hcm hsm ?_
  rintro _ u9 ⟨rfl, e9⟩; have e9 := e9.symm; subst e9
  have er := Option.some.inj hf
  subst er
  refine p_vx ?_
  exact p_iret X rfl (dcg dc_X11_neighbourAt 7 rfl) ⟨_, rfl, rfl, rfl⟩ hcm hsm
noncomputable def fX11_neighbourAt_b0 (v0 : Nat) (v1 : Int32) (v2 : Int32) (h : PH) : Option ((Int32 × PH) ⊕ (Nat × PH)) :=
  bx (fX11_demandWord v1 h) (fun z1 =>
  fX11_neighbourAt_b4 v0 v1 v2 z1)
set_option maxRecDepth 100000 in
theorem mX11_neighbourAt_b0 {v0 : Nat} {v1 : Int32} {v2 : Int32} {h : PH} {r : ((Int32 × PH) ⊕ (Nat × PH))} (hf : fX11_neighbourAt_b0 v0 v1 v2 h = some r) : lez h (xT2 r) (vT2 r) := by
  unfold fX11_neighbourAt_b0 at hf
  have hle := lez_rf h
  obtain ⟨y2, hy2, h1y2, h2y2⟩ := bx_some hf
  have hc1 := mX11_demandWord hy2
  rcases y2 with z1 | z1
  · have hf := h1y2 z1 rfl
    have hle : lez h (hX z1) (hV z1) := lez_rt hc1 hle
    exact lez_rt (mX11_neighbourAt_b4 hf) hle
  · have hr9 := h2y2 z1 rfl
    subst hr9
    exact lez_rt hc1 hle
set_option maxRecDepth 100000 in
theorem wX11_neighbourAt_b0 {E : PE} {p : Program} {l : Launch} {e : Env} {s : State} {m : MethodId} {args : Array Value} {below : List Frame} {meth : Method} {c : Code} {X0 V0 MC MS uc us : Nat} (X : Cx E p l e (rmv 9 MC MS) s m args below meth c RX11 cX11_neighbourAt 3 (some .int)) (hG : Gs E l) (hex : ∀ x ∈ c.exceptionTable.toList, False) {v0 : Nat} {v1 : Int32} {v2 : Int32} {h : PH} {r : ((Int32 × PH) ⊕ (Nat × PH))} (hM : MC + X0 = (xT2 r)) (hN : MS + V0 = (vT2 r)) (hu : uc + X0 = hX h) (hv : us + V0 = hV h) (hf : fX11_neighbourAt_b0 v0 v1 v2 h = some r)  : PW E p l e (rmv 9 MC MS) s m args below meth c 3 uc us (vx_MQ below (QG E (fun v u => ∃ z, r = .inl z ∧ v = some (.int z.1) ∧ u = z.2)) (XG E (fun En u => ∃ (z : Nat × PH) (n : Nat), r = .inr z ∧ En = exn z.1 ∧ hX z.2 ≤ n ∧ u = hbump z.2 n)) args s MC MS (pA E)) h 0 [(0, some (.ref v0)), (1, some (.int v1)), (2, some (.int v2))] [] := by
  have hm1 : lez h (xT2 r) (vT2 r) := mX11_neighbourAt_b0 hf
  have hcm : uc ≤ MC := (by have o0 := hm1.1; have o1 := hM; have o2 := hu; (try simp only [hX_sI, hX_sR, hX_sL, hX_sD, hX_sIa, hX_sRa, hV_sI, hV_sR, hV_sL, hV_sD, hV_sIa, hV_sRa, hX_new, hV_new] at o0 o1 o2 ⊢); omega)
  have hsm : us ≤ MS := (by have o0 := hm1.2; have o1 := hN; have o2 := hv; (try simp only [hX_sI, hX_sR, hX_sL, hX_sD, hX_sIa, hX_sRa, hV_sI, hV_sR, hV_sL, hV_sD, hV_sIa, hV_sRa, hX_new, hV_new] at o0 o1 o2 ⊢); omega)
  clear hm1
  unfold fX11_neighbourAt_b0 at hf
  refine p_iload_n X (dcg dc_X11_neighbourAt 0 rfl) rfl rfl ?_
  obtain ⟨y2, hy2, h1y2, h2y2⟩ := bx_some hf
  have hc1 := mX11_demandWord hy2
  rcases y2 with z1 | z1
  · have hf := h1y2 z1 rfl
    have hm1 : lez _ (xT2 r) (vT2 r) := mX11_neighbourAt_b4 hf
    refine p_callSX (As := [_]) X hex ml_X11_128 (dcg dc_X11_neighbourAt 1 rfl) rfl rfl  (wX11_demandWord hG hy2) (by decide) (room4 (Nat.le_of_ble_eq_true rfl)) (show uc + (hX z1 - hX h) ≤ MC from (by have o0 := hm1.1; have o1 := (show lez h (hX z1) (hV z1) from hc1).1; have o2 := hM; have o3 := hu; (try simp only [hX_sI, hX_sR, hX_sL, hX_sD, hX_sIa, hX_sRa, hV_sI, hV_sR, hV_sL, hV_sD, hV_sIa, hV_sRa, hX_new, hV_new] at o0 o1 o2 o3 ⊢); omega)) (show us + (hV z1 - hV h) ≤ MS from (by have o0 := hm1.2; have o1 := (show lez h (hX z1) (hV z1) from hc1).2; have o2 := hN; have o3 := hv; (try simp only [hX_sI, hX_sR, hX_sL, hX_sD, hX_sIa, hX_sRa, hV_sI, hV_sR, hV_sL, hV_sD, hV_sIa, hV_sRa, hX_new, hV_new] at o0 o1 o2 o3 ⊢); omega)) (show uc + (hX z1 - hX h) ≤ MC from (by have o0 := hm1.1; have o1 := (show lez h (hX z1) (hV z1) from hc1).1; have o2 := hM; have o3 := hu; (try simp only [hX_sI, hX_sR, hX_sL, hX_sD, hX_sIa, hX_sRa, hV_sI, hV_sR, hV_sL, hV_sD, hV_sIa, hV_sRa, hX_new, hV_new] at o0 o1 o2 o3 ⊢); omega)) (show us + (hV z1 - hV h) ≤ MS from (by have o0 := hm1.2; have o1 := (show lez h (hX z1) (hV z1) from hc1).2; have o2 := hN; have o3 := hv; (try simp only [hX_sI, hX_sR, hX_sL, hX_sD, hX_sIa, hX_sRa, hV_sI, hV_sR, hV_sL, hV_sD, hV_sIa, hV_sRa, hX_new, hV_new] at o0 o1 o2 o3 ⊢); omega)) (fun En u q => by obtain ⟨z9, n9, q9, _⟩ := q; cases q9) ?_
    rintro _ _ ⟨z9, hz9, rfl, rfl⟩
    cases hz9
    refine p_pick [0, 1, 2] ?_
    exact wX11_neighbourAt_b4 X hG hex hM hN (show uc + (hX z1 - hX h) + X0 = hX z1 from (by have o0 := (show lez h (hX z1) (hV z1) from hc1).1; have o1 := hu; (try simp only [hX_sI, hX_sR, hX_sL, hX_sD, hX_sIa, hX_sRa, hV_sI, hV_sR, hV_sL, hV_sD, hV_sIa, hV_sRa, hX_new, hV_new] at o0 o1 ⊢); omega)) (show us + (hV z1 - hV h) + V0 = hV z1 from (by have o0 := (show lez h (hX z1) (hV z1) from hc1).2; have o1 := hv; (try simp only [hX_sI, hX_sR, hX_sL, hX_sD, hX_sIa, hX_sRa, hV_sI, hV_sR, hV_sL, hV_sD, hV_sIa, hV_sRa, hX_new, hV_new] at o0 o1 ⊢); omega)) hf 
  · have hr9 := h2y2 z1 rfl
    subst hr9
    refine p_callSX (As := [_]) X hex ml_X11_128 (dcg dc_X11_neighbourAt 1 rfl) rfl rfl  (wX11_demandWord hG hy2) (by decide) (room4 (Nat.le_of_ble_eq_true rfl)) (show uc + (hX z1.2 + 1 - hX h) ≤ MC from (by have o0 := (show lez h (hX z1.2 + 1) (hV z1.2 + 6) from hc1).1; have o1 := (show MC + X0 = hX z1.2 + 1 from hM); have o2 := hu; (try simp only [hX_sI, hX_sR, hX_sL, hX_sD, hX_sIa, hX_sRa, hV_sI, hV_sR, hV_sL, hV_sD, hV_sIa, hV_sRa, hX_new, hV_new] at o0 o1 o2 ⊢); omega)) (show us + (hV z1.2 + 6 - hV h) ≤ MS from (by have o0 := (show lez h (hX z1.2 + 1) (hV z1.2 + 6) from hc1).2; have o1 := (show MS + V0 = hV z1.2 + 6 from hN); have o2 := hv; (try simp only [hX_sI, hX_sR, hX_sL, hX_sD, hX_sIa, hX_sRa, hV_sI, hV_sR, hV_sL, hV_sD, hV_sIa, hV_sRa, hX_new, hV_new] at o0 o1 o2 ⊢); omega)) (show uc + (hX z1.2 + 1 - hX h) ≤ MC from (by have o0 := (show lez h (hX z1.2 + 1) (hV z1.2 + 6) from hc1).1; have o1 := (show MC + X0 = hX z1.2 + 1 from hM); have o2 := hu; (try simp only [hX_sI, hX_sR, hX_sL, hX_sD, hX_sIa, hX_sRa, hV_sI, hV_sR, hV_sL, hV_sD, hV_sIa, hV_sRa, hX_new, hV_new] at o0 o1 o2 ⊢); omega)) (show us + (hV z1.2 + 6 - hV h) ≤ MS from (by have o0 := (show lez h (hX z1.2 + 1) (hV z1.2 + 6) from hc1).2; have o1 := (show MS + V0 = hV z1.2 + 6 from hN); have o2 := hv; (try simp only [hX_sI, hX_sR, hX_sL, hX_sD, hX_sIa, hX_sRa, hV_sI, hV_sR, hV_sL, hV_sD, hV_sIa, hV_sRa, hX_new, hV_new] at o0 o1 o2 ⊢); omega)) (fun En u q => by obtain ⟨z9, n9, q9, q8⟩ := q; cases q9; exact ⟨_, n9, rfl, q8⟩) ?_
    rintro _ _ ⟨z9, hz9, _⟩
    cases hz9
noncomputable def fX11_neighbourAt (v0 : Nat) (v1 : Int32) (v2 : Int32) (h : PH) : Option ((Int32 × PH) ⊕ (Nat × PH)) :=
  fX11_neighbourAt_b0 v0 v1 v2 h
set_option maxRecDepth 100000 in
theorem mX11_neighbourAt {v0 : Nat} {v1 : Int32} {v2 : Int32} {h : PH} {r : ((Int32 × PH) ⊕ (Nat × PH))} (hf : fX11_neighbourAt v0 v1 v2 h = some r) : lez h (xT2 r) (vT2 r) := by
  unfold fX11_neighbourAt at hf
  have hle := lez_rf h
  exact lez_rt (mX11_neighbourAt_b0 hf) hle
set_option maxRecDepth 100000 in
theorem wX11_neighbourAt {E : PE} {l : Launch} (hG : Gs E l) {v0 : Nat} {v1 : Int32} {v2 : Int32} {h : PH} {r : ((Int32 × PH) ⊕ (Nat × PH))} (hf : fX11_neighbourAt v0 v1 v2 h = some r) : CtX E l 9 ((xT2 r) - hX h) ((vT2 r) - hV h) yX11_neighbourAt cX11_neighbourAt 3 (some .int) [.ref v0, .int v1, .int v2] h (fun v u => ∃ z, r = .inl z ∧ v = some (.int z.1) ∧ u = z.2) (fun En u => ∃ (z : Nat × PH) (n : Nat), r = .inr z ∧ En = exn z.1 ∧ hX z.2 ≤ n ∧ u = hbump z.2 n) := by
  have hmm := mX11_neighbourAt hf
  refine ctx_of hG (by decide) (Nat.le_of_ble_eq_true rfl) ?_
  intro p e s m args below meth c X hex
  show PW E p l e _ s m args below meth c _ 0 0 _ h 0 [(0, some (.ref v0)), (1, some (.int v1)), (2, some (.int v2))] []
  unfold fX11_neighbourAt at hf
  have hM := Nat.sub_add_cancel hmm.1
  have hN := Nat.sub_add_cancel hmm.2
  refine p_pick [0, 1, 2] ?_
  exact wX11_neighbourAt_b0 X hG hex hM hN (Nat.zero_add _) (Nat.zero_add _) hf
theorem dc_X11_ask : decs cX11_ask [(0, .aload_n 0, 1), (1, .getfield 21, 3), (4, .invokevirtual 232, 3), (7, .astore_n 1, 1), (8, .aload_n 1, 1), (9, .ifnonnull 11, 3), (12, .new 112, 3), (15, .dup, 1), (16, .invokespecial 114, 3), (19, .athrow, 1), (20, .aload_n 0, 1), (21, .getfield 68, 3), (24, .aload_n 1, 1), (25, .aload_n 0, 1), (26, .getfield 27, 3), (29, .invokevirtual 236, 3), (32, .aload_n 0, 1), (33, .getfield 68, 3), (36, .getfield 240, 3), (39, .ireturn, 1)] = true := by decide +kernel
noncomputable def fX11_ask_b7 (v0 : Nat) (t0 : Option Nat) (h : PH) : Option ((Int32 × PH) ⊕ (Nat × PH)) :=
  mq t0 (some (.inr (1, h))) (fun a6 =>
  gd (hK h v0 = 11) (gs (hR h 11 v0 8) (fun a8 =>
  gd (hK h a8 = 2) (bd (fX2_fill a8 (some a6) (hR h 11 v0 2) h) (fun z11 =>
  gd (hK z11 v0 = 11) (gs (hR z11 11 v0 8) (fun a13 =>
  gd (hK z11 a13 = 2) (some (.inl (((hI z11 2 a13 3), z11)))))))))))
set_option maxRecDepth 100000 in
theorem mX11_ask_b7 {v0 : Nat} {t0 : Option Nat} {h : PH} {r : ((Int32 × PH) ⊕ (Nat × PH))} (hf : fX11_ask_b7 v0 t0 h = some r) : lez h (xT2 r) (vT2 r) := by
  unfold fX11_ask_b7 at hf
  have hle := lez_rf h
  rcases mq_or hf with ⟨q, hf⟩ | ⟨a6, q, hf⟩
  · have hf := mq_n q hf
    cases hf; exact lez_up hle
  · have hk16 := mq_s q hf
    first | subst q | skip
    have hf := hk16
    obtain ⟨hk7, hf⟩ := gd_some hf
    obtain ⟨a8, e9, hf⟩ := gs_some hf
    obtain ⟨hk10, hf⟩ := gd_some hf
    obtain ⟨z11, hz11, hf⟩ := bd_some hf
    have hle := lez_rt (lez_eq (mX2_fill hz11)) hle
    obtain ⟨hk12, hf⟩ := gd_some hf
    obtain ⟨a13, e14, hf⟩ := gs_some hf
    obtain ⟨hk15, hf⟩ := gd_some hf
    have ee := Option.some.inj hf; subst ee; exact hle
set_option maxRecDepth 100000 in
theorem wX11_ask_b7 {E : PE} {p : Program} {l : Launch} {e : Env} {s : State} {m : MethodId} {args : Array Value} {below : List Frame} {meth : Method} {c : Code} {X0 V0 MC MS uc us : Nat} (X : Cx E p l e (rmv 140 MC MS) s m args below meth c RX11 cX11_ask 2 (some .int)) (hG : Gs E l) (hex : ∀ x ∈ c.exceptionTable.toList, False) {v0 : Nat} {t0 : Option Nat} {h : PH} {r : ((Int32 × PH) ⊕ (Nat × PH))} (hM : MC + X0 = (xT2 r)) (hN : MS + V0 = (vT2 r)) (hu : uc + X0 = hX h) (hv : us + V0 = hV h) (hf : fX11_ask_b7 v0 t0 h = some r)  : PW E p l e (rmv 140 MC MS) s m args below meth c 2 uc us (vx_MQ below (QG E (fun v u => ∃ z, r = .inl z ∧ v = some (.int z.1) ∧ u = z.2)) (XG E (fun En u => ∃ (z : Nat × PH) (n : Nat), r = .inr z ∧ En = exn z.1 ∧ hX z.2 ≤ n ∧ u = hbump z.2 n)) args s MC MS (pA E)) h 7 [(0, some (.ref v0))] [va_rf t0] := by
  have hm1 : lez h (xT2 r) (vT2 r) := mX11_ask_b7 hf
  have hcm : uc ≤ MC := (by have o0 := hm1.1; have o1 := hM; have o2 := hu; (try simp only [hX_sI, hX_sR, hX_sL, hX_sD, hX_sIa, hX_sRa, hV_sI, hV_sR, hV_sL, hV_sD, hV_sIa, hV_sRa, hX_new, hV_new] at o0 o1 o2 ⊢); omega)
  have hsm : us ≤ MS := (by have o0 := hm1.2; have o1 := hN; have o2 := hv; (try simp only [hX_sI, hX_sR, hX_sL, hX_sD, hX_sIa, hX_sRa, hV_sI, hV_sR, hV_sL, hV_sD, hV_sIa, hV_sRa, hX_new, hV_new] at o0 o1 o2 ⊢); omega)
  clear hm1
  unfold fX11_ask_b7 at hf
  refine p_astoreq_n X (dcg dc_X11_ask 3 rfl) rfl (by decide) rfl ?_
  refine p_aloadq_n X (dcg dc_X11_ask 4 rfl) rfl rfl ?_
  refine p_ifnonnull (tgt := 20) X (dcg dc_X11_ask 5 rfl) (by decide) (fun a6 q => ?_) (fun q => ?_)
  · have hk16 := mq_s q hf
    first | subst q | (try rw [q])
    have hf := hk16
    refine p_aload_n X (dcg dc_X11_ask 10 rfl) rfl rfl ?_
    obtain ⟨hk7, hf⟩ := gd_some hf
    refine p_getR X fl_X11_68 rfl (by decide) (dcg dc_X11_ask 11 rfl) hk7 ?_
    refine p_aload_n X (dcg dc_X11_ask 12 rfl) rfl rfl ?_
    refine p_aload_n X (dcg dc_X11_ask 13 rfl) rfl rfl ?_
    refine p_getR X fl_X11_27 rfl (by decide) (dcg dc_X11_ask 14 rfl) hk7 ?_
    obtain ⟨a8, e9, hf⟩ := gs_some hf
    first | subst e9 | (try rw [e9])
    obtain ⟨hk10, hf⟩ := gd_some hf
    obtain ⟨z11, hz11, hf⟩ := bd_some hf
    refine p_callV (As := [va_rf (some _), va_rf _]) X ml_X11_236 (dcg dc_X11_ask 15 rfl) rfl rfl hk10 (wX2_fill hG hz11) (by decide) (room4 (Nat.le_of_ble_eq_true rfl)) hcm hsm ?_
    rintro _ u9 ⟨rfl, e9⟩; have e9 := e9.symm; subst e9
    have hu := hu.trans (mX2_fill hz11).1
    have hv := hv.trans (mX2_fill hz11).2
    refine p_aload_n X (dcg dc_X11_ask 16 rfl) rfl rfl ?_
    obtain ⟨hk12, hf⟩ := gd_some hf
    refine p_getR X fl_X11_68 rfl (by decide) (dcg dc_X11_ask 17 rfl) hk12 ?_
    obtain ⟨a13, e14, hf⟩ := gs_some hf
    first | subst e14 | (try rw [e14])
    obtain ⟨hk15, hf⟩ := gd_some hf
    refine p_getIn X fl_X11_240 rfl (by decide) (dcg dc_X11_ask 18 rfl) hk15 ?_
    have er := Option.some.inj hf
    subst er
    refine p_vx ?_
    exact p_iret X rfl (dcg dc_X11_ask 19 rfl) ⟨_, rfl, rfl, rfl⟩ hcm hsm
  · have hk16 := mq_n q hf
    first | subst q | (try rw [q])
    have hf := hk16
    have er := Option.some.inj hf
    subst er
    exact p_throw0 (cls := "java/lang/IllegalArgumentException") (names := ["java/lang/RuntimeException", "java/lang/Exception"]) X hex (by decide) (by decide) tw_1180 tw_122 th_X11_114a th_X11_114b th_X11_114c th_X11_114d (dcg dc_X11_ask 6 rfl) (dcg dc_X11_ask 7 rfl) (dcg dc_X11_ask 8 rfl) (dcg dc_X11_ask 9 rfl) (Nat.le_of_ble_eq_true rfl) (Nat.le_trans (Nat.add_le_add_right (room4 (Nat.le_of_ble_eq_true rfl)) _) (Nat.le_of_ble_eq_true rfl)) (show uc + 1 ≤ MC from (by have o0 := (show MC + X0 = hX h + 1 from hM); have o1 := hu; (try simp only [hX_sI, hX_sR, hX_sL, hX_sD, hX_sIa, hX_sRa, hV_sI, hV_sR, hV_sL, hV_sD, hV_sIa, hV_sRa, hX_new, hV_new] at o0 o1 ⊢); omega)) (show us + 6 ≤ MS from (by have o0 := (show MS + V0 = hV h + 6 from hN); have o1 := hv; (try simp only [hX_sI, hX_sR, hX_sL, hX_sD, hX_sIa, hX_sRa, hV_sI, hV_sR, hV_sL, hV_sD, hV_sIa, hV_sRa, hX_new, hV_new] at o0 o1 ⊢); omega)) (show uc + 1 ≤ MC from (by have o0 := (show MC + X0 = hX h + 1 from hM); have o1 := hu; (try simp only [hX_sI, hX_sR, hX_sL, hX_sD, hX_sIa, hX_sRa, hV_sI, hV_sR, hV_sL, hV_sD, hV_sIa, hV_sRa, hX_new, hV_new] at o0 o1 ⊢); omega)) (show us + 6 ≤ MS from (by have o0 := (show MS + V0 = hV h + 6 from hN); have o1 := hv; (try simp only [hX_sI, hX_sR, hX_sL, hX_sD, hX_sIa, hX_sRa, hV_sI, hV_sR, hV_sL, hV_sD, hV_sIa, hV_sRa, hX_new, hV_new] at o0 o1 ⊢); omega)) (fun n hn => ⟨_, n, rfl, rfl, hn, rfl⟩)
noncomputable def fX11_ask_b0 (v0 : Nat) (h : PH) : Option ((Int32 × PH) ⊕ (Nat × PH)) :=
  gd (hK h v0 = 11) (gs (hR h 11 v0 1) (fun a2 =>
  gd (hK h a2 = 6) (bd (fX6_takeQuery a2 h) (fun z5 =>
  fX11_ask_b7 v0 z5.1 z5.2))))
set_option maxRecDepth 100000 in
theorem mX11_ask_b0 {v0 : Nat} {h : PH} {r : ((Int32 × PH) ⊕ (Nat × PH))} (hf : fX11_ask_b0 v0 h = some r) : lez h (xT2 r) (vT2 r) := by
  unfold fX11_ask_b0 at hf
  have hle := lez_rf h
  obtain ⟨hk1, hf⟩ := gd_some hf
  obtain ⟨a2, e3, hf⟩ := gs_some hf
  obtain ⟨hk4, hf⟩ := gd_some hf
  obtain ⟨z5, hz5, hf⟩ := bd_some hf
  have hle := lez_rt (mX6_takeQuery hz5) hle
  exact lez_rt (mX11_ask_b7 hf) hle
set_option maxRecDepth 100000 in
theorem wX11_ask_b0 {E : PE} {p : Program} {l : Launch} {e : Env} {s : State} {m : MethodId} {args : Array Value} {below : List Frame} {meth : Method} {c : Code} {X0 V0 MC MS uc us : Nat} (X : Cx E p l e (rmv 140 MC MS) s m args below meth c RX11 cX11_ask 2 (some .int)) (hG : Gs E l) (hex : ∀ x ∈ c.exceptionTable.toList, False) {v0 : Nat} {h : PH} {r : ((Int32 × PH) ⊕ (Nat × PH))} (hM : MC + X0 = (xT2 r)) (hN : MS + V0 = (vT2 r)) (hu : uc + X0 = hX h) (hv : us + V0 = hV h) (hf : fX11_ask_b0 v0 h = some r)  : PW E p l e (rmv 140 MC MS) s m args below meth c 2 uc us (vx_MQ below (QG E (fun v u => ∃ z, r = .inl z ∧ v = some (.int z.1) ∧ u = z.2)) (XG E (fun En u => ∃ (z : Nat × PH) (n : Nat), r = .inr z ∧ En = exn z.1 ∧ hX z.2 ≤ n ∧ u = hbump z.2 n)) args s MC MS (pA E)) h 0 [(0, some (.ref v0))] [] := by
  have hm1 : lez h (xT2 r) (vT2 r) := mX11_ask_b0 hf
  have hcm : uc ≤ MC := (by have o0 := hm1.1; have o1 := hM; have o2 := hu; (try simp only [hX_sI, hX_sR, hX_sL, hX_sD, hX_sIa, hX_sRa, hV_sI, hV_sR, hV_sL, hV_sD, hV_sIa, hV_sRa, hX_new, hV_new] at o0 o1 o2 ⊢); omega)
  have hsm : us ≤ MS := (by have o0 := hm1.2; have o1 := hN; have o2 := hv; (try simp only [hX_sI, hX_sR, hX_sL, hX_sD, hX_sIa, hX_sRa, hV_sI, hV_sR, hV_sL, hV_sD, hV_sIa, hV_sRa, hX_new, hV_new] at o0 o1 o2 ⊢); omega)
  clear hm1
  unfold fX11_ask_b0 at hf
  refine p_aload_n X (dcg dc_X11_ask 0 rfl) rfl rfl ?_
  obtain ⟨hk1, hf⟩ := gd_some hf
  refine p_getR X fl_X11_21 rfl (by decide) (dcg dc_X11_ask 1 rfl) hk1 ?_
  obtain ⟨a2, e3, hf⟩ := gs_some hf
  first | subst e3 | (try rw [e3])
  obtain ⟨hk4, hf⟩ := gd_some hf
  obtain ⟨z5, hz5, hf⟩ := bd_some hf
  have hc1 := mX6_takeQuery hz5
  have hm1 : lez _ (xT2 r) (vT2 r) := mX11_ask_b7 hf
  refine p_callV (As := []) X ml_X11_232 (dcg dc_X11_ask 2 rfl) rfl rfl hk4 (wX6_takeQuery hG hz5) (by decide) (room4 (Nat.le_of_ble_eq_true rfl)) (by have o0 := hm1.1; have o1 := hc1.1; have o2 := hM; have o3 := hu; (try simp only [hX_sI, hX_sR, hX_sL, hX_sD, hX_sIa, hX_sRa, hV_sI, hV_sR, hV_sL, hV_sD, hV_sIa, hV_sRa, hX_new, hV_new] at o0 o1 o2 o3 ⊢); omega) (by have o0 := hm1.2; have o1 := hc1.2; have o2 := hN; have o3 := hv; (try simp only [hX_sI, hX_sR, hX_sL, hX_sD, hX_sIa, hX_sRa, hV_sI, hV_sR, hV_sL, hV_sD, hV_sIa, hV_sRa, hX_new, hV_new] at o0 o1 o2 o3 ⊢); omega) ?_
  rintro _ u9 ⟨rfl, e9⟩; have e9 := e9.symm; subst e9
  refine p_pick [0] ?_
  exact wX11_ask_b7 X hG hex hM hN (by have o0 := hc1.1; have o1 := hu; (try simp only [hX_sI, hX_sR, hX_sL, hX_sD, hX_sIa, hX_sRa, hV_sI, hV_sR, hV_sL, hV_sD, hV_sIa, hV_sRa, hX_new, hV_new] at o0 o1 ⊢); omega) (by have o0 := hc1.2; have o1 := hv; (try simp only [hX_sI, hX_sR, hX_sL, hX_sD, hX_sIa, hX_sRa, hV_sI, hV_sR, hV_sL, hV_sD, hV_sIa, hV_sRa, hX_new, hV_new] at o0 o1 ⊢); omega) hf 
noncomputable def fX11_ask (v0 : Nat) (h : PH) : Option ((Int32 × PH) ⊕ (Nat × PH)) :=
  fX11_ask_b0 v0 h
set_option maxRecDepth 100000 in
theorem mX11_ask {v0 : Nat} {h : PH} {r : ((Int32 × PH) ⊕ (Nat × PH))} (hf : fX11_ask v0 h = some r) : lez h (xT2 r) (vT2 r) := by
  unfold fX11_ask at hf
  have hle := lez_rf h
  exact lez_rt (mX11_ask_b0 hf) hle
set_option maxRecDepth 100000 in
theorem wX11_ask {E : PE} {l : Launch} (hG : Gs E l) {v0 : Nat} {h : PH} {r : ((Int32 × PH) ⊕ (Nat × PH))} (hf : fX11_ask v0 h = some r) : CtX E l 140 ((xT2 r) - hX h) ((vT2 r) - hV h) yX11_ask cX11_ask 2 (some .int) [.ref v0] h (fun v u => ∃ z, r = .inl z ∧ v = some (.int z.1) ∧ u = z.2) (fun En u => ∃ (z : Nat × PH) (n : Nat), r = .inr z ∧ En = exn z.1 ∧ hX z.2 ≤ n ∧ u = hbump z.2 n) := by
  have hmm := mX11_ask hf
  refine ctx_of hG (by decide) (Nat.le_of_ble_eq_true rfl) ?_
  intro p e s m args below meth c X hex
  show PW E p l e _ s m args below meth c _ 0 0 _ h 0 [(0, some (.ref v0))] []
  unfold fX11_ask at hf
  have hM := Nat.sub_add_cancel hmm.1
  have hN := Nat.sub_add_cancel hmm.2
  refine p_pick [0] ?_
  exact wX11_ask_b0 X hG hex hM hN (Nat.zero_add _) (Nat.zero_add _) hf
theorem dc_X11_demandKeptPlace : decs cX11_demandKeptPlace [(0, .iload_n 0, 1), (1, .ifCond .lt 9, 3), (4, .iload_n 0, 1), (5, .bipush 6, 2), (7, .if_icmp .lt 11, 3), (10, .new 112, 3), (13, .dup, 1), (14, .invokespecial 114, 3), (17, .athrow, 1), (18, .return_, 1)] = true := by decide +kernel
noncomputable def fX11_demandKeptPlace_b10  (h : PH) : Option (PH ⊕ (Nat × PH)) :=
  some (.inr (1, h))
set_option maxRecDepth 100000 in
theorem mX11_demandKeptPlace_b10  {h : PH} {r : (PH ⊕ (Nat × PH))} (hf : fX11_demandKeptPlace_b10  h = some r) : lez h (xT1 r) (vT1 r) := by
  unfold fX11_demandKeptPlace_b10 at hf
  have hle := lez_rf h
  cases hf; exact lez_up hle
set_option maxRecDepth 100000 in
theorem wX11_demandKeptPlace_b10 {E : PE} {p : Program} {l : Launch} {e : Env} {s : State} {m : MethodId} {args : Array Value} {below : List Frame} {meth : Method} {c : Code} {X0 V0 MC MS uc us : Nat} (X : Cx E p l e (rmv 8 MC MS) s m args below meth c RX11 cX11_demandKeptPlace 1 (none)) (hG : Gs E l) (hex : ∀ x ∈ c.exceptionTable.toList, False)  {h : PH} {r : (PH ⊕ (Nat × PH))} (hM : MC + X0 = (xT1 r)) (hN : MS + V0 = (vT1 r)) (hu : uc + X0 = hX h) (hv : us + V0 = hV h) (hf : fX11_demandKeptPlace_b10  h = some r)  : PW E p l e (rmv 8 MC MS) s m args below meth c 1 uc us (vx_MQ below (QG E (fun v u => ∃ z, r = .inl z ∧ v = none ∧ u = z)) (XG E (fun En u => ∃ (z : Nat × PH) (n : Nat), r = .inr z ∧ En = exn z.1 ∧ hX z.2 ≤ n ∧ u = hbump z.2 n)) args s MC MS (pA E)) h 10 [] [] := by
  have hm1 : lez h (xT1 r) (vT1 r) := mX11_demandKeptPlace_b10 hf
  have hcm : uc ≤ MC := (by have o0 := hm1.1; have o1 := hM; have o2 := hu; (try simp only [hX_sI, hX_sR, hX_sL, hX_sD, hX_sIa, hX_sRa, hV_sI, hV_sR, hV_sL, hV_sD, hV_sIa, hV_sRa, hX_new, hV_new] at o0 o1 o2 ⊢); omega)
  have hsm : us ≤ MS := (by have o0 := hm1.2; have o1 := hN; have o2 := hv; (try simp only [hX_sI, hX_sR, hX_sL, hX_sD, hX_sIa, hX_sRa, hV_sI, hV_sR, hV_sL, hV_sD, hV_sIa, hV_sRa, hX_new, hV_new] at o0 o1 o2 ⊢); omega)
  clear hm1
  unfold fX11_demandKeptPlace_b10 at hf
  have er := Option.some.inj hf
  subst er
  exact p_throw0 (cls := "java/lang/IllegalArgumentException") (names := ["java/lang/RuntimeException", "java/lang/Exception"]) X hex (by decide) (by decide) tw_1180 tw_122 th_X11_114a th_X11_114b th_X11_114c th_X11_114d (dcg dc_X11_demandKeptPlace 5 rfl) (dcg dc_X11_demandKeptPlace 6 rfl) (dcg dc_X11_demandKeptPlace 7 rfl) (dcg dc_X11_demandKeptPlace 8 rfl) (Nat.le_of_ble_eq_true rfl) (Nat.le_trans (Nat.add_le_add_right (room4 (Nat.le_of_ble_eq_true rfl)) _) (Nat.le_of_ble_eq_true rfl)) (show uc + 1 ≤ MC from (by have o0 := (show MC + X0 = hX h + 1 from hM); have o1 := hu; (try simp only [hX_sI, hX_sR, hX_sL, hX_sD, hX_sIa, hX_sRa, hV_sI, hV_sR, hV_sL, hV_sD, hV_sIa, hV_sRa, hX_new, hV_new] at o0 o1 ⊢); omega)) (show us + 6 ≤ MS from (by have o0 := (show MS + V0 = hV h + 6 from hN); have o1 := hv; (try simp only [hX_sI, hX_sR, hX_sL, hX_sD, hX_sIa, hX_sRa, hV_sI, hV_sR, hV_sL, hV_sD, hV_sIa, hV_sRa, hX_new, hV_new] at o0 o1 ⊢); omega)) (show uc + 1 ≤ MC from (by have o0 := (show MC + X0 = hX h + 1 from hM); have o1 := hu; (try simp only [hX_sI, hX_sR, hX_sL, hX_sD, hX_sIa, hX_sRa, hV_sI, hV_sR, hV_sL, hV_sD, hV_sIa, hV_sRa, hX_new, hV_new] at o0 o1 ⊢); omega)) (show us + 6 ≤ MS from (by have o0 := (show MS + V0 = hV h + 6 from hN); have o1 := hv; (try simp only [hX_sI, hX_sR, hX_sL, hX_sD, hX_sIa, hX_sRa, hV_sI, hV_sR, hV_sL, hV_sD, hV_sIa, hV_sRa, hX_new, hV_new] at o0 o1 ⊢); omega)) (fun n hn => ⟨_, n, rfl, rfl, hn, rfl⟩)
noncomputable def fX11_demandKeptPlace_b0 (v0 : Int32) (h : PH) : Option (PH ⊕ (Nat × PH)) :=
  if (v0 < 0) then (fX11_demandKeptPlace_b10  h) else
  if (v0 < (6 : Int32)) then (some (.inl (h))) else
  fX11_demandKeptPlace_b10  h
set_option maxRecDepth 100000 in
theorem mX11_demandKeptPlace_b0 {v0 : Int32} {h : PH} {r : (PH ⊕ (Nat × PH))} (hf : fX11_demandKeptPlace_b0 v0 h = some r) : lez h (xT1 r) (vT1 r) := by
  unfold fX11_demandKeptPlace_b0 at hf
  have hle := lez_rf h
  rcases ite_or hf with ⟨q, hf⟩ | ⟨q, hf⟩
  · have hf := if_t q hf
    exact lez_rt (mX11_demandKeptPlace_b10 hf) hle
  · have hf := if_f q hf
    rcases ite_or hf with ⟨q, hf⟩ | ⟨q, hf⟩
    · have hf := if_t q hf
      have ee := Option.some.inj hf; subst ee; exact hle
    · have hf := if_f q hf
      exact lez_rt (mX11_demandKeptPlace_b10 hf) hle
set_option maxRecDepth 100000 in
theorem wX11_demandKeptPlace_b0 {E : PE} {p : Program} {l : Launch} {e : Env} {s : State} {m : MethodId} {args : Array Value} {below : List Frame} {meth : Method} {c : Code} {X0 V0 MC MS uc us : Nat} (X : Cx E p l e (rmv 8 MC MS) s m args below meth c RX11 cX11_demandKeptPlace 1 (none)) (hG : Gs E l) (hex : ∀ x ∈ c.exceptionTable.toList, False) {v0 : Int32} {h : PH} {r : (PH ⊕ (Nat × PH))} (hM : MC + X0 = (xT1 r)) (hN : MS + V0 = (vT1 r)) (hu : uc + X0 = hX h) (hv : us + V0 = hV h) (hf : fX11_demandKeptPlace_b0 v0 h = some r)  : PW E p l e (rmv 8 MC MS) s m args below meth c 1 uc us (vx_MQ below (QG E (fun v u => ∃ z, r = .inl z ∧ v = none ∧ u = z)) (XG E (fun En u => ∃ (z : Nat × PH) (n : Nat), r = .inr z ∧ En = exn z.1 ∧ hX z.2 ≤ n ∧ u = hbump z.2 n)) args s MC MS (pA E)) h 0 [(0, some (.int v0))] [] := by
  have hm1 : lez h (xT1 r) (vT1 r) := mX11_demandKeptPlace_b0 hf
  have hcm : uc ≤ MC := (by have o0 := hm1.1; have o1 := hM; have o2 := hu; (try simp only [hX_sI, hX_sR, hX_sL, hX_sD, hX_sIa, hX_sRa, hV_sI, hV_sR, hV_sL, hV_sD, hV_sIa, hV_sRa, hX_new, hV_new] at o0 o1 o2 ⊢); omega)
  have hsm : us ≤ MS := (by have o0 := hm1.2; have o1 := hN; have o2 := hv; (try simp only [hX_sI, hX_sR, hX_sL, hX_sD, hX_sIa, hX_sRa, hV_sI, hV_sR, hV_sL, hV_sD, hV_sIa, hV_sRa, hX_new, hV_new] at o0 o1 o2 ⊢); omega)
  clear hm1
  unfold fX11_demandKeptPlace_b0 at hf
  refine p_iload_n X (dcg dc_X11_demandKeptPlace 0 rfl) rfl rfl ?_
  refine p_if_lt (tgt := 10) X (dcg dc_X11_demandKeptPlace 1 rfl) (by decide) (fun q => ?_) (fun q => ?_)
  · have hf := if_t q hf
    refine p_pick [] ?_
    exact wX11_demandKeptPlace_b10 X hG hex hM hN hu hv hf 
  · have hf := if_f q hf
    refine p_iload_n X (dcg dc_X11_demandKeptPlace 2 rfl) rfl rfl ?_
    refine p_bipush (v := 6) X (dcg dc_X11_demandKeptPlace 3 rfl) (by decide) ?_
    refine p_icmp_lt (tgt := 18) X (dcg dc_X11_demandKeptPlace 4 rfl) (by decide) (fun q => ?_) (fun q => ?_)
    · have hf := if_t q hf
      have er := Option.some.inj hf
      subst er
      refine p_vx ?_
      exact p_vret X rfl (dcg dc_X11_demandKeptPlace 9 rfl) ⟨_, rfl, rfl, rfl⟩ hcm hsm
    · have hf := if_f q hf
      refine p_pick [] ?_
      exact wX11_demandKeptPlace_b10 X hG hex hM hN hu hv hf 
noncomputable def fX11_demandKeptPlace (v0 : Int32) (h : PH) : Option (PH ⊕ (Nat × PH)) :=
  fX11_demandKeptPlace_b0 v0 h
set_option maxRecDepth 100000 in
theorem mX11_demandKeptPlace {v0 : Int32} {h : PH} {r : (PH ⊕ (Nat × PH))} (hf : fX11_demandKeptPlace v0 h = some r) : lez h (xT1 r) (vT1 r) := by
  unfold fX11_demandKeptPlace at hf
  have hle := lez_rf h
  exact lez_rt (mX11_demandKeptPlace_b0 hf) hle
set_option maxRecDepth 100000 in
theorem wX11_demandKeptPlace {E : PE} {l : Launch} (hG : Gs E l) {v0 : Int32} {h : PH} {r : (PH ⊕ (Nat × PH))} (hf : fX11_demandKeptPlace v0 h = some r) : CtX E l 8 ((xT1 r) - hX h) ((vT1 r) - hV h) yX11_demandKeptPlace cX11_demandKeptPlace 1 (none) [.int v0] h (fun v u => ∃ z, r = .inl z ∧ v = none ∧ u = z) (fun En u => ∃ (z : Nat × PH) (n : Nat), r = .inr z ∧ En = exn z.1 ∧ hX z.2 ≤ n ∧ u = hbump z.2 n) := by
  have hmm := mX11_demandKeptPlace hf
  refine ctx_of hG (by decide) (Nat.le_of_ble_eq_true rfl) ?_
  intro p e s m args below meth c X hex
  show PW E p l e _ s m args below meth c _ 0 0 _ h 0 [(0, some (.int v0))] []
  unfold fX11_demandKeptPlace at hf
  have hM := Nat.sub_add_cancel hmm.1
  have hN := Nat.sub_add_cancel hmm.2
  refine p_pick [0] ?_
  exact wX11_demandKeptPlace_b0 X hG hex hM hN (Nat.zero_add _) (Nat.zero_add _) hf
theorem dc_X11_demandKept : decs cX11_demandKept [(0, .aload_n 0, 1), (1, .getfield 47, 3), (4, .iload_n 1, 1), (5, .aaload, 1), (6, .ifnonnull 11, 3), (9, .new 182, 3), (12, .dup, 1), (13, .invokespecial 184, 3), (16, .athrow, 1), (17, .aload_n 0, 1), (18, .getfield 47, 3), (21, .iload_n 1, 1), (22, .aaload, 1), (23, .areturn, 1)] = true := by decide +kernel
noncomputable def fX11_demandKept_b0 (v0 : Nat) (v1 : Int32) (h : PH) : Option ((Option Nat × PH) ⊕ (Nat × PH)) :=
  gd (hK h v0 = 11) (gs (hR h 11 v0 5) (fun a2 =>
  gd (hK h a2 = 25 ∧ inb v1 (hN h a2)) (mq (hR h 25 a2 (Int32.toNatClampNeg v1)) (some (.inr (3, h))) (fun a6 =>
  gs (hR h 11 v0 5) (fun a7 =>
  gd (hK h a7 = 25 ∧ inb v1 (hN h a7)) (some (.inl (((hR h 25 a7 (Int32.toNatClampNeg v1)), h)))))))))
set_option maxRecDepth 100000 in
theorem mX11_demandKept_b0 {v0 : Nat} {v1 : Int32} {h : PH} {r : ((Option Nat × PH) ⊕ (Nat × PH))} (hf : fX11_demandKept_b0 v0 v1 h = some r) : lez h (xT2 r) (vT2 r) := by
  unfold fX11_demandKept_b0 at hf
  have hle := lez_rf h
  obtain ⟨hk1, hf⟩ := gd_some hf
  obtain ⟨a2, e3, hf⟩ := gs_some hf
  obtain ⟨⟨hk5, hb4⟩, hf⟩ := gd_some hf
  rcases mq_or hf with ⟨q, hf⟩ | ⟨a6, q, hf⟩
  · have hf := mq_n q hf
    cases hf; exact lez_up hle
  · have hk11 := mq_s q hf
    first | subst q | skip
    have hf := hk11
    obtain ⟨a7, e8, hf⟩ := gs_some hf
    obtain ⟨⟨hk10, hb9⟩, hf⟩ := gd_some hf
    have ee := Option.some.inj hf; subst ee; exact hle
set_option maxRecDepth 100000 in
theorem wX11_demandKept_b0 {E : PE} {p : Program} {l : Launch} {e : Env} {s : State} {m : MethodId} {args : Array Value} {below : List Frame} {meth : Method} {c : Code} {X0 V0 MC MS uc us : Nat} (X : Cx E p l e (rmv 8 MC MS) s m args below meth c RX11 cX11_demandKept 2 (some (.object "WordFinder$Node"))) (hG : Gs E l) (hex : ∀ x ∈ c.exceptionTable.toList, False) {v0 : Nat} {v1 : Int32} {h : PH} {r : ((Option Nat × PH) ⊕ (Nat × PH))} (hM : MC + X0 = (xT2 r)) (hN : MS + V0 = (vT2 r)) (hu : uc + X0 = hX h) (hv : us + V0 = hV h) (hf : fX11_demandKept_b0 v0 v1 h = some r)  : PW E p l e (rmv 8 MC MS) s m args below meth c 2 uc us (vx_MQ below (QG E (fun v u => ∃ z, r = .inl z ∧ v = some (va_rf z.1) ∧ u = z.2)) (XG E (fun En u => ∃ (z : Nat × PH) (n : Nat), r = .inr z ∧ En = exn z.1 ∧ hX z.2 ≤ n ∧ u = hbump z.2 n)) args s MC MS (pA E)) h 0 [(0, some (.ref v0)), (1, some (.int v1))] [] := by
  have hm1 : lez h (xT2 r) (vT2 r) := mX11_demandKept_b0 hf
  have hcm : uc ≤ MC := (by have o0 := hm1.1; have o1 := hM; have o2 := hu; (try simp only [hX_sI, hX_sR, hX_sL, hX_sD, hX_sIa, hX_sRa, hV_sI, hV_sR, hV_sL, hV_sD, hV_sIa, hV_sRa, hX_new, hV_new] at o0 o1 o2 ⊢); omega)
  have hsm : us ≤ MS := (by have o0 := hm1.2; have o1 := hN; have o2 := hv; (try simp only [hX_sI, hX_sR, hX_sL, hX_sD, hX_sIa, hX_sRa, hV_sI, hV_sR, hV_sL, hV_sD, hV_sIa, hV_sRa, hX_new, hV_new] at o0 o1 o2 ⊢); omega)
  clear hm1
  unfold fX11_demandKept_b0 at hf
  refine p_aload_n X (dcg dc_X11_demandKept 0 rfl) rfl rfl ?_
  obtain ⟨hk1, hf⟩ := gd_some hf
  refine p_getR X fl_X11_47 rfl (by decide) (dcg dc_X11_demandKept 1 rfl) hk1 ?_
  refine p_iload_n X (dcg dc_X11_demandKept 2 rfl) rfl rfl ?_
  obtain ⟨a2, e3, hf⟩ := gs_some hf
  first | subst e3 | (try rw [e3])
  obtain ⟨⟨hk5, hb4⟩, hf⟩ := gd_some hf
  refine p_aald25 X (dcg dc_X11_demandKept 3 rfl) hk5 (vp_of_inb hb4) ?_
  refine p_ifnonnull (tgt := 17) X (dcg dc_X11_demandKept 4 rfl) (by decide) (fun a6 q => ?_) (fun q => ?_)
  · have hk11 := mq_s q hf
    first | subst q | (try rw [q])
    have hf := hk11
    refine p_aload_n X (dcg dc_X11_demandKept 9 rfl) rfl rfl ?_
    refine p_getR X fl_X11_47 rfl (by decide) (dcg dc_X11_demandKept 10 rfl) hk1 ?_
    refine p_iload_n X (dcg dc_X11_demandKept 11 rfl) rfl rfl ?_
    obtain ⟨a7, e8, hf⟩ := gs_some hf
    first | subst e8 | (try rw [e8])
    obtain ⟨⟨hk10, hb9⟩, hf⟩ := gd_some hf
    refine p_aald25 X (dcg dc_X11_demandKept 12 rfl) hk10 (vp_of_inb hb9) ?_
    have er := Option.some.inj hf
    subst er
    refine p_vx ?_
    exact p_aret X rfl (Or.inl ⟨_, rfl⟩) (dcg dc_X11_demandKept 13 rfl) ⟨_, rfl, rfl, rfl⟩ hcm hsm
  · have hk11 := mq_n q hf
    first | subst q | (try rw [q])
    have hf := hk11
    have er := Option.some.inj hf
    subst er
    exact p_throw0 (cls := "java/util/NoSuchElementException") (names := ["java/lang/RuntimeException", "java/lang/Exception"]) X hex (by decide) (by decide) tw_1307 tw_136 th_X11_184a th_X11_184b th_X11_184c th_X11_184d (dcg dc_X11_demandKept 5 rfl) (dcg dc_X11_demandKept 6 rfl) (dcg dc_X11_demandKept 7 rfl) (dcg dc_X11_demandKept 8 rfl) (Nat.le_of_ble_eq_true rfl) (Nat.le_trans (Nat.add_le_add_right (room4 (Nat.le_of_ble_eq_true rfl)) _) (Nat.le_of_ble_eq_true rfl)) (show uc + 1 ≤ MC from (by have o0 := (show MC + X0 = hX h + 1 from hM); have o1 := hu; (try simp only [hX_sI, hX_sR, hX_sL, hX_sD, hX_sIa, hX_sRa, hV_sI, hV_sR, hV_sL, hV_sD, hV_sIa, hV_sRa, hX_new, hV_new] at o0 o1 ⊢); omega)) (show us + 6 ≤ MS from (by have o0 := (show MS + V0 = hV h + 6 from hN); have o1 := hv; (try simp only [hX_sI, hX_sR, hX_sL, hX_sD, hX_sIa, hX_sRa, hV_sI, hV_sR, hV_sL, hV_sD, hV_sIa, hV_sRa, hX_new, hV_new] at o0 o1 ⊢); omega)) (show uc + 1 ≤ MC from (by have o0 := (show MC + X0 = hX h + 1 from hM); have o1 := hu; (try simp only [hX_sI, hX_sR, hX_sL, hX_sD, hX_sIa, hX_sRa, hV_sI, hV_sR, hV_sL, hV_sD, hV_sIa, hV_sRa, hX_new, hV_new] at o0 o1 ⊢); omega)) (show us + 6 ≤ MS from (by have o0 := (show MS + V0 = hV h + 6 from hN); have o1 := hv; (try simp only [hX_sI, hX_sR, hX_sL, hX_sD, hX_sIa, hX_sRa, hV_sI, hV_sR, hV_sL, hV_sD, hV_sIa, hV_sRa, hX_new, hV_new] at o0 o1 ⊢); omega)) (fun n hn => ⟨_, n, rfl, rfl, hn, rfl⟩)
noncomputable def fX11_demandKept (v0 : Nat) (v1 : Int32) (h : PH) : Option ((Option Nat × PH) ⊕ (Nat × PH)) :=
  fX11_demandKept_b0 v0 v1 h
set_option maxRecDepth 100000 in
theorem mX11_demandKept {v0 : Nat} {v1 : Int32} {h : PH} {r : ((Option Nat × PH) ⊕ (Nat × PH))} (hf : fX11_demandKept v0 v1 h = some r) : lez h (xT2 r) (vT2 r) := by
  unfold fX11_demandKept at hf
  have hle := lez_rf h
  exact lez_rt (mX11_demandKept_b0 hf) hle
set_option maxRecDepth 100000 in
theorem wX11_demandKept {E : PE} {l : Launch} (hG : Gs E l) {v0 : Nat} {v1 : Int32} {h : PH} {r : ((Option Nat × PH) ⊕ (Nat × PH))} (hf : fX11_demandKept v0 v1 h = some r) : CtX E l 8 ((xT2 r) - hX h) ((vT2 r) - hV h) yX11_demandKept cX11_demandKept 2 (some (.object "WordFinder$Node")) [.ref v0, .int v1] h (fun v u => ∃ z, r = .inl z ∧ v = some (va_rf z.1) ∧ u = z.2) (fun En u => ∃ (z : Nat × PH) (n : Nat), r = .inr z ∧ En = exn z.1 ∧ hX z.2 ≤ n ∧ u = hbump z.2 n) := by
  have hmm := mX11_demandKept hf
  refine ctx_of hG (by decide) (Nat.le_of_ble_eq_true rfl) ?_
  intro p e s m args below meth c X hex
  show PW E p l e _ s m args below meth c _ 0 0 _ h 0 [(0, some (.ref v0)), (1, some (.int v1))] []
  unfold fX11_demandKept at hf
  have hM := Nat.sub_add_cancel hmm.1
  have hN := Nat.sub_add_cancel hmm.2
  refine p_pick [0, 1] ?_
  exact wX11_demandKept_b0 X hG hex hM hN (Nat.zero_add _) (Nat.zero_add _) hf
theorem dc_X11_askKept : decs cX11_askKept [(0, .iload_n 1, 1), (1, .invokestatic 241, 3), (4, .aload_n 0, 1), (5, .getfield 68, 3), (8, .aload_n 0, 1), (9, .iload_n 1, 1), (10, .invokevirtual 244, 3), (13, .aload_n 0, 1), (14, .getfield 27, 3), (17, .invokevirtual 236, 3), (20, .aload_n 0, 1), (21, .getfield 68, 3), (24, .getfield 240, 3), (27, .ireturn, 1)] = true := by decide +kernel
noncomputable def fX11_askKept_b13 (v0 : Nat) (t0 : Option Nat) (t1 : Option Nat) (h : PH) : Option ((Int32 × PH) ⊕ (Nat × PH)) :=
  gd (hK h v0 = 11) (gs t0 (fun a7 =>
  gd (hK h a7 = 2) (bd (fX2_fill a7 t1 (hR h 11 v0 2) h) (fun z10 =>
  gd (hK z10 v0 = 11) (gs (hR z10 11 v0 8) (fun a12 =>
  gd (hK z10 a12 = 2) (some (.inl (((hI z10 2 a12 3), z10))))))))))
set_option maxRecDepth 100000 in
theorem mX11_askKept_b13 {v0 : Nat} {t0 : Option Nat} {t1 : Option Nat} {h : PH} {r : ((Int32 × PH) ⊕ (Nat × PH))} (hf : fX11_askKept_b13 v0 t0 t1 h = some r) : lez h (xT2 r) (vT2 r) := by
  unfold fX11_askKept_b13 at hf
  have hle := lez_rf h
  obtain ⟨hk6, hf⟩ := gd_some hf
  obtain ⟨a7, e8, hf⟩ := gs_some hf
  obtain ⟨hk9, hf⟩ := gd_some hf
  obtain ⟨z10, hz10, hf⟩ := bd_some hf
  have hle := lez_rt (lez_eq (mX2_fill hz10)) hle
  obtain ⟨hk11, hf⟩ := gd_some hf
  obtain ⟨a12, e13, hf⟩ := gs_some hf
  obtain ⟨hk14, hf⟩ := gd_some hf
  have ee := Option.some.inj hf; subst ee; exact hle
set_option maxRecDepth 100000 in
theorem wX11_askKept_b13 {E : PE} {p : Program} {l : Launch} {e : Env} {s : State} {m : MethodId} {args : Array Value} {below : List Frame} {meth : Method} {c : Code} {X0 V0 MC MS uc us : Nat} (X : Cx E p l e (rmv 49 MC MS) s m args below meth c RX11 cX11_askKept 2 (some .int)) (hG : Gs E l) (hex : ∀ x ∈ c.exceptionTable.toList, False) {v0 : Nat} {t0 : Option Nat} {t1 : Option Nat} {h : PH} {r : ((Int32 × PH) ⊕ (Nat × PH))} (hM : MC + X0 = (xT2 r)) (hN : MS + V0 = (vT2 r)) (hu : uc + X0 = hX h) (hv : us + V0 = hV h) (hf : fX11_askKept_b13 v0 t0 t1 h = some r)  : PW E p l e (rmv 49 MC MS) s m args below meth c 2 uc us (vx_MQ below (QG E (fun v u => ∃ z, r = .inl z ∧ v = some (.int z.1) ∧ u = z.2)) (XG E (fun En u => ∃ (z : Nat × PH) (n : Nat), r = .inr z ∧ En = exn z.1 ∧ hX z.2 ≤ n ∧ u = hbump z.2 n)) args s MC MS (pA E)) h 13 [(0, some (.ref v0))] [va_rf t1, va_rf t0] := by
  have hm1 : lez h (xT2 r) (vT2 r) := mX11_askKept_b13 hf
  have hcm : uc ≤ MC := (by have o0 := hm1.1; have o1 := hM; have o2 := hu; (try simp only [hX_sI, hX_sR, hX_sL, hX_sD, hX_sIa, hX_sRa, hV_sI, hV_sR, hV_sL, hV_sD, hV_sIa, hV_sRa, hX_new, hV_new] at o0 o1 o2 ⊢); omega)
  have hsm : us ≤ MS := (by have o0 := hm1.2; have o1 := hN; have o2 := hv; (try simp only [hX_sI, hX_sR, hX_sL, hX_sD, hX_sIa, hX_sRa, hV_sI, hV_sR, hV_sL, hV_sD, hV_sIa, hV_sRa, hX_new, hV_new] at o0 o1 o2 ⊢); omega)
  clear hm1
  unfold fX11_askKept_b13 at hf
  refine p_aload_n X (dcg dc_X11_askKept 7 rfl) rfl rfl ?_
  obtain ⟨hk6, hf⟩ := gd_some hf
  refine p_getR X fl_X11_27 rfl (by decide) (dcg dc_X11_askKept 8 rfl) hk6 ?_
  obtain ⟨a7, e8, hf⟩ := gs_some hf
  first | subst e8 | (try rw [e8])
  obtain ⟨hk9, hf⟩ := gd_some hf
  obtain ⟨z10, hz10, hf⟩ := bd_some hf
  refine p_callV (As := [va_rf _, va_rf _]) X ml_X11_236 (dcg dc_X11_askKept 9 rfl) rfl rfl hk9 (wX2_fill hG hz10) (by decide) (room4 (Nat.le_of_ble_eq_true rfl)) hcm hsm ?_
  rintro _ u9 ⟨rfl, e9⟩; have e9 := e9.symm; subst e9
  have hu := hu.trans (mX2_fill hz10).1
  have hv := hv.trans (mX2_fill hz10).2
  refine p_aload_n X (dcg dc_X11_askKept 10 rfl) rfl rfl ?_
  obtain ⟨hk11, hf⟩ := gd_some hf
  refine p_getR X fl_X11_68 rfl (by decide) (dcg dc_X11_askKept 11 rfl) hk11 ?_
  obtain ⟨a12, e13, hf⟩ := gs_some hf
  first | subst e13 | (try rw [e13])
  obtain ⟨hk14, hf⟩ := gd_some hf
  refine p_getIn X fl_X11_240 rfl (by decide) (dcg dc_X11_askKept 12 rfl) hk14 ?_
  have er := Option.some.inj hf
  subst er
  refine p_vx ?_
  exact p_iret X rfl (dcg dc_X11_askKept 13 rfl) ⟨_, rfl, rfl, rfl⟩ hcm hsm
noncomputable def fX11_askKept_b4 (v0 : Nat) (v1 : Int32) (h : PH) : Option ((Int32 × PH) ⊕ (Nat × PH)) :=
  gd (hK h v0 = 11) (bx (fX11_demandKept v0 v1 h) (fun z4 =>
  fX11_askKept_b13 v0 (hR h 11 v0 8) z4.1 z4.2))
set_option maxRecDepth 100000 in
theorem mX11_askKept_b4 {v0 : Nat} {v1 : Int32} {h : PH} {r : ((Int32 × PH) ⊕ (Nat × PH))} (hf : fX11_askKept_b4 v0 v1 h = some r) : lez h (xT2 r) (vT2 r) := by
  unfold fX11_askKept_b4 at hf
  have hle := lez_rf h
  obtain ⟨hk3, hf⟩ := gd_some hf
  obtain ⟨y5, hy5, h1y5, h2y5⟩ := bx_some hf
  have hc1 := mX11_demandKept hy5
  rcases y5 with z4 | z4
  · have hf := h1y5 z4 rfl
    have hle : lez h (hX z4.2) (hV z4.2) := lez_rt hc1 hle
    exact lez_rt (mX11_askKept_b13 hf) hle
  · have hr9 := h2y5 z4 rfl
    subst hr9
    exact lez_rt hc1 hle
set_option maxRecDepth 100000 in
theorem wX11_askKept_b4 {E : PE} {p : Program} {l : Launch} {e : Env} {s : State} {m : MethodId} {args : Array Value} {below : List Frame} {meth : Method} {c : Code} {X0 V0 MC MS uc us : Nat} (X : Cx E p l e (rmv 49 MC MS) s m args below meth c RX11 cX11_askKept 2 (some .int)) (hG : Gs E l) (hex : ∀ x ∈ c.exceptionTable.toList, False) {v0 : Nat} {v1 : Int32} {h : PH} {r : ((Int32 × PH) ⊕ (Nat × PH))} (hM : MC + X0 = (xT2 r)) (hN : MS + V0 = (vT2 r)) (hu : uc + X0 = hX h) (hv : us + V0 = hV h) (hf : fX11_askKept_b4 v0 v1 h = some r)  : PW E p l e (rmv 49 MC MS) s m args below meth c 2 uc us (vx_MQ below (QG E (fun v u => ∃ z, r = .inl z ∧ v = some (.int z.1) ∧ u = z.2)) (XG E (fun En u => ∃ (z : Nat × PH) (n : Nat), r = .inr z ∧ En = exn z.1 ∧ hX z.2 ≤ n ∧ u = hbump z.2 n)) args s MC MS (pA E)) h 4 [(0, some (.ref v0)), (1, some (.int v1))] [] := by
  have hm1 : lez h (xT2 r) (vT2 r) := mX11_askKept_b4 hf
  have hcm : uc ≤ MC := (by have o0 := hm1.1; have o1 := hM; have o2 := hu; (try simp only [hX_sI, hX_sR, hX_sL, hX_sD, hX_sIa, hX_sRa, hV_sI, hV_sR, hV_sL, hV_sD, hV_sIa, hV_sRa, hX_new, hV_new] at o0 o1 o2 ⊢); omega)
  have hsm : us ≤ MS := (by have o0 := hm1.2; have o1 := hN; have o2 := hv; (try simp only [hX_sI, hX_sR, hX_sL, hX_sD, hX_sIa, hX_sRa, hV_sI, hV_sR, hV_sL, hV_sD, hV_sIa, hV_sRa, hX_new, hV_new] at o0 o1 o2 ⊢); omega)
  clear hm1
  unfold fX11_askKept_b4 at hf
  refine p_aload_n X (dcg dc_X11_askKept 2 rfl) rfl rfl ?_
  obtain ⟨hk3, hf⟩ := gd_some hf
  refine p_getR X fl_X11_68 rfl (by decide) (dcg dc_X11_askKept 3 rfl) hk3 ?_
  refine p_aload_n X (dcg dc_X11_askKept 4 rfl) rfl rfl ?_
  refine p_iload_n X (dcg dc_X11_askKept 5 rfl) rfl rfl ?_
  obtain ⟨y5, hy5, h1y5, h2y5⟩ := bx_some hf
  have hc1 := mX11_demandKept hy5
  rcases y5 with z4 | z4
  · have hf := h1y5 z4 rfl
    have hm1 : lez _ (xT2 r) (vT2 r) := mX11_askKept_b13 hf
    refine p_callVX (As := [_]) X hex ml_X11_244 (dcg dc_X11_askKept 6 rfl) rfl rfl hk3 (wX11_demandKept hG hy5) (by decide) (room4 (Nat.le_of_ble_eq_true rfl)) (show uc + (hX z4.2 - hX h) ≤ MC from (by have o0 := hm1.1; have o1 := (show lez h (hX z4.2) (hV z4.2) from hc1).1; have o2 := hM; have o3 := hu; (try simp only [hX_sI, hX_sR, hX_sL, hX_sD, hX_sIa, hX_sRa, hV_sI, hV_sR, hV_sL, hV_sD, hV_sIa, hV_sRa, hX_new, hV_new] at o0 o1 o2 o3 ⊢); omega)) (show us + (hV z4.2 - hV h) ≤ MS from (by have o0 := hm1.2; have o1 := (show lez h (hX z4.2) (hV z4.2) from hc1).2; have o2 := hN; have o3 := hv; (try simp only [hX_sI, hX_sR, hX_sL, hX_sD, hX_sIa, hX_sRa, hV_sI, hV_sR, hV_sL, hV_sD, hV_sIa, hV_sRa, hX_new, hV_new] at o0 o1 o2 o3 ⊢); omega)) (show uc + (hX z4.2 - hX h) ≤ MC from (by have o0 := hm1.1; have o1 := (show lez h (hX z4.2) (hV z4.2) from hc1).1; have o2 := hM; have o3 := hu; (try simp only [hX_sI, hX_sR, hX_sL, hX_sD, hX_sIa, hX_sRa, hV_sI, hV_sR, hV_sL, hV_sD, hV_sIa, hV_sRa, hX_new, hV_new] at o0 o1 o2 o3 ⊢); omega)) (show us + (hV z4.2 - hV h) ≤ MS from (by have o0 := hm1.2; have o1 := (show lez h (hX z4.2) (hV z4.2) from hc1).2; have o2 := hN; have o3 := hv; (try simp only [hX_sI, hX_sR, hX_sL, hX_sD, hX_sIa, hX_sRa, hV_sI, hV_sR, hV_sL, hV_sD, hV_sIa, hV_sRa, hX_new, hV_new] at o0 o1 o2 o3 ⊢); omega)) (fun En u q => by obtain ⟨z9, n9, q9, _⟩ := q; cases q9) ?_
    rintro _ _ ⟨z9, hz9, rfl, rfl⟩
    cases hz9
    refine p_pick [0] ?_
    exact wX11_askKept_b13 X hG hex hM hN (show uc + (hX z4.2 - hX h) + X0 = hX z4.2 from (by have o0 := (show lez h (hX z4.2) (hV z4.2) from hc1).1; have o1 := hu; (try simp only [hX_sI, hX_sR, hX_sL, hX_sD, hX_sIa, hX_sRa, hV_sI, hV_sR, hV_sL, hV_sD, hV_sIa, hV_sRa, hX_new, hV_new] at o0 o1 ⊢); omega)) (show us + (hV z4.2 - hV h) + V0 = hV z4.2 from (by have o0 := (show lez h (hX z4.2) (hV z4.2) from hc1).2; have o1 := hv; (try simp only [hX_sI, hX_sR, hX_sL, hX_sD, hX_sIa, hX_sRa, hV_sI, hV_sR, hV_sL, hV_sD, hV_sIa, hV_sRa, hX_new, hV_new] at o0 o1 ⊢); omega)) hf 
  · have hr9 := h2y5 z4 rfl
    subst hr9
    refine p_callVX (As := [_]) X hex ml_X11_244 (dcg dc_X11_askKept 6 rfl) rfl rfl hk3 (wX11_demandKept hG hy5) (by decide) (room4 (Nat.le_of_ble_eq_true rfl)) (show uc + (hX z4.2 + 1 - hX h) ≤ MC from (by have o0 := (show lez h (hX z4.2 + 1) (hV z4.2 + 6) from hc1).1; have o1 := (show MC + X0 = hX z4.2 + 1 from hM); have o2 := hu; (try simp only [hX_sI, hX_sR, hX_sL, hX_sD, hX_sIa, hX_sRa, hV_sI, hV_sR, hV_sL, hV_sD, hV_sIa, hV_sRa, hX_new, hV_new] at o0 o1 o2 ⊢); omega)) (show us + (hV z4.2 + 6 - hV h) ≤ MS from (by have o0 := (show lez h (hX z4.2 + 1) (hV z4.2 + 6) from hc1).2; have o1 := (show MS + V0 = hV z4.2 + 6 from hN); have o2 := hv; (try simp only [hX_sI, hX_sR, hX_sL, hX_sD, hX_sIa, hX_sRa, hV_sI, hV_sR, hV_sL, hV_sD, hV_sIa, hV_sRa, hX_new, hV_new] at o0 o1 o2 ⊢); omega)) (show uc + (hX z4.2 + 1 - hX h) ≤ MC from (by have o0 := (show lez h (hX z4.2 + 1) (hV z4.2 + 6) from hc1).1; have o1 := (show MC + X0 = hX z4.2 + 1 from hM); have o2 := hu; (try simp only [hX_sI, hX_sR, hX_sL, hX_sD, hX_sIa, hX_sRa, hV_sI, hV_sR, hV_sL, hV_sD, hV_sIa, hV_sRa, hX_new, hV_new] at o0 o1 o2 ⊢); omega)) (show us + (hV z4.2 + 6 - hV h) ≤ MS from (by have o0 := (show lez h (hX z4.2 + 1) (hV z4.2 + 6) from hc1).2; have o1 := (show MS + V0 = hV z4.2 + 6 from hN); have o2 := hv; (try simp only [hX_sI, hX_sR, hX_sL, hX_sD, hX_sIa, hX_sRa, hV_sI, hV_sR, hV_sL, hV_sD, hV_sIa, hV_sRa, hX_new, hV_new] at o0 o1 o2 ⊢); omega)) (fun En u q => by obtain ⟨z9, n9, q9, q8⟩ := q; cases q9; exact ⟨_, n9, rfl, q8⟩) ?_
    rintro _ _ ⟨z9, hz9, _⟩
    cases hz9
noncomputable def fX11_askKept_b0 (v0 : Nat) (v1 : Int32) (h : PH) : Option ((Int32 × PH) ⊕ (Nat × PH)) :=
  bx (fX11_demandKeptPlace v1 h) (fun z1 =>
  fX11_askKept_b4 v0 v1 z1)
set_option maxRecDepth 100000 in
theorem mX11_askKept_b0 {v0 : Nat} {v1 : Int32} {h : PH} {r : ((Int32 × PH) ⊕ (Nat × PH))} (hf : fX11_askKept_b0 v0 v1 h = some r) : lez h (xT2 r) (vT2 r) := by
  unfold fX11_askKept_b0 at hf
  have hle := lez_rf h
  obtain ⟨y2, hy2, h1y2, h2y2⟩ := bx_some hf
  have hc1 := mX11_demandKeptPlace hy2
  rcases y2 with z1 | z1
  · have hf := h1y2 z1 rfl
    have hle : lez h (hX z1) (hV z1) := lez_rt hc1 hle
    exact lez_rt (mX11_askKept_b4 hf) hle
  · have hr9 := h2y2 z1 rfl
    subst hr9
    exact lez_rt hc1 hle
set_option maxRecDepth 100000 in
theorem wX11_askKept_b0 {E : PE} {p : Program} {l : Launch} {e : Env} {s : State} {m : MethodId} {args : Array Value} {below : List Frame} {meth : Method} {c : Code} {X0 V0 MC MS uc us : Nat} (X : Cx E p l e (rmv 49 MC MS) s m args below meth c RX11 cX11_askKept 2 (some .int)) (hG : Gs E l) (hex : ∀ x ∈ c.exceptionTable.toList, False) {v0 : Nat} {v1 : Int32} {h : PH} {r : ((Int32 × PH) ⊕ (Nat × PH))} (hM : MC + X0 = (xT2 r)) (hN : MS + V0 = (vT2 r)) (hu : uc + X0 = hX h) (hv : us + V0 = hV h) (hf : fX11_askKept_b0 v0 v1 h = some r)  : PW E p l e (rmv 49 MC MS) s m args below meth c 2 uc us (vx_MQ below (QG E (fun v u => ∃ z, r = .inl z ∧ v = some (.int z.1) ∧ u = z.2)) (XG E (fun En u => ∃ (z : Nat × PH) (n : Nat), r = .inr z ∧ En = exn z.1 ∧ hX z.2 ≤ n ∧ u = hbump z.2 n)) args s MC MS (pA E)) h 0 [(0, some (.ref v0)), (1, some (.int v1))] [] := by
  have hm1 : lez h (xT2 r) (vT2 r) := mX11_askKept_b0 hf
  have hcm : uc ≤ MC := (by have o0 := hm1.1; have o1 := hM; have o2 := hu; (try simp only [hX_sI, hX_sR, hX_sL, hX_sD, hX_sIa, hX_sRa, hV_sI, hV_sR, hV_sL, hV_sD, hV_sIa, hV_sRa, hX_new, hV_new] at o0 o1 o2 ⊢); omega)
  have hsm : us ≤ MS := (by have o0 := hm1.2; have o1 := hN; have o2 := hv; (try simp only [hX_sI, hX_sR, hX_sL, hX_sD, hX_sIa, hX_sRa, hV_sI, hV_sR, hV_sL, hV_sD, hV_sIa, hV_sRa, hX_new, hV_new] at o0 o1 o2 ⊢); omega)
  clear hm1
  unfold fX11_askKept_b0 at hf
  refine p_iload_n X (dcg dc_X11_askKept 0 rfl) rfl rfl ?_
  obtain ⟨y2, hy2, h1y2, h2y2⟩ := bx_some hf
  have hc1 := mX11_demandKeptPlace hy2
  rcases y2 with z1 | z1
  · have hf := h1y2 z1 rfl
    have hm1 : lez _ (xT2 r) (vT2 r) := mX11_askKept_b4 hf
    refine p_callSX (As := [_]) X hex ml_X11_241 (dcg dc_X11_askKept 1 rfl) rfl rfl  (wX11_demandKeptPlace hG hy2) (by decide) (room4 (Nat.le_of_ble_eq_true rfl)) (show uc + (hX z1 - hX h) ≤ MC from (by have o0 := hm1.1; have o1 := (show lez h (hX z1) (hV z1) from hc1).1; have o2 := hM; have o3 := hu; (try simp only [hX_sI, hX_sR, hX_sL, hX_sD, hX_sIa, hX_sRa, hV_sI, hV_sR, hV_sL, hV_sD, hV_sIa, hV_sRa, hX_new, hV_new] at o0 o1 o2 o3 ⊢); omega)) (show us + (hV z1 - hV h) ≤ MS from (by have o0 := hm1.2; have o1 := (show lez h (hX z1) (hV z1) from hc1).2; have o2 := hN; have o3 := hv; (try simp only [hX_sI, hX_sR, hX_sL, hX_sD, hX_sIa, hX_sRa, hV_sI, hV_sR, hV_sL, hV_sD, hV_sIa, hV_sRa, hX_new, hV_new] at o0 o1 o2 o3 ⊢); omega)) (show uc + (hX z1 - hX h) ≤ MC from (by have o0 := hm1.1; have o1 := (show lez h (hX z1) (hV z1) from hc1).1; have o2 := hM; have o3 := hu; (try simp only [hX_sI, hX_sR, hX_sL, hX_sD, hX_sIa, hX_sRa, hV_sI, hV_sR, hV_sL, hV_sD, hV_sIa, hV_sRa, hX_new, hV_new] at o0 o1 o2 o3 ⊢); omega)) (show us + (hV z1 - hV h) ≤ MS from (by have o0 := hm1.2; have o1 := (show lez h (hX z1) (hV z1) from hc1).2; have o2 := hN; have o3 := hv; (try simp only [hX_sI, hX_sR, hX_sL, hX_sD, hX_sIa, hX_sRa, hV_sI, hV_sR, hV_sL, hV_sD, hV_sIa, hV_sRa, hX_new, hV_new] at o0 o1 o2 o3 ⊢); omega)) (fun En u q => by obtain ⟨z9, n9, q9, _⟩ := q; cases q9) ?_
    rintro _ _ ⟨z9, hz9, rfl, rfl⟩
    cases hz9
    refine p_pick [0, 1] ?_
    exact wX11_askKept_b4 X hG hex hM hN (show uc + (hX z1 - hX h) + X0 = hX z1 from (by have o0 := (show lez h (hX z1) (hV z1) from hc1).1; have o1 := hu; (try simp only [hX_sI, hX_sR, hX_sL, hX_sD, hX_sIa, hX_sRa, hV_sI, hV_sR, hV_sL, hV_sD, hV_sIa, hV_sRa, hX_new, hV_new] at o0 o1 ⊢); omega)) (show us + (hV z1 - hV h) + V0 = hV z1 from (by have o0 := (show lez h (hX z1) (hV z1) from hc1).2; have o1 := hv; (try simp only [hX_sI, hX_sR, hX_sL, hX_sD, hX_sIa, hX_sRa, hV_sI, hV_sR, hV_sL, hV_sD, hV_sIa, hV_sRa, hX_new, hV_new] at o0 o1 ⊢); omega)) hf 
  · have hr9 := h2y2 z1 rfl
    subst hr9
    refine p_callSX (As := [_]) X hex ml_X11_241 (dcg dc_X11_askKept 1 rfl) rfl rfl  (wX11_demandKeptPlace hG hy2) (by decide) (room4 (Nat.le_of_ble_eq_true rfl)) (show uc + (hX z1.2 + 1 - hX h) ≤ MC from (by have o0 := (show lez h (hX z1.2 + 1) (hV z1.2 + 6) from hc1).1; have o1 := (show MC + X0 = hX z1.2 + 1 from hM); have o2 := hu; (try simp only [hX_sI, hX_sR, hX_sL, hX_sD, hX_sIa, hX_sRa, hV_sI, hV_sR, hV_sL, hV_sD, hV_sIa, hV_sRa, hX_new, hV_new] at o0 o1 o2 ⊢); omega)) (show us + (hV z1.2 + 6 - hV h) ≤ MS from (by have o0 := (show lez h (hX z1.2 + 1) (hV z1.2 + 6) from hc1).2; have o1 := (show MS + V0 = hV z1.2 + 6 from hN); have o2 := hv; (try simp only [hX_sI, hX_sR, hX_sL, hX_sD, hX_sIa, hX_sRa, hV_sI, hV_sR, hV_sL, hV_sD, hV_sIa, hV_sRa, hX_new, hV_new] at o0 o1 o2 ⊢); omega)) (show uc + (hX z1.2 + 1 - hX h) ≤ MC from (by have o0 := (show lez h (hX z1.2 + 1) (hV z1.2 + 6) from hc1).1; have o1 := (show MC + X0 = hX z1.2 + 1 from hM); have o2 := hu; (try simp only [hX_sI, hX_sR, hX_sL, hX_sD, hX_sIa, hX_sRa, hV_sI, hV_sR, hV_sL, hV_sD, hV_sIa, hV_sRa, hX_new, hV_new] at o0 o1 o2 ⊢); omega)) (show us + (hV z1.2 + 6 - hV h) ≤ MS from (by have o0 := (show lez h (hX z1.2 + 1) (hV z1.2 + 6) from hc1).2; have o1 := (show MS + V0 = hV z1.2 + 6 from hN); have o2 := hv; (try simp only [hX_sI, hX_sR, hX_sL, hX_sD, hX_sIa, hX_sRa, hV_sI, hV_sR, hV_sL, hV_sD, hV_sIa, hV_sRa, hX_new, hV_new] at o0 o1 o2 ⊢); omega)) (fun En u q => by obtain ⟨z9, n9, q9, q8⟩ := q; cases q9; exact ⟨_, n9, rfl, q8⟩) ?_
    rintro _ _ ⟨z9, hz9, _⟩
    cases hz9
noncomputable def fX11_askKept (v0 : Nat) (v1 : Int32) (h : PH) : Option ((Int32 × PH) ⊕ (Nat × PH)) :=
  fX11_askKept_b0 v0 v1 h
set_option maxRecDepth 100000 in
theorem mX11_askKept {v0 : Nat} {v1 : Int32} {h : PH} {r : ((Int32 × PH) ⊕ (Nat × PH))} (hf : fX11_askKept v0 v1 h = some r) : lez h (xT2 r) (vT2 r) := by
  unfold fX11_askKept at hf
  have hle := lez_rf h
  exact lez_rt (mX11_askKept_b0 hf) hle
set_option maxRecDepth 100000 in
theorem wX11_askKept {E : PE} {l : Launch} (hG : Gs E l) {v0 : Nat} {v1 : Int32} {h : PH} {r : ((Int32 × PH) ⊕ (Nat × PH))} (hf : fX11_askKept v0 v1 h = some r) : CtX E l 49 ((xT2 r) - hX h) ((vT2 r) - hV h) yX11_askKept cX11_askKept 2 (some .int) [.ref v0, .int v1] h (fun v u => ∃ z, r = .inl z ∧ v = some (.int z.1) ∧ u = z.2) (fun En u => ∃ (z : Nat × PH) (n : Nat), r = .inr z ∧ En = exn z.1 ∧ hX z.2 ≤ n ∧ u = hbump z.2 n) := by
  have hmm := mX11_askKept hf
  refine ctx_of hG (by decide) (Nat.le_of_ble_eq_true rfl) ?_
  intro p e s m args below meth c X hex
  show PW E p l e _ s m args below meth c _ 0 0 _ h 0 [(0, some (.ref v0)), (1, some (.int v1))] []
  unfold fX11_askKept at hf
  have hM := Nat.sub_add_cancel hmm.1
  have hN := Nat.sub_add_cancel hmm.2
  refine p_pick [0, 1] ?_
  exact wX11_askKept_b0 X hG hex hM hN (Nat.zero_add _) (Nat.zero_add _) hf
theorem dc_X11_foundAt : decs cX11_foundAt [(0, .aload_n 0, 1), (1, .getfield 68, 3), (4, .iload_n 1, 1), (5, .invokevirtual 248, 3), (8, .ireturn, 1)] = true := by decide +kernel
noncomputable def fX11_foundAt (v0 : Nat) (v1 : Int32) (h : PH) : Option Int32 :=
  gd (hK h v0 = 11) (gs (hR h 11 v0 8) (fun a2 =>
  gd (hK h a2 = 2) (bd (fX2_numberAt a2 v1 h) (fun z5 =>
  some (z5)))))
set_option maxRecDepth 100000 in
theorem wX11_foundAt {E : PE} {l : Launch} (hG : Gs E l) {v0 : Nat} {v1 : Int32} {h : PH} {r : Int32} (hf : fX11_foundAt v0 v1 h = some r) : Ct E l 1 0 0 yX11_foundAt cX11_foundAt 2 (some .int) [.ref v0, .int v1] h (fun v u => v = some (.int r) ∧ u = h) := by
  refine ct_of hG (by decide) (Nat.le_of_ble_eq_true rfl) ?_
  intro p e s m args below meth c X hnm
  show PW E p l e _ s m args below meth c _ 0 0 _ h 0 [(0, some (.ref v0)), (1, some (.int v1))] []
  unfold fX11_foundAt at hf
  refine p_aload_n X (dcg dc_X11_foundAt 0 rfl) rfl rfl ?_
  obtain ⟨hk1, hf⟩ := gd_some hf
  refine p_getR X fl_X11_68 rfl (by decide) (dcg dc_X11_foundAt 1 rfl) hk1 ?_
  refine p_iload_n X (dcg dc_X11_foundAt 2 rfl) rfl rfl ?_
  obtain ⟨a2, e3, hf⟩ := gs_some hf
  first | subst e3 | (try rw [e3])
  obtain ⟨hk4, hf⟩ := gd_some hf
  obtain ⟨z5, hz5, hf⟩ := bd_some hf
  refine p_callV (As := [_]) X ml_X11_248 (dcg dc_X11_foundAt 3 rfl) rfl rfl hk4 (wX2_numberAt hG hz5) (by decide) (room4 (Nat.le_of_ble_eq_true rfl)) (Nat.le_refl _) (Nat.le_refl _) ?_
  rintro _ u9 ⟨rfl, e9⟩; have e9 := e9.symm; subst e9
  have er := Option.some.inj hf
  subst er
  exact p_iret X rfl (dcg dc_X11_foundAt 4 rfl) ⟨rfl, rfl⟩ (Nat.le_refl _) (Nat.le_refl _)
theorem dc_X11_rankAt : decs cX11_rankAt [(0, .aload_n 0, 1), (1, .getfield 68, 3), (4, .iload_n 1, 1), (5, .invokevirtual 249, 3), (8, .ireturn, 1)] = true := by decide +kernel
noncomputable def fX11_rankAt (v0 : Nat) (v1 : Int32) (h : PH) : Option Int32 :=
  gd (hK h v0 = 11) (gs (hR h 11 v0 8) (fun a2 =>
  gd (hK h a2 = 2) (bd (fX2_rankedAt a2 v1 h) (fun z5 =>
  some (z5)))))
set_option maxRecDepth 100000 in
theorem wX11_rankAt {E : PE} {l : Launch} (hG : Gs E l) {v0 : Nat} {v1 : Int32} {h : PH} {r : Int32} (hf : fX11_rankAt v0 v1 h = some r) : Ct E l 1 0 0 yX11_rankAt cX11_rankAt 2 (some .int) [.ref v0, .int v1] h (fun v u => v = some (.int r) ∧ u = h) := by
  refine ct_of hG (by decide) (Nat.le_of_ble_eq_true rfl) ?_
  intro p e s m args below meth c X hnm
  show PW E p l e _ s m args below meth c _ 0 0 _ h 0 [(0, some (.ref v0)), (1, some (.int v1))] []
  unfold fX11_rankAt at hf
  refine p_aload_n X (dcg dc_X11_rankAt 0 rfl) rfl rfl ?_
  obtain ⟨hk1, hf⟩ := gd_some hf
  refine p_getR X fl_X11_68 rfl (by decide) (dcg dc_X11_rankAt 1 rfl) hk1 ?_
  refine p_iload_n X (dcg dc_X11_rankAt 2 rfl) rfl rfl ?_
  obtain ⟨a2, e3, hf⟩ := gs_some hf
  first | subst e3 | (try rw [e3])
  obtain ⟨hk4, hf⟩ := gd_some hf
  obtain ⟨z5, hz5, hf⟩ := bd_some hf
  refine p_callV (As := [_]) X ml_X11_249 (dcg dc_X11_rankAt 3 rfl) rfl rfl hk4 (wX2_rankedAt hG hz5) (by decide) (room4 (Nat.le_of_ble_eq_true rfl)) (Nat.le_refl _) (Nat.le_refl _) ?_
  rintro _ u9 ⟨rfl, e9⟩; have e9 := e9.symm; subst e9
  have er := Option.some.inj hf
  subst er
  exact p_iret X rfl (dcg dc_X11_rankAt 4 rfl) ⟨rfl, rfl⟩ (Nat.le_refl _) (Nat.le_refl _)
theorem dc_X11_scoreAt : decs cX11_scoreAt [(0, .aload_n 0, 1), (1, .getfield 68, 3), (4, .iload_n 1, 1), (5, .invokevirtual 252, 3), (8, .ireturn, 1)] = true := by decide +kernel
noncomputable def fX11_scoreAt (v0 : Nat) (v1 : Int32) (h : PH) : Option Int32 :=
  gd (hK h v0 = 11) (gs (hR h 11 v0 8) (fun a2 =>
  gd (hK h a2 = 2) (bd (fX2_scoreOf a2 v1 h) (fun z5 =>
  some (z5)))))
set_option maxRecDepth 100000 in
theorem wX11_scoreAt {E : PE} {l : Launch} (hG : Gs E l) {v0 : Nat} {v1 : Int32} {h : PH} {r : Int32} (hf : fX11_scoreAt v0 v1 h = some r) : Ct E l 1 0 0 yX11_scoreAt cX11_scoreAt 2 (some .int) [.ref v0, .int v1] h (fun v u => v = some (.int r) ∧ u = h) := by
  refine ct_of hG (by decide) (Nat.le_of_ble_eq_true rfl) ?_
  intro p e s m args below meth c X hnm
  show PW E p l e _ s m args below meth c _ 0 0 _ h 0 [(0, some (.ref v0)), (1, some (.int v1))] []
  unfold fX11_scoreAt at hf
  refine p_aload_n X (dcg dc_X11_scoreAt 0 rfl) rfl rfl ?_
  obtain ⟨hk1, hf⟩ := gd_some hf
  refine p_getR X fl_X11_68 rfl (by decide) (dcg dc_X11_scoreAt 1 rfl) hk1 ?_
  refine p_iload_n X (dcg dc_X11_scoreAt 2 rfl) rfl rfl ?_
  obtain ⟨a2, e3, hf⟩ := gs_some hf
  first | subst e3 | (try rw [e3])
  obtain ⟨hk4, hf⟩ := gd_some hf
  obtain ⟨z5, hz5, hf⟩ := bd_some hf
  refine p_callV (As := [_]) X ml_X11_252 (dcg dc_X11_scoreAt 3 rfl) rfl rfl hk4 (wX2_scoreOf hG hz5) (by decide) (room4 (Nat.le_of_ble_eq_true rfl)) (Nat.le_refl _) (Nat.le_refl _) ?_
  rintro _ u9 ⟨rfl, e9⟩; have e9 := e9.symm; subst e9
  have er := Option.some.inj hf
  subst er
  exact p_iret X rfl (dcg dc_X11_scoreAt 4 rfl) ⟨rfl, rfl⟩ (Nat.le_refl _) (Nat.le_refl _)
theorem dc_X11_keepQuery : decs cX11_keepQuery [(0, .aload_n 0, 1), (1, .getfield 47, 3), (4, .iload_n 1, 1), (5, .aload_n 2, 1), (6, .aastore, 1), (7, .aload_n 0, 1), (8, .getfield 53, 3), (11, .iload_n 1, 1), (12, .aaload, 1), (13, .astore_n 3, 1), (14, .aload_n 3, 1), (15, .invokevirtual 359, 3), (18, .iconst 0, 1), (19, .istore 4, 2), (21, .iload 4, 2), (23, .bipush 100, 2), (25, .if_icmp .ge 25, 3), (28, .aload_n 0, 1), (29, .aload_n 2, 1), (30, .iload 4, 2), (32, .invokevirtual 343, 3), (35, .ifCond .eq 9, 3), (38, .aload_n 3, 1), (39, .iload 4, 2), (41, .invokevirtual 362, 3), (44, .iinc 4 1, 3), (47, .goto (-26), 3), (50, .aload_n 3, 1), (51, .invokevirtual 202, 3), (54, .ireturn, 1)] = true := by decide +kernel
noncomputable def fX11_keepQuery_b44 (v0 : Nat) (v2 : Option Nat) (v3 : Option Nat) (v4 : Int32) (h : PH) : Option ((Int32 × PH) ⊕ (Int32 × PH)) :=
  some (.inl ((v4 + 1), h))
set_option maxRecDepth 100000 in
theorem mX11_keepQuery_b44 {v0 : Nat} {v2 : Option Nat} {v3 : Option Nat} {v4 : Int32} {h : PH} {x : ((Int32 × PH) ⊕ (Int32 × PH))} (hf : fX11_keepQuery_b44 v0 v2 v3 v4 h = some x) : (∀ w9 : (Int32 × PH), x = .inl w9 → eqz h (hX (w9.2)) (hV (w9.2))) ∧ (∀ w9 : (Int32 × PH), x = .inr w9 → eqz h (hX w9.2) (hV w9.2)) := by
  unfold fX11_keepQuery_b44 at hf
  have hle := eqz_rf h
  have ee := Option.some.inj hf; subst ee
  exact ⟨(fun z e => by have ee := Sum.inl.inj (e); subst ee; exact hle), (fun z e => nomatch e)⟩
set_option maxRecDepth 100000 in
theorem wX11_keepQuery_b44 {E : PE} {p : Program} {l : Launch} {e : Env} {s : State} {m : MethodId} {args : Array Value} {below : List Frame} {meth : Method} {c : Code} (X : Cx E p l e (rmv 49 0 0) s m args below meth c RX11 cX11_keepQuery 5 (some .int)) (hG : Gs E l) (hnm : meth.name = yX11_keepQuery.name) {v0 : Nat} {v2 : Option Nat} {v3 : Option Nat} {v4 : Int32} {h : PH} {r : (Int32 × PH)} {x : ((Int32 × PH) ⊕ (Int32 × PH))} (hf : fX11_keepQuery_b44 v0 v2 v3 v4 h = some x) (k0 : ∀ z : (Int32 × PH), x = .inl z → PW E p l e (rmv 49 0 0) s m args below meth c 5 0 0 (MQ below (QG E (fun v u => v = some (.int r.1) ∧ u = r.2)) args s 0 0 (pA E)) (z.2) 21 [(0, some (.ref v0)), (2, some (va_rf v2)), (3, some (va_rf v3)), (4, some (.int (z.1)))] []) (kf : ∀ z : (Int32 × PH), x = .inr z → z = r) : PW E p l e (rmv 49 0 0) s m args below meth c 5 0 0 (MQ below (QG E (fun v u => v = some (.int r.1) ∧ u = r.2)) args s 0 0 (pA E)) h 44 [(0, some (.ref v0)), (2, some (va_rf v2)), (3, some (va_rf v3)), (4, some (.int v4))] [] := by
  unfold fX11_keepQuery_b44 at hf
  refine p_iinc (v := 1) X (dcg dc_X11_keepQuery 25 rfl) rfl (by decide) (by decide) (nwq (k := 3) rfl) ?_
  refine p_goto (tgt := 21) X (dcg dc_X11_keepQuery 26 rfl) (by decide) ?_
  refine p_pick [0, 2, 3, 4] ?_
  exact k0 _ (Option.some.inj hf).symm
noncomputable def fX11_keepQuery_c21 (v0 : Nat) (v2 : Option Nat) (v3 : Option Nat) (v4 : Int32) (h : PH) : Option ((Int32 × PH) ⊕ (Int32 × PH)) :=
  if ((100 : Int32) ≤ v4) then (mr (gs v3 (fun a18 =>
  gd (hK h a18 = 9) (bd (fX9_size a18 h) (fun z21 =>
  some ((z21, h))))))) else
  gd (hK h v0 = 11) (bd (fX11_isSatisfied v0 v2 v4 h) (fun z23 =>
  if (z23 = 0) then (fX11_keepQuery_b44 v0 v2 v3 v4 h) else
  gs v3 (fun a24 =>
  gd (hK h a24 = 9) (bd (fX9_put a24 v4 h) (fun z27 =>
  fX11_keepQuery_b44 v0 v2 (some a24) v4 z27)))))
set_option maxRecDepth 100000 in
theorem mX11_keepQuery_c21 {v0 : Nat} {v2 : Option Nat} {v3 : Option Nat} {v4 : Int32} {h : PH} {x : ((Int32 × PH) ⊕ (Int32 × PH))} (hf : fX11_keepQuery_c21 v0 v2 v3 v4 h = some x) : (∀ w9 : (Int32 × PH), x = .inl w9 → eqz h (hX (w9.2)) (hV (w9.2))) ∧ (∀ w9 : (Int32 × PH), x = .inr w9 → eqz h (hX w9.2) (hV w9.2)) := by
  unfold fX11_keepQuery_c21 at hf
  have hle := eqz_rf h
  rcases ite_or hf with ⟨q, hf⟩ | ⟨q, hf⟩
  · have hf := if_t q hf
    obtain ⟨y16, hfm, rfl⟩ := mr_some hf; have hf := hfm; clear hfm
    obtain ⟨a18, e19, hf⟩ := gs_some hf
    obtain ⟨hk20, hf⟩ := gd_some hf
    obtain ⟨z21, hz21, hf⟩ := bd_some hf
    have ee := Option.some.inj hf; subst ee
    exact ⟨(fun z e => nomatch e), (fun z e => by have ee := Sum.inr.inj (e); subst ee; exact hle)⟩
  · have hf := if_f q hf
    obtain ⟨hk22, hf⟩ := gd_some hf
    obtain ⟨z23, hz23, hf⟩ := bd_some hf
    rcases ite_or hf with ⟨q, hf⟩ | ⟨q, hf⟩
    · have hf := if_t q hf
      obtain ⟨c0, cf⟩ := mX11_keepQuery_b44 hf
      exact ⟨fun z e => eqz_rt (c0 z (e)) hle, fun z e => eqz_rt (cf z (e)) hle⟩
    · have hf := if_f q hf
      obtain ⟨a24, e25, hf⟩ := gs_some hf
      obtain ⟨hk26, hf⟩ := gd_some hf
      obtain ⟨z27, hz27, hf⟩ := bd_some hf
      have hle := eqz_rt (mX9_put hz27) hle
      obtain ⟨c0, cf⟩ := mX11_keepQuery_b44 hf
      exact ⟨fun z e => eqz_rt (c0 z (e)) hle, fun z e => eqz_rt (cf z (e)) hle⟩
set_option maxRecDepth 100000 in
theorem wX11_keepQuery_c21 {E : PE} {p : Program} {l : Launch} {e : Env} {s : State} {m : MethodId} {args : Array Value} {below : List Frame} {meth : Method} {c : Code} (X : Cx E p l e (rmv 49 0 0) s m args below meth c RX11 cX11_keepQuery 5 (some .int)) (hG : Gs E l) (hnm : meth.name = yX11_keepQuery.name) {v0 : Nat} {v2 : Option Nat} {v3 : Option Nat} {v4 : Int32} {h : PH} {r : (Int32 × PH)} {x : ((Int32 × PH) ⊕ (Int32 × PH))} (hf : fX11_keepQuery_c21 v0 v2 v3 v4 h = some x) (k0 : ∀ z : (Int32 × PH), x = .inl z → PW E p l e (rmv 49 0 0) s m args below meth c 5 0 0 (MQ below (QG E (fun v u => v = some (.int r.1) ∧ u = r.2)) args s 0 0 (pA E)) (z.2) 21 [(0, some (.ref v0)), (2, some (va_rf v2)), (3, some (va_rf v3)), (4, some (.int (z.1)))] []) (kf : ∀ z : (Int32 × PH), x = .inr z → z = r) : PW E p l e (rmv 49 0 0) s m args below meth c 5 0 0 (MQ below (QG E (fun v u => v = some (.int r.1) ∧ u = r.2)) args s 0 0 (pA E)) h 21 [(0, some (.ref v0)), (2, some (va_rf v2)), (3, some (va_rf v3)), (4, some (.int v4))] [] := by
  unfold fX11_keepQuery_c21 at hf
  refine p_iload X (dcg dc_X11_keepQuery 14 rfl) rfl ?_
  refine p_bipush (v := 100) X (dcg dc_X11_keepQuery 15 rfl) (by decide) ?_
  refine p_icmp_ge (tgt := 50) X (dcg dc_X11_keepQuery 16 rfl) (by decide) (fun q => ?_) (fun q => ?_)
  · have hf := if_t q hf
    obtain ⟨y16, hf, hy17⟩ := mr_some hf
    have hy17f := kf y16 hy17
    subst hy17f
    refine p_aloadq_n X (dcg dc_X11_keepQuery 27 rfl) rfl rfl ?_
    obtain ⟨a18, e19, hf⟩ := gs_some hf
    first | subst e19 | (try rw [e19])
    obtain ⟨hk20, hf⟩ := gd_some hf
    obtain ⟨z21, hz21, hf⟩ := bd_some hf
    refine p_callV (As := []) X ml_X11_202 (dcg dc_X11_keepQuery 28 rfl) rfl rfl hk20 (wX9_size hG hz21) (by decide) (room4 (Nat.le_of_ble_eq_true rfl)) (Nat.le_refl _) (Nat.le_refl _) ?_
    rintro _ u9 ⟨rfl, e9⟩; have e9 := e9.symm; subst e9
    have er := Option.some.inj hf
    subst er
    exact p_iret X rfl (dcg dc_X11_keepQuery 29 rfl) ⟨rfl, rfl⟩ (Nat.le_refl _) (Nat.le_refl _)
  · have hf := if_f q hf
    refine p_aload_n X (dcg dc_X11_keepQuery 17 rfl) rfl rfl ?_
    refine p_aloadq_n X (dcg dc_X11_keepQuery 18 rfl) rfl rfl ?_
    refine p_iload X (dcg dc_X11_keepQuery 19 rfl) rfl ?_
    obtain ⟨hk22, hf⟩ := gd_some hf
    obtain ⟨z23, hz23, hf⟩ := bd_some hf
    refine p_callV (As := [va_rf _, _]) X ml_X11_343 (dcg dc_X11_keepQuery 20 rfl) rfl rfl hk22 (wX11_isSatisfied hG hz23) (by decide) (room4 (Nat.le_of_ble_eq_true rfl)) (Nat.le_refl _) (Nat.le_refl _) ?_
    rintro _ u9 ⟨rfl, e9⟩; have e9 := e9.symm; subst e9
    refine p_if_eq (tgt := 44) X (dcg dc_X11_keepQuery 21 rfl) (by decide) (fun q => ?_) (fun q => ?_)
    · have hf := if_t q hf
      refine p_pick [0, 2, 3, 4] ?_
      exact wX11_keepQuery_b44 X hG hnm hf k0 kf
    · have hf := if_f q hf
      refine p_aloadq_n X (dcg dc_X11_keepQuery 22 rfl) rfl rfl ?_
      refine p_iload X (dcg dc_X11_keepQuery 23 rfl) rfl ?_
      obtain ⟨a24, e25, hf⟩ := gs_some hf
      first | subst e25 | (try rw [e25])
      obtain ⟨hk26, hf⟩ := gd_some hf
      obtain ⟨z27, hz27, hf⟩ := bd_some hf
      refine p_callV (As := [_]) X ml_X11_362 (dcg dc_X11_keepQuery 24 rfl) rfl rfl hk26 (wX9_put hG hz27) (by decide) (room4 (Nat.le_of_ble_eq_true rfl)) (Nat.le_refl _) (Nat.le_refl _) ?_
      rintro _ u9 ⟨rfl, e9⟩; have e9 := e9.symm; subst e9
      refine p_pick [0, 2, 3, 4] ?_
      exact wX11_keepQuery_b44 X hG hnm hf k0 kf
noncomputable def fX11_keepQuery_l21 (v0 : Nat) (v2 : Option Nat) (v3 : Option Nat) (v4 : Int32) (h : PH) : Option (Int32 × PH) := wh (fun z : (Int32 × PH) => fX11_keepQuery_c21 v0 v2 v3 (z.1) (z.2)) (v4, h)
set_option maxRecDepth 100000 in
theorem mX11_keepQuery_l21 {v0 : Nat} {v2 : Option Nat} {v3 : Option Nat} {v4 : Int32} {h : PH} {r : (Int32 × PH)} (hf : fX11_keepQuery_l21 v0 v2 v3 v4 h = some r) : eqz h (hX r.2) (hV r.2) := by
  unfold fX11_keepQuery_l21 at hf
  refine wh_ind (P := fun z => eqz (z.2) (hX r.2) (hV r.2)) (fun z x0 hs i1 i2 => ?_) _ hf
  obtain ⟨c0, cf⟩ := mX11_keepQuery_c21 (v0 := v0) (v2 := v2) (v3 := v3) (v4 := z.1) (h := z.2) hs
  rcases hxx : x0 with zz | zz
  · exact eqz_tr (c0 zz hxx) (i1 zz hxx)
  · have ee := i2 zz hxx; subst ee; exact cf zz hxx
set_option maxRecDepth 100000 in
theorem wX11_keepQuery_l21 {E : PE} {p : Program} {l : Launch} {e : Env} {s : State} {m : MethodId} {args : Array Value} {below : List Frame} {meth : Method} {c : Code} (X : Cx E p l e (rmv 49 0 0) s m args below meth c RX11 cX11_keepQuery 5 (some .int)) (hG : Gs E l) (hnm : meth.name = yX11_keepQuery.name) {v0 : Nat} {v2 : Option Nat} {v3 : Option Nat} {v4 : Int32} {h : PH} {r : (Int32 × PH)} (hf : fX11_keepQuery_l21 v0 v2 v3 v4 h = some r)  : PW E p l e (rmv 49 0 0) s m args below meth c 5 0 0 (MQ below (QG E (fun v u => v = some (.int r.1) ∧ u = r.2)) args s 0 0 (pA E)) h 21 [(0, some (.ref v0)), (2, some (va_rf v2)), (3, some (va_rf v3)), (4, some (.int v4))] [] := by
  unfold fX11_keepQuery_l21 at hf
  refine wh_ind (P := fun z => PW E p l e (rmv 49 0 0) s m args below meth c 5 0 0 (MQ below (QG E (fun v u => v = some (.int r.1) ∧ u = r.2)) args s 0 0 (pA E)) (z.2) 21 [(0, some (.ref v0)), (2, some (va_rf v2)), (3, some (va_rf v3)), (4, some (.int (z.1)))] []) (fun z x0 hs i1 i2 => ?_) _ hf
  exact wX11_keepQuery_c21 (r := r) (v0 := v0) (v2 := v2) (v3 := v3) (v4 := z.1) (h := z.2) X hG hnm hs i1  i2
noncomputable def fX11_keepQuery (v0 : Nat) (v1 : Int32) (v2 : Option Nat) (h : PH) : Option (Int32 × PH) :=
  gd (hK h v0 = 11) (gs (hR h 11 v0 5) (fun a2 =>
  gd (hK h a2 = 25 ∧ inb v1 (hN h a2)) (gd (okq h 4 v2 = true) (lt (sR h 25 a2 (Int32.toNatClampNeg v1) v2) (fun h6 =>
  gs (hR h6 11 v0 6) (fun a8 =>
  gd (hK h6 a8 = 27 ∧ inb v1 (hN h6 a8)) (gs (hR h6 27 a8 (Int32.toNatClampNeg v1)) (fun a12 =>
  gd (hK h6 a12 = 9) (bd (fX9_clear a12 h6) (fun z15 =>
  fX11_keepQuery_l21 v0 v2 (some a12) (0 : Int32) z15))))))))))
set_option maxRecDepth 100000 in
theorem mX11_keepQuery {v0 : Nat} {v1 : Int32} {v2 : Option Nat} {h : PH} {r : (Int32 × PH)} (hf : fX11_keepQuery v0 v1 v2 h = some r) : eqz h (hX r.2) (hV r.2) := by
  unfold fX11_keepQuery at hf
  have hle := eqz_rf h
  obtain ⟨hk1, hf⟩ := gd_some hf
  obtain ⟨a2, e3, hf⟩ := gs_some hf
  obtain ⟨⟨hk5, hb4⟩, hf⟩ := gd_some hf
  obtain ⟨hg7, hf⟩ := gd_some hf
  obtain ⟨h6, rfl, hf⟩ := lt_some hf
  obtain ⟨a8, e9, hf⟩ := gs_some hf
  obtain ⟨⟨hk11, hb10⟩, hf⟩ := gd_some hf
  obtain ⟨a12, e13, hf⟩ := gs_some hf
  obtain ⟨hk14, hf⟩ := gd_some hf
  obtain ⟨z15, hz15, hf⟩ := bd_some hf
  have hle := eqz_rt (mX9_clear hz15) hle
  exact eqz_rt (mX11_keepQuery_l21 hf) hle
set_option maxRecDepth 100000 in
theorem wX11_keepQuery {E : PE} {l : Launch} (hG : Gs E l) {v0 : Nat} {v1 : Int32} {v2 : Option Nat} {h : PH} {r : (Int32 × PH)} (hf : fX11_keepQuery v0 v1 v2 h = some r) : Ct E l 49 0 0 yX11_keepQuery cX11_keepQuery 5 (some .int) [.ref v0, .int v1, va_rf v2] h (fun v u => v = some (.int r.1) ∧ u = r.2) := by
  refine ct_of hG (by decide) (by simp [lg_sl, cat_rf, cat_r, cat_i, cat_l, cat_d, cat_f]) ?_
  intro p e s m args below meth c X hnm
  rw [show pargs 0 [.ref v0, .int v1, va_rf v2] = [(0, some (.ref v0)), (1, some (.int v1)), (2, some (va_rf v2))] from by simp [pargs, cat_rf, cat_r, cat_i, cat_l, cat_d, cat_f]]
  unfold fX11_keepQuery at hf
  refine p_aload_n X (dcg dc_X11_keepQuery 0 rfl) rfl rfl ?_
  obtain ⟨hk1, hf⟩ := gd_some hf
  refine p_getR X fl_X11_47 rfl (by decide) (dcg dc_X11_keepQuery 1 rfl) hk1 ?_
  refine p_iload_n X (dcg dc_X11_keepQuery 2 rfl) rfl rfl ?_
  refine p_aloadq_n X (dcg dc_X11_keepQuery 3 rfl) rfl rfl ?_
  obtain ⟨a2, e3, hf⟩ := gs_some hf
  first | subst e3 | (try rw [e3])
  obtain ⟨⟨hk5, hb4⟩, hf⟩ := gd_some hf
  obtain ⟨hg7, hf⟩ := gd_some hf
  refine p_aast25 X (dcg dc_X11_keepQuery 4 rfl) hk5 (vp_of_inb hb4) (okq_of hg7) ?_
  obtain ⟨h6, rfl, hf⟩ := lt_some hf
  refine p_aload_n X (dcg dc_X11_keepQuery 5 rfl) rfl rfl ?_
  refine p_getR X fl_X11_53 rfl (by decide) (dcg dc_X11_keepQuery 6 rfl) hk1 ?_
  refine p_iload_n X (dcg dc_X11_keepQuery 7 rfl) rfl rfl ?_
  obtain ⟨a8, e9, hf⟩ := gs_some hf
  first | subst e9 | (try rw [e9])
  obtain ⟨⟨hk11, hb10⟩, hf⟩ := gd_some hf
  refine p_aald27 X (dcg dc_X11_keepQuery 8 rfl) hk11 (vp_of_inb hb10) ?_
  refine p_astoreq_n X (dcg dc_X11_keepQuery 9 rfl) rfl (by decide) (nwq (k := 2) rfl) ?_
  refine p_aloadq_n X (dcg dc_X11_keepQuery 10 rfl) rfl rfl ?_
  obtain ⟨a12, e13, hf⟩ := gs_some hf
  first | subst e13 | (try rw [e13])
  obtain ⟨hk14, hf⟩ := gd_some hf
  obtain ⟨z15, hz15, hf⟩ := bd_some hf
  refine p_callV (As := []) X ml_X11_359 (dcg dc_X11_keepQuery 11 rfl) rfl rfl hk14 (wX9_clear hG hz15) (by decide) (room4 (Nat.le_of_ble_eq_true rfl)) (Nat.le_refl _) (Nat.le_refl _) ?_
  rintro _ u9 ⟨rfl, e9⟩; have e9 := e9.symm; subst e9
  refine p_iconst (v := 0) X (dcg dc_X11_keepQuery 12 rfl) (by decide) ?_
  refine p_istore X (dcg dc_X11_keepQuery 13 rfl) (by decide) rfl ?_
  refine p_pick [0, 2, 3, 4] ?_
  exact wX11_keepQuery_l21 X hG hnm hf 
