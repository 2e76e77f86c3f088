/-! methods of the program (by program: wip/whole/gen2.py) -/
theorem dc_X1_figure : decs cX1_figure [(0, .iload_n 1, 1), (1, .ifCond .lt 11, 3), (4, .iload_n 1, 1), (5, .aload_n 0, 1), (6, .getfield 21, 3), (9, .if_icmp .lt 5, 3), (12, .iconst (-1), 1), (13, .ireturn, 1), (14, .aload_n 0, 1), (15, .getfield 25, 3), (18, .iload_n 1, 1), (19, .iadd, 1), (20, .bipush 100, 2), (22, .irem, 1), (23, .istore_n 3, 1), (24, .iload_n 2, 1), (25, .lookupswitch 41 #[(0, 27), (1, 34)], 27), (52, .aload_n 0, 1), (53, .getfield 11, 3), (56, .iload_n 3, 1), (57, .iaload, 1), (58, .ireturn, 1), (59, .aload_n 0, 1), (60, .getfield 15, 3), (63, .iload_n 3, 1), (64, .iaload, 1), (65, .ireturn, 1), (66, .aload_n 0, 1), (67, .getfield 18, 3), (70, .iload_n 3, 1), (71, .iaload, 1), (72, .ireturn, 1)] = true := by decide +kernel
noncomputable def fX1_figure_b12  (h : PH) : Option Int32 :=
  some ((-1 : Int32))
set_option maxRecDepth 100000 in
theorem wX1_figure_b12 {E : PE} {p : Program} {l : Launch} {e : Env} {s : State} {m : MethodId} {args : Array Value} {below : List Frame} {meth : Method} {c : Code} (X : Cx E p l e (rmv 0 0 0) s m args below meth c RX1 cX1_figure 4 (some .int)) (hG : Gs E l) (hnm : meth.name = yX1_figure.name)  {h : PH} {r : Int32} (hf : fX1_figure_b12  h = some r)  : PW E p l e (rmv 0 0 0) s m args below meth c 4 0 0 (MQ below (QG E (fun v u => v = some (.int r) ∧ u = h)) args s 0 0 (pA E)) h 12 [] [] := by
  unfold fX1_figure_b12 at hf
  refine p_iconst (v := -1) X (dcg dc_X1_figure 6 rfl) (by decide) ?_
  have er := Option.some.inj hf
  subst er
  exact p_iret X rfl (dcg dc_X1_figure 7 rfl) ⟨rfl, rfl⟩ (Nat.le_refl _) (Nat.le_refl _)
noncomputable def fX1_figure (v0 : Nat) (v1 : Int32) (v2 : Int32) (h : PH) : Option Int32 :=
  if (v1 < 0) then (fX1_figure_b12  h) else
  gd (hK h v0 = 1) (if (v1 < (hI h 1 v0 4)) then (if v2 = 0 then (gs (hR h 1 v0 0) (fun a2 =>
  gd (hK h a2 = 20 ∧ inb (((hI h 1 v0 3) + v1) - ((hI h 1 v0 3) + v1) / (100 : Int32) * (100 : Int32)) (hN h a2)) (some ((hI h 20 a2 (Int32.toNatClampNeg (((hI h 1 v0 3) + v1) - ((hI h 1 v0 3) + v1) / (100 : Int32) * (100 : Int32)))))))) else
  if v2 = 1 then (gs (hR h 1 v0 1) (fun a6 =>
  gd (hK h a6 = 20 ∧ inb (((hI h 1 v0 3) + v1) - ((hI h 1 v0 3) + v1) / (100 : Int32) * (100 : Int32)) (hN h a6)) (some ((hI h 20 a6 (Int32.toNatClampNeg (((hI h 1 v0 3) + v1) - ((hI h 1 v0 3) + v1) / (100 : Int32) * (100 : Int32)))))))) else
  gs (hR h 1 v0 2) (fun a10 =>
  gd (hK h a10 = 20 ∧ inb (((hI h 1 v0 3) + v1) - ((hI h 1 v0 3) + v1) / (100 : Int32) * (100 : Int32)) (hN h a10)) (some ((hI h 20 a10 (Int32.toNatClampNeg (((hI h 1 v0 3) + v1) - ((hI h 1 v0 3) + v1) / (100 : Int32) * (100 : Int32)))))))) else
  fX1_figure_b12  h)
set_option maxRecDepth 100000 in
theorem wX1_figure {E : PE} {l : Launch} (hG : Gs E l) {v0 : Nat} {v1 : Int32} {v2 : Int32} {h : PH} {r : Int32} (hf : fX1_figure v0 v1 v2 h = some r) : Ct E l 0 0 0 yX1_figure cX1_figure 4 (some .int) [.ref v0, .int v1, .int v2] h (fun v u => v = some (.int r) ∧ u = h) := by
  refine ct_of hG (by decide) (Nat.le_of_ble_eq_true rfl) ?_
  intro p e s m args below meth c X hnm
  show PW E p l e _ s m args below meth c _ 0 0 _ h 0 [(0, some (.ref v0)), (1, some (.int v1)), (2, some (.int v2))] []
  unfold fX1_figure at hf
  refine p_iload_n X (dcg dc_X1_figure 0 rfl) rfl rfl ?_
  refine p_if_lt (tgt := 12) X (dcg dc_X1_figure 1 rfl) (by decide) (fun q => ?_) (fun q => ?_)
  · have hf := if_t q hf
    refine p_pick [] ?_
    exact wX1_figure_b12 X hG hnm hf 
  · have hf := if_f q hf
    refine p_iload_n X (dcg dc_X1_figure 2 rfl) rfl rfl ?_
    refine p_aload_n X (dcg dc_X1_figure 3 rfl) rfl rfl ?_
    obtain ⟨hk1, hf⟩ := gd_some hf
    refine p_getI X fl_X1_21 rfl (by decide) (dcg dc_X1_figure 4 rfl) hk1 ?_
    refine p_icmp_lt (tgt := 14) X (dcg dc_X1_figure 5 rfl) (by decide) (fun q => ?_) (fun q => ?_)
    · have hf := if_t q hf
      refine p_aload_n X (dcg dc_X1_figure 8 rfl) rfl rfl ?_
      refine p_getI X fl_X1_25 rfl (by decide) (dcg dc_X1_figure 9 rfl) hk1 ?_
      refine p_iload_n X (dcg dc_X1_figure 10 rfl) rfl rfl ?_
      refine p_iadd X (dcg dc_X1_figure 11 rfl) ?_
      refine p_bipush (v := 100) X (dcg dc_X1_figure 12 rfl) (by decide) ?_
      refine p_irem X (dcg dc_X1_figure 13 rfl) (by decide) ?_
      refine p_istore_n X (dcg dc_X1_figure 14 rfl) rfl (by decide) rfl ?_
      refine p_iload_n X (dcg dc_X1_figure 15 rfl) rfl rfl ?_
      by_cases hq0 : v2 = 0
      · have hf := if_t hq0 hf
        refine p_lookupK (k := 0) (tgt := 52) X (dcg dc_X1_figure 16 rfl) (by decide) hq0 (by decide) (by decide) (by decide) ?_
        refine p_aload_n X (dcg dc_X1_figure 17 rfl) rfl rfl ?_
        refine p_getR X fl_X1_11 rfl (by decide) (dcg dc_X1_figure 18 rfl) hk1 ?_
        refine p_iload_n X (dcg dc_X1_figure 19 rfl) rfl rfl ?_
        obtain ⟨a2, e3, hf⟩ := gs_some hf
        first | subst e3 | (try rw [e3])
        obtain ⟨⟨hk5, hb4⟩, hf⟩ := gd_some hf
        refine p_iald X (dcg dc_X1_figure 20 rfl) hk5 (vp_of_inb hb4) ?_
        have er := Option.some.inj hf
        subst er
        exact p_iret X rfl (dcg dc_X1_figure 21 rfl) ⟨rfl, rfl⟩ (Nat.le_refl _) (Nat.le_refl _)
      · have hf := if_f hq0 hf
        by_cases hq1 : v2 = 1
        · have hf := if_t hq1 hf
          refine p_lookupK (k := 1) (tgt := 59) X (dcg dc_X1_figure 16 rfl) (by decide) hq1 (by decide) (by decide) (by decide) ?_
          refine p_aload_n X (dcg dc_X1_figure 22 rfl) rfl rfl ?_
          refine p_getR X fl_X1_15 rfl (by decide) (dcg dc_X1_figure 23 rfl) hk1 ?_
          refine p_iload_n X (dcg dc_X1_figure 24 rfl) rfl rfl ?_
          obtain ⟨a6, e7, hf⟩ := gs_some hf
          first | subst e7 | (try rw [e7])
          obtain ⟨⟨hk9, hb8⟩, hf⟩ := gd_some hf
          refine p_iald X (dcg dc_X1_figure 25 rfl) hk9 (vp_of_inb hb8) ?_
          have er := Option.some.inj hf
          subst er
          exact p_iret X rfl (dcg dc_X1_figure 26 rfl) ⟨rfl, rfl⟩ (Nat.le_refl _) (Nat.le_refl _)
        · have hf := if_f hq1 hf
          refine p_lookupD (tgt := 66) X (dcg dc_X1_figure 16 rfl) (by decide) (by simp [hq0, hq1]) (by decide) ?_
          refine p_aload_n X (dcg dc_X1_figure 27 rfl) rfl rfl ?_
          refine p_getR X fl_X1_18 rfl (by decide) (dcg dc_X1_figure 28 rfl) hk1 ?_
          refine p_iload_n X (dcg dc_X1_figure 29 rfl) rfl rfl ?_
          obtain ⟨a10, e11, hf⟩ := gs_some hf
          first | subst e11 | (try rw [e11])
          obtain ⟨⟨hk13, hb12⟩, hf⟩ := gd_some hf
          refine p_iald X (dcg dc_X1_figure 30 rfl) hk13 (vp_of_inb hb12) ?_
          have er := Option.some.inj hf
          subst er
          exact p_iret X rfl (dcg dc_X1_figure 31 rfl) ⟨rfl, rfl⟩ (Nat.le_refl _) (Nat.le_refl _)
    · have hf := if_f q hf
      refine p_pick [] ?_
      exact wX1_figure_b12 X hG hnm hf 
theorem dc_X2_init : decs cX2_init [(0, .aload_n 0, 1), (1, .invokespecial 3, 3), (4, .aload_n 0, 1), (5, .bipush 100, 2), (7, .newarray .int, 2), (9, .putfield 9, 3), (12, .aload_n 0, 1), (13, .bipush 100, 2), (15, .newarray .int, 2), (17, .putfield 15, 3), (20, .aload_n 0, 1), (21, .bipush 100, 2), (23, .newarray .int, 2), (25, .putfield 18, 3), (28, .return_, 1)] = true := by decide +kernel
noncomputable def fX2_init_b25 (t0 : Nat) (t1 : Nat) (h : PH) : Option PH :=
  gd (hK h t0 = 2) (lt (sR h 2 t0 2 (some t1)) (fun h9 =>
  some (h9)))
set_option maxRecDepth 100000 in
theorem mX2_init_b25 {t0 : Nat} {t1 : Nat} {h : PH} {r : PH} (hf : fX2_init_b25 t0 t1 h = some r) : lez h (hX r) (hV r) := by
  unfold fX2_init_b25 at hf
  have hle := lez_rf h
  obtain ⟨hk8, hf⟩ := gd_some hf
  obtain ⟨h9, rfl, hf⟩ := lt_some hf
  have ee := Option.some.inj hf; subst ee; exact hle
set_option maxRecDepth 100000 in
theorem wX2_init_b25 {E : PE} {p : Program} {l : Launch} {e : Env} {s : State} {m : MethodId} {args : Array Value} {below : List Frame} {meth : Method} {c : Code} {X0 V0 MC MS uc us : Nat} (X : Cx E p l e (rmv 1 MC MS) s m args below meth c RX2 cX2_init 1 (none)) (hG : Gs E l) (hnm : meth.name = yX2_init.name) {t0 : Nat} {t1 : Nat} {h : PH} {r : PH} (hM : MC + X0 = (hX r)) (hN : MS + V0 = (hV r)) (hu : uc + X0 = hX h) (hv : us + V0 = hV h) (hf : fX2_init_b25 t0 t1 h = some r)  : PW E p l e (rmv 1 MC MS) s m args below meth c 1 uc us (MQ below (QG E (fun v u => v = none ∧ u = r)) args s MC MS (pA E)) h 25 [] [.ref t1, .ref t0] := by
  have hm1 : lez h (hX r) (hV r) := mX2_init_b25 hf
  have hcm : uc ≤ MC := (by have o0 := hm1.1; have o1 := hM; have o2 := hu; (try simp only [hX_sI, hX_sR, hX_sL, hX_sD, hX_sIa, hX_sRa, hV_sI, hV_sR, hV_sL, hV_sD, hV_sIa, hV_sRa, hX_new, hV_new] at o0 o1 o2 ⊢); omega)
  have hsm : us ≤ MS := (by have o0 := hm1.2; have o1 := hN; have o2 := hv; (try simp only [hX_sI, hX_sR, hX_sL, hX_sD, hX_sIa, hX_sRa, hV_sI, hV_sR, hV_sL, hV_sD, hV_sIa, hV_sRa, hX_new, hV_new] at o0 o1 o2 ⊢); omega)
  clear hm1
  unfold fX2_init_b25 at hf
  obtain ⟨hk8, hf⟩ := gd_some hf
  refine p_putRf (v := some _) X fl_X2_18 rfl (by decide) (fun q hq => by cases hq; exact ⟨rfl, rfl⟩) hnm (nar_rf _ (by decide)) (fit_rf _ (by decide)) (dcg dc_X2_init 13 rfl) hk8 ?_
  obtain ⟨h9, rfl, hf⟩ := lt_some hf
  have er := Option.some.inj hf
  subst er
  exact p_vret X rfl (dcg dc_X2_init 14 rfl) ⟨rfl, rfl⟩ hcm hsm
noncomputable def fX2_init_b17 (v0 : Nat) (t0 : Nat) (t1 : Nat) (h : PH) : Option PH :=
  gd (hK h t0 = 2) (lt (sR h 2 t0 1 (some t1)) (fun h6 =>
  gd (¬ (100 : Int32) < 0 ∧ (Int32.toNatClampNeg (100 : Int32)) ≤ 1000000) (fX2_init_b25 v0 (hX h6) (hnew h6 20 (Int32.toNatClampNeg (100 : Int32))))))
set_option maxRecDepth 100000 in
theorem mX2_init_b17 {v0 : Nat} {t0 : Nat} {t1 : Nat} {h : PH} {r : PH} (hf : fX2_init_b17 v0 t0 t1 h = some r) : lez h (hX r) (hV r) := by
  unfold fX2_init_b17 at hf
  have hle := lez_rf h
  obtain ⟨hk5, hf⟩ := gd_some hf
  obtain ⟨h6, rfl, hf⟩ := lt_some hf
  obtain ⟨hg7, hf⟩ := gd_some hf
  have hle := lez_nw (c := 20) (n := (Int32.toNatClampNeg (100 : Int32))) hle
  exact lez_rt (mX2_init_b25 hf) hle
set_option maxRecDepth 100000 in
theorem wX2_init_b17 {E : PE} {p : Program} {l : Launch} {e : Env} {s : State} {m : MethodId} {args : Array Value} {below : List Frame} {meth : Method} {c : Code} {X0 V0 MC MS uc us : Nat} (X : Cx E p l e (rmv 1 MC MS) s m args below meth c RX2 cX2_init 1 (none)) (hG : Gs E l) (hnm : meth.name = yX2_init.name) {v0 : Nat} {t0 : Nat} {t1 : Nat} {h : PH} {r : PH} (hM : MC + X0 = (hX r)) (hN : MS + V0 = (hV r)) (hu : uc + X0 = hX h) (hv : us + V0 = hV h) (hf : fX2_init_b17 v0 t0 t1 h = some r)  : PW E p l e (rmv 1 MC MS) s m args below meth c 1 uc us (MQ below (QG E (fun v u => v = none ∧ u = r)) args s MC MS (pA E)) h 17 [(0, some (.ref v0))] [.ref t1, .ref t0] := by
  have hm1 : lez h (hX r) (hV r) := mX2_init_b17 hf
  have hcm : uc ≤ MC := (by have o0 := hm1.1; have o1 := hM; have o2 := hu; (try simp only [hX_sI, hX_sR, hX_sL, hX_sD, hX_sIa, hX_sRa, hV_sI, hV_sR, hV_sL, hV_sD, hV_sIa, hV_sRa, hX_new, hV_new] at o0 o1 o2 ⊢); omega)
  have hsm : us ≤ MS := (by have o0 := hm1.2; have o1 := hN; have o2 := hv; (try simp only [hX_sI, hX_sR, hX_sL, hX_sD, hX_sIa, hX_sRa, hV_sI, hV_sR, hV_sL, hV_sD, hV_sIa, hV_sRa, hX_new, hV_new] at o0 o1 o2 ⊢); omega)
  clear hm1
  unfold fX2_init_b17 at hf
  obtain ⟨hk5, hf⟩ := gd_some hf
  refine p_putRf (v := some _) X fl_X2_15 rfl (by decide) (fun q hq => by cases hq; exact ⟨rfl, rfl⟩) hnm (nar_rf _ (by decide)) (fit_rf _ (by decide)) (dcg dc_X2_init 9 rfl) hk5 ?_
  obtain ⟨h6, rfl, hf⟩ := lt_some hf
  refine p_aload_n X (dcg dc_X2_init 10 rfl) rfl rfl ?_
  refine p_bipush (v := 100) X (dcg dc_X2_init 11 rfl) (by decide) ?_
  obtain ⟨hg7, hf⟩ := gd_some hf
  have hm1 : lez _ (hX r) (hV r) := mX2_init_b25 hf
  have hm2 := lez_new hm1
  refine p_newa20 X tw_168 (dcg dc_X2_init 12 rfl) hg7.1 hg7.2 (show uc + 1 ≤ MC from (by have o0 := hm2.1; have o1 := hM; have o2 := hu; (try simp only [hX_sI, hX_sR, hX_sL, hX_sD, hX_sIa, hX_sRa, hV_sI, hV_sR, hV_sL, hV_sD, hV_sIa, hV_sRa, hX_new, hV_new] at o0 o1 o2 ⊢); omega)) (show us + (Int32.toNatClampNeg (100 : Int32)) ≤ MS from (by have o0 := hm2.2; have o1 := hN; have o2 := hv; (try simp only [hX_sI, hX_sR, hX_sL, hX_sD, hX_sIa, hX_sRa, hV_sI, hV_sR, hV_sL, hV_sD, hV_sIa, hV_sRa, hX_new, hV_new] at o0 o1 o2 ⊢); omega)) ?_
  refine p_pick [] ?_
  exact wX2_init_b25 X hG hnm hM hN (by have o0 := hu; (try simp only [hX_sI, hX_sR, hX_sL, hX_sD, hX_sIa, hX_sRa, hV_sI, hV_sR, hV_sL, hV_sD, hV_sIa, hV_sRa, hX_new, hV_new] at o0 ⊢); omega) (by have o0 := hv; (try simp only [hX_sI, hX_sR, hX_sL, hX_sD, hX_sIa, hX_sRa, hV_sI, hV_sR, hV_sL, hV_sD, hV_sIa, hV_sRa, hX_new, hV_new] at o0 ⊢); omega) hf 
noncomputable def fX2_init_b9 (v0 : Nat) (t0 : Nat) (t1 : Nat) (h : PH) : Option PH :=
  gd (hK h t0 = 2) (lt (sR h 2 t0 0 (some t1)) (fun h3 =>
  gd (¬ (100 : Int32) < 0 ∧ (Int32.toNatClampNeg (100 : Int32)) ≤ 1000000) (fX2_init_b17 v0 v0 (hX h3) (hnew h3 20 (Int32.toNatClampNeg (100 : Int32))))))
set_option maxRecDepth 100000 in
theorem mX2_init_b9 {v0 : Nat} {t0 : Nat} {t1 : Nat} {h : PH} {r : PH} (hf : fX2_init_b9 v0 t0 t1 h = some r) : lez h (hX r) (hV r) := by
  unfold fX2_init_b9 at hf
  have hle := lez_rf h
  obtain ⟨hk2, hf⟩ := gd_some hf
  obtain ⟨h3, rfl, hf⟩ := lt_some hf
  obtain ⟨hg4, hf⟩ := gd_some hf
  have hle := lez_nw (c := 20) (n := (Int32.toNatClampNeg (100 : Int32))) hle
  exact lez_rt (mX2_init_b17 hf) hle
set_option maxRecDepth 100000 in
theorem wX2_init_b9 {E : PE} {p : Program} {l : Launch} {e : Env} {s : State} {m : MethodId} {args : Array Value} {below : List Frame} {meth : Method} {c : Code} {X0 V0 MC MS uc us : Nat} (X : Cx E p l e (rmv 1 MC MS) s m args below meth c RX2 cX2_init 1 (none)) (hG : Gs E l) (hnm : meth.name = yX2_init.name) {v0 : Nat} {t0 : Nat} {t1 : Nat} {h : PH} {r : PH} (hM : MC + X0 = (hX r)) (hN : MS + V0 = (hV r)) (hu : uc + X0 = hX h) (hv : us + V0 = hV h) (hf : fX2_init_b9 v0 t0 t1 h = some r)  : PW E p l e (rmv 1 MC MS) s m args below meth c 1 uc us (MQ below (QG E (fun v u => v = none ∧ u = r)) args s MC MS (pA E)) h 9 [(0, some (.ref v0))] [.ref t1, .ref t0] := by
  have hm1 : lez h (hX r) (hV r) := mX2_init_b9 hf
  have hcm : uc ≤ MC := (by have o0 := hm1.1; have o1 := hM; have o2 := hu; (try simp only [hX_sI, hX_sR, hX_sL, hX_sD, hX_sIa, hX_sRa, hV_sI, hV_sR, hV_sL, hV_sD, hV_sIa, hV_sRa, hX_new, hV_new] at o0 o1 o2 ⊢); omega)
  have hsm : us ≤ MS := (by have o0 := hm1.2; have o1 := hN; have o2 := hv; (try simp only [hX_sI, hX_sR, hX_sL, hX_sD, hX_sIa, hX_sRa, hV_sI, hV_sR, hV_sL, hV_sD, hV_sIa, hV_sRa, hX_new, hV_new] at o0 o1 o2 ⊢); omega)
  clear hm1
  unfold fX2_init_b9 at hf
  obtain ⟨hk2, hf⟩ := gd_some hf
  refine p_putRf (v := some _) X fl_X2_9 rfl (by decide) (fun q hq => by cases hq; exact ⟨rfl, rfl⟩) hnm (nar_rf _ (by decide)) (fit_rf _ (by decide)) (dcg dc_X2_init 5 rfl) hk2 ?_
  obtain ⟨h3, rfl, hf⟩ := lt_some hf
  refine p_aload_n X (dcg dc_X2_init 6 rfl) rfl rfl ?_
  refine p_bipush (v := 100) X (dcg dc_X2_init 7 rfl) (by decide) ?_
  obtain ⟨hg4, hf⟩ := gd_some hf
  have hm1 : lez _ (hX r) (hV r) := mX2_init_b17 hf
  have hm2 := lez_new hm1
  refine p_newa20 X tw_168 (dcg dc_X2_init 8 rfl) hg4.1 hg4.2 (show uc + 1 ≤ MC from (by have o0 := hm2.1; have o1 := hM; have o2 := hu; (try simp only [hX_sI, hX_sR, hX_sL, hX_sD, hX_sIa, hX_sRa, hV_sI, hV_sR, hV_sL, hV_sD, hV_sIa, hV_sRa, hX_new, hV_new] at o0 o1 o2 ⊢); omega)) (show us + (Int32.toNatClampNeg (100 : Int32)) ≤ MS from (by have o0 := hm2.2; have o1 := hN; have o2 := hv; (try simp only [hX_sI, hX_sR, hX_sL, hX_sD, hX_sIa, hX_sRa, hV_sI, hV_sR, hV_sL, hV_sD, hV_sIa, hV_sRa, hX_new, hV_new] at o0 o1 o2 ⊢); omega)) ?_
  refine p_pick [0] ?_
  exact wX2_init_b17 X hG hnm hM hN (by have o0 := hu; (try simp only [hX_sI, hX_sR, hX_sL, hX_sD, hX_sIa, hX_sRa, hV_sI, hV_sR, hV_sL, hV_sD, hV_sIa, hV_sRa, hX_new, hV_new] at o0 ⊢); omega) (by have o0 := hv; (try simp only [hX_sI, hX_sR, hX_sL, hX_sD, hX_sIa, hX_sRa, hV_sI, hV_sR, hV_sL, hV_sD, hV_sIa, hV_sRa, hX_new, hV_new] at o0 ⊢); omega) hf 
noncomputable def fX2_init_b0 (v0 : Nat) (h : PH) : Option PH :=
  gd (¬ (100 : Int32) < 0 ∧ (Int32.toNatClampNeg (100 : Int32)) ≤ 1000000) (fX2_init_b9 v0 v0 (hX h) (hnew h 20 (Int32.toNatClampNeg (100 : Int32))))
set_option maxRecDepth 100000 in
theorem mX2_init_b0 {v0 : Nat} {h : PH} {r : PH} (hf : fX2_init_b0 v0 h = some r) : lez h (hX r) (hV r) := by
  unfold fX2_init_b0 at hf
  have hle := lez_rf h
  obtain ⟨hg1, hf⟩ := gd_some hf
  have hle := lez_nw (c := 20) (n := (Int32.toNatClampNeg (100 : Int32))) hle
  exact lez_rt (mX2_init_b9 hf) hle
set_option maxRecDepth 100000 in
theorem wX2_init_b0 {E : PE} {p : Program} {l : Launch} {e : Env} {s : State} {m : MethodId} {args : Array Value} {below : List Frame} {meth : Method} {c : Code} {X0 V0 MC MS uc us : Nat} (X : Cx E p l e (rmv 1 MC MS) s m args below meth c RX2 cX2_init 1 (none)) (hG : Gs E l) (hnm : meth.name = yX2_init.name) {v0 : Nat} {h : PH} {r : PH} (hM : MC + X0 = (hX r)) (hN : MS + V0 = (hV r)) (hu : uc + X0 = hX h) (hv : us + V0 = hV h) (hf : fX2_init_b0 v0 h = some r)  : PW E p l e (rmv 1 MC MS) s m args below meth c 1 uc us (MQ below (QG E (fun v u => v = none ∧ u = r)) args s MC MS (pA E)) h 0 [(0, some (.ref v0))] [] := by
  have hm1 : lez h (hX r) (hV r) := mX2_init_b0 hf
  have hcm : uc ≤ MC := (by have o0 := hm1.1; have o1 := hM; have o2 := hu; (try simp only [hX_sI, hX_sR, hX_sL, hX_sD, hX_sIa, hX_sRa, hV_sI, hV_sR, hV_sL, hV_sD, hV_sIa, hV_sRa, hX_new, hV_new] at o0 o1 o2 ⊢); omega)
  have hsm : us ≤ MS := (by have o0 := hm1.2; have o1 := hN; have o2 := hv; (try simp only [hX_sI, hX_sR, hX_sL, hX_sD, hX_sIa, hX_sRa, hV_sI, hV_sR, hV_sL, hV_sD, hV_sIa, hV_sRa, hX_new, hV_new] at o0 o1 o2 ⊢); omega)
  clear hm1
  unfold fX2_init_b0 at hf
  refine p_aload_n X (dcg dc_X2_init 0 rfl) rfl rfl ?_
  refine p_objinit X tw_306 tw_146 tw_147 (dcg dc_X2_init 1 rfl) (Nat.le_of_ble_eq_true rfl) (Nat.le_trans (Nat.add_le_add_right (room4 (Nat.le_of_ble_eq_true rfl)) 12) (Nat.le_of_ble_eq_true rfl)) (fun ls hl => hl.1.trans X.2.2.1.symm) ?_
  refine p_aload_n X (dcg dc_X2_init 2 rfl) rfl rfl ?_
  refine p_bipush (v := 100) X (dcg dc_X2_init 3 rfl) (by decide) ?_
  obtain ⟨hg1, hf⟩ := gd_some hf
  have hm1 : lez _ (hX r) (hV r) := mX2_init_b9 hf
  have hm2 := lez_new hm1
  refine p_newa20 X tw_168 (dcg dc_X2_init 4 rfl) hg1.1 hg1.2 (show uc + 1 ≤ MC from (by have o0 := hm2.1; have o1 := hM; have o2 := hu; (try simp only [hX_sI, hX_sR, hX_sL, hX_sD, hX_sIa, hX_sRa, hV_sI, hV_sR, hV_sL, hV_sD, hV_sIa, hV_sRa, hX_new, hV_new] at o0 o1 o2 ⊢); omega)) (show us + (Int32.toNatClampNeg (100 : Int32)) ≤ MS from (by have o0 := hm2.2; have o1 := hN; have o2 := hv; (try simp only [hX_sI, hX_sR, hX_sL, hX_sD, hX_sIa, hX_sRa, hV_sI, hV_sR, hV_sL, hV_sD, hV_sIa, hV_sRa, hX_new, hV_new] at o0 o1 o2 ⊢); omega)) ?_
  refine p_pick [0] ?_
  exact wX2_init_b9 X hG hnm hM hN (by have o0 := hu; (try simp only [hX_sI, hX_sR, hX_sL, hX_sD, hX_sIa, hX_sRa, hV_sI, hV_sR, hV_sL, hV_sD, hV_sIa, hV_sRa, hX_new, hV_new] at o0 ⊢); omega) (by have o0 := hv; (try simp only [hX_sI, hX_sR, hX_sL, hX_sD, hX_sIa, hX_sRa, hV_sI, hV_sR, hV_sL, hV_sD, hV_sIa, hV_sRa, hX_new, hV_new] at o0 ⊢); omega) hf 
noncomputable def fX2_init (v0 : Nat) (h : PH) : Option PH :=
  fX2_init_b0 v0 h
set_option maxRecDepth 100000 in
theorem mX2_init {v0 : Nat} {h : PH} {r : PH} (hf : fX2_init v0 h = some r) : lez h (hX r) (hV r) := by
  unfold fX2_init at hf
  have hle := lez_rf h
  exact lez_rt (mX2_init_b0 hf) hle
set_option maxRecDepth 100000 in
theorem wX2_init {E : PE} {l : Launch} (hG : Gs E l) {v0 : Nat} {h : PH} {r : PH} (hf : fX2_init v0 h = some r) : Ct E l 1 ((hX r) - hX h) ((hV r) - hV h) yX2_init cX2_init 1 (none) [.ref v0] h (fun v u => v = none ∧ u = r) := by
  have hm0 := mX2_init hf
  refine ct_of hG (by decide) (Nat.le_of_ble_eq_true rfl) ?_
  intro p e s m args below meth c X hnm
  show PW E p l e _ s m args below meth c _ 0 0 _ h 0 [(0, some (.ref v0))] []
  unfold fX2_init at hf
  have hM := Nat.sub_add_cancel hm0.1
  have hN := Nat.sub_add_cancel hm0.2
  refine p_pick [0] ?_
  exact wX2_init_b0 X hG hnm hM hN (Nat.zero_add _) (Nat.zero_add _) hf
theorem dc_X2_insert : decs cX2_insert [(0, .aload_n 0, 1), (1, .getfield 21, 3), (4, .bipush 100, 2), (6, .if_icmp .lt 4, 3), (9, .return_, 1), (10, .aload_n 0, 1), (11, .getfield 9, 3), (14, .aload_n 0, 1), (15, .getfield 21, 3), (18, .iload_n 1, 1), (19, .iastore, 1), (20, .aload_n 0, 1), (21, .getfield 21, 3), (24, .istore_n 3, 1), (25, .iload_n 3, 1), (26, .ifCond .le 49, 3), (29, .aload_n 0, 1), (30, .getfield 18, 3), (33, .iload_n 3, 1), (34, .iconst 1, 1), (35, .isub, 1), (36, .iaload, 1), (37, .iload_n 2, 1), (38, .if_icmp .ge 37, 3), (41, .aload_n 0, 1), (42, .getfield 15, 3), (45, .iload_n 3, 1), (46, .aload_n 0, 1), (47, .getfield 15, 3), (50, .iload_n 3, 1), (51, .iconst 1, 1), (52, .isub, 1), (53, .iaload, 1), (54, .iastore, 1), (55, .aload_n 0, 1), (56, .getfield 18, 3), (59, .iload_n 3, 1), (60, .aload_n 0, 1), (61, .getfield 18, 3), (64, .iload_n 3, 1), (65, .iconst 1, 1), (66, .isub, 1), (67, .iaload, 1), (68, .iastore, 1), (69, .iinc 3 (-1), 3), (72, .goto (-47), 3), (75, .aload_n 0, 1), (76, .getfield 15, 3), (79, .iload_n 3, 1), (80, .iload_n 1, 1), (81, .iastore, 1), (82, .aload_n 0, 1), (83, .getfield 18, 3), (86, .iload_n 3, 1), (87, .iload_n 2, 1), (88, .iastore, 1), (89, .aload_n 0, 1), (90, .dup, 1), (91, .getfield 21, 3), (94, .iconst 1, 1), (95, .iadd, 1), (96, .putfield 21, 3), (99, .return_, 1)] = true := by decide +kernel
noncomputable def fX2_insert_b75 (v0 : Nat) (v1 : Int32) (v2 : Int32) (v3 : Int32) (h : PH) : Option PH :=
  gd (hK h v0 = 2) (gs (hR h 2 v0 1) (fun a8 =>
  gd (hK h a8 = 20 ∧ inb v3 (hN h a8)) (lt (sI h 20 a8 (Int32.toNatClampNeg v3) v1) (fun h12 =>
  gs (hR h12 2 v0 2) (fun a13 =>
  gd (hK h12 a13 = 20 ∧ inb v3 (hN h12 a13)) (lt (sI h12 20 a13 (Int32.toNatClampNeg v3) v2) (fun h17 =>
  lt (sI h17 2 v0 3 ((hI h17 2 v0 3) + (1 : Int32))) (fun h18 =>
  some (h18)))))))))
set_option maxRecDepth 100000 in
theorem mX2_insert_b75 {v0 : Nat} {v1 : Int32} {v2 : Int32} {v3 : Int32} {h : PH} {r : PH} (hf : fX2_insert_b75 v0 v1 v2 v3 h = some r) : eqz h (hX r) (hV r) := by
  unfold fX2_insert_b75 at hf
  have hle := eqz_rf h
  obtain ⟨hk7, hf⟩ := gd_some hf
  obtain ⟨a8, e9, hf⟩ := gs_some hf
  obtain ⟨⟨hk11, hb10⟩, hf⟩ := gd_some hf
  obtain ⟨h12, rfl, hf⟩ := lt_some hf
  obtain ⟨a13, e14, hf⟩ := gs_some hf
  obtain ⟨⟨hk16, hb15⟩, hf⟩ := gd_some hf
  obtain ⟨h17, rfl, hf⟩ := lt_some hf
  obtain ⟨h18, rfl, hf⟩ := lt_some hf
  have ee := Option.some.inj hf; subst ee; exact hle
set_option maxRecDepth 100000 in
theorem wX2_insert_b75 {E : PE} {p : Program} {l : Launch} {e : Env} {s : State} {m : MethodId} {args : Array Value} {below : List Frame} {meth : Method} {c : Code} (X : Cx E p l e (rmv 0 0 0) s m args below meth c RX2 cX2_insert 4 (none)) (hG : Gs E l) (hnm : meth.name = yX2_insert.name) {v0 : Nat} {v1 : Int32} {v2 : Int32} {v3 : Int32} {h : PH} {r : PH} (hf : fX2_insert_b75 v0 v1 v2 v3 h = some r)  : PW E p l e (rmv 0 0 0) s m args below meth c 4 0 0 (MQ below (QG E (fun v u => v = none ∧ u = r)) args s 0 0 (pA E)) h 75 [(0, some (.ref v0)), (1, some (.int v1)), (2, some (.int v2)), (3, some (.int v3))] [] := by
  unfold fX2_insert_b75 at hf
  refine p_aload_n X (dcg dc_X2_insert 46 rfl) rfl rfl ?_
  obtain ⟨hk7, hf⟩ := gd_some hf
  refine p_getR X fl_X2_15 rfl (by decide) (dcg dc_X2_insert 47 rfl) hk7 ?_
  refine p_iload_n X (dcg dc_X2_insert 48 rfl) rfl rfl ?_
  refine p_iload_n X (dcg dc_X2_insert 49 rfl) rfl rfl ?_
  obtain ⟨a8, e9, hf⟩ := gs_some hf
  first | subst e9 | (try rw [e9])
  obtain ⟨⟨hk11, hb10⟩, hf⟩ := gd_some hf
  refine p_iast X (dcg dc_X2_insert 50 rfl) hk11 (vp_of_inb hb10) ?_
  obtain ⟨h12, rfl, hf⟩ := lt_some hf
  refine p_aload_n X (dcg dc_X2_insert 51 rfl) rfl rfl ?_
  refine p_getR X fl_X2_18 rfl (by decide) (dcg dc_X2_insert 52 rfl) hk7 ?_
  refine p_iload_n X (dcg dc_X2_insert 53 rfl) rfl rfl ?_
  refine p_iload_n X (dcg dc_X2_insert 54 rfl) rfl rfl ?_
  obtain ⟨a13, e14, hf⟩ := gs_some hf
  first | subst e14 | (try rw [e14])
  obtain ⟨⟨hk16, hb15⟩, hf⟩ := gd_some hf
  refine p_iast X (dcg dc_X2_insert 55 rfl) hk16 (vp_of_inb hb15) ?_
  obtain ⟨h17, rfl, hf⟩ := lt_some hf
  refine p_aload_n X (dcg dc_X2_insert 56 rfl) rfl rfl ?_
  refine p_dup X (dcg dc_X2_insert 57 rfl) rfl ?_
  refine p_getI X fl_X2_21 rfl (by decide) (dcg dc_X2_insert 58 rfl) hk7 ?_
  refine p_iconst (v := 1) X (dcg dc_X2_insert 59 rfl) (by decide) ?_
  refine p_iadd X (dcg dc_X2_insert 60 rfl) ?_
  refine p_putI X fl_X2_21 rfl (by decide) (fun q hq => by cases hq; rfl) rfl rfl (dcg dc_X2_insert 61 rfl) hk7 ?_
  obtain ⟨h18, rfl, hf⟩ := lt_some hf
  have er := Option.some.inj hf
  subst er
  exact p_vret X rfl (dcg dc_X2_insert 62 rfl) ⟨rfl, rfl⟩ (Nat.le_refl _) (Nat.le_refl _)
noncomputable def fX2_insert_c25 (v0 : Nat) (v1 : Int32) (v2 : Int32) (v3 : Int32) (h : PH) : Option ((Int32 × PH) ⊕ PH) :=
  if (v3 ≤ 0) then (mr (fX2_insert_b75 v0 v1 v2 v3 h)) else
  gd (hK h v0 = 2) (gs (hR h 2 v0 2) (fun a22 =>
  gd (hK h a22 = 20 ∧ inb (v3 - (1 : Int32)) (hN h a22)) (if (v2 ≤ (hI h 20 a22 (Int32.toNatClampNeg (v3 - (1 : Int32))))) then (mr (fX2_insert_b75 v0 v1 v2 v3 h)) else
  gs (hR h 2 v0 1) (fun a28 =>
  gd (hK h a28 = 20 ∧ inb (v3 - (1 : Int32)) (hN h a28)) (gd (inb v3 (hN h a28)) (lt (sI h 20 a28 (Int32.toNatClampNeg v3) (hI h 20 a28 (Int32.toNatClampNeg (v3 - (1 : Int32))))) (fun h33 =>
  gs (hR h33 2 v0 2) (fun a34 =>
  gd (hK h33 a34 = 20 ∧ inb (v3 - (1 : Int32)) (hN h33 a34)) (gd (inb v3 (hN h33 a34)) (lt (sI h33 20 a34 (Int32.toNatClampNeg v3) (hI h33 20 a34 (Int32.toNatClampNeg (v3 - (1 : Int32))))) (fun h39 =>
  some (.inl ((v3 + (-1)), h39)))))))))))))
set_option maxRecDepth 100000 in
theorem mX2_insert_c25 {v0 : Nat} {v1 : Int32} {v2 : Int32} {v3 : Int32} {h : PH} {x : ((Int32 × PH) ⊕ PH)} (hf : fX2_insert_c25 v0 v1 v2 v3 h = some x) : (∀ w9 : (Int32 × PH), x = .inl w9 → eqz h (hX (w9.2)) (hV (w9.2))) ∧ (∀ w9 : PH, x = .inr w9 → eqz h (hX w9) (hV w9)) := by
  unfold fX2_insert_c25 at hf
  have hle := eqz_rf h
  rcases ite_or hf with ⟨q, hf⟩ | ⟨q, hf⟩
  · have hf := if_t q hf
    obtain ⟨y19, hfm, rfl⟩ := mr_some hf; have hf := hfm; clear hfm
    have cf := mX2_insert_b75 hf
    exact ⟨(fun z e => nomatch e), (fun z e => by cases e <;> exact eqz_rt cf hle)⟩
  · have hf := if_f q hf
    obtain ⟨hk21, hf⟩ := gd_some hf
    obtain ⟨a22, e23, hf⟩ := gs_some hf
    obtain ⟨⟨hk25, hb24⟩, hf⟩ := gd_some hf
    rcases ite_or hf with ⟨q, hf⟩ | ⟨q, hf⟩
    · have hf := if_t q hf
      obtain ⟨y26, hfm, rfl⟩ := mr_some hf; have hf := hfm; clear hfm
      have cf := mX2_insert_b75 hf
      exact ⟨(fun z e => nomatch e), (fun z e => by cases e <;> exact eqz_rt cf hle)⟩
    · have hf := if_f q hf
      obtain ⟨a28, e29, hf⟩ := gs_some hf
      obtain ⟨⟨hk31, hb30⟩, hf⟩ := gd_some hf
      obtain ⟨hb32, hf⟩ := gd_some hf
      obtain ⟨h33, rfl, hf⟩ := lt_some hf
      obtain ⟨a34, e35, hf⟩ := gs_some hf
      obtain ⟨⟨hk37, hb36⟩, hf⟩ := gd_some hf
      obtain ⟨hb38, hf⟩ := gd_some hf
      obtain ⟨h39, rfl, hf⟩ := lt_some hf
      have ee := Option.some.inj hf; subst ee
      exact ⟨(fun z e => by have ee := Sum.inl.inj (e); subst ee; exact hle), (fun z e => nomatch e)⟩
set_option maxRecDepth 100000 in
theorem wX2_insert_c25 {E : PE} {p : Program} {l : Launch} {e : Env} {s : State} {m : MethodId} {args : Array Value} {below : List Frame} {meth : Method} {c : Code} (X : Cx E p l e (rmv 0 0 0) s m args below meth c RX2 cX2_insert 4 (none)) (hG : Gs E l) (hnm : meth.name = yX2_insert.name) {v0 : Nat} {v1 : Int32} {v2 : Int32} {v3 : Int32} {h : PH} {r : PH} {x : ((Int32 × PH) ⊕ PH)} (hf : fX2_insert_c25 v0 v1 v2 v3 h = some x) (k0 : ∀ z : (Int32 × PH), x = .inl z → PW E p l e (rmv 0 0 0) s m args below meth c 4 0 0 (MQ below (QG E (fun v u => v = none ∧ u = r)) args s 0 0 (pA E)) (z.2) 25 [(0, some (.ref v0)), (1, some (.int v1)), (2, some (.int v2)), (3, some (.int (z.1)))] []) (kf : ∀ z : PH, x = .inr z → z = r) : PW E p l e (rmv 0 0 0) s m args below meth c 4 0 0 (MQ below (QG E (fun v u => v = none ∧ u = r)) args s 0 0 (pA E)) h 25 [(0, some (.ref v0)), (1, some (.int v1)), (2, some (.int v2)), (3, some (.int v3))] [] := by
  unfold fX2_insert_c25 at hf
  refine p_iload_n X (dcg dc_X2_insert 14 rfl) rfl rfl ?_
  refine p_if_le (tgt := 75) X (dcg dc_X2_insert 15 rfl) (by decide) (fun q => ?_) (fun q => ?_)
  · have hf := if_t q hf
    obtain ⟨y19, hf, hy20⟩ := mr_some hf
    have hy20f := kf y19 hy20
    subst hy20f
    refine p_pick [0, 1, 2, 3] ?_
    exact wX2_insert_b75 X hG hnm hf 
  · have hf := if_f q hf
    refine p_aload_n X (dcg dc_X2_insert 16 rfl) rfl rfl ?_
    obtain ⟨hk21, hf⟩ := gd_some hf
    refine p_getR X fl_X2_18 rfl (by decide) (dcg dc_X2_insert 17 rfl) hk21 ?_
    refine p_iload_n X (dcg dc_X2_insert 18 rfl) rfl rfl ?_
    refine p_iconst (v := 1) X (dcg dc_X2_insert 19 rfl) (by decide) ?_
    refine p_isub X (dcg dc_X2_insert 20 rfl) ?_
    obtain ⟨a22, e23, hf⟩ := gs_some hf
    first | subst e23 | (try rw [e23])
    obtain ⟨⟨hk25, hb24⟩, hf⟩ := gd_some hf
    refine p_iald X (dcg dc_X2_insert 21 rfl) hk25 (vp_of_inb hb24) ?_
    refine p_iload_n X (dcg dc_X2_insert 22 rfl) rfl rfl ?_
    refine p_icmp_ge (tgt := 75) X (dcg dc_X2_insert 23 rfl) (by decide) (fun q => ?_) (fun q => ?_)
    · have hf := if_t q hf
      obtain ⟨y26, hf, hy27⟩ := mr_some hf
      have hy27f := kf y26 hy27
      subst hy27f
      refine p_pick [0, 1, 2, 3] ?_
      exact wX2_insert_b75 X hG hnm hf 
    · have hf := if_f q hf
      refine p_aload_n X (dcg dc_X2_insert 24 rfl) rfl rfl ?_
      refine p_getR X fl_X2_15 rfl (by decide) (dcg dc_X2_insert 25 rfl) hk21 ?_
      refine p_iload_n X (dcg dc_X2_insert 26 rfl) rfl rfl ?_
      refine p_aload_n X (dcg dc_X2_insert 27 rfl) rfl rfl ?_
      refine p_getR X fl_X2_15 rfl (by decide) (dcg dc_X2_insert 28 rfl) hk21 ?_
      refine p_iload_n X (dcg dc_X2_insert 29 rfl) rfl rfl ?_
      refine p_iconst (v := 1) X (dcg dc_X2_insert 30 rfl) (by decide) ?_
      refine p_isub X (dcg dc_X2_insert 31 rfl) ?_
      obtain ⟨a28, e29, hf⟩ := gs_some hf
      first | subst e29 | (try rw [e29])
      obtain ⟨⟨hk31, hb30⟩, hf⟩ := gd_some hf
      refine p_iald X (dcg dc_X2_insert 32 rfl) hk31 (vp_of_inb hb30) ?_
      obtain ⟨hb32, hf⟩ := gd_some hf
      refine p_iast X (dcg dc_X2_insert 33 rfl) hk31 (vp_of_inb hb32) ?_
      obtain ⟨h33, rfl, hf⟩ := lt_some hf
      refine p_aload_n X (dcg dc_X2_insert 34 rfl) rfl rfl ?_
      refine p_getR X fl_X2_18 rfl (by decide) (dcg dc_X2_insert 35 rfl) hk21 ?_
      refine p_iload_n X (dcg dc_X2_insert 36 rfl) rfl rfl ?_
      refine p_aload_n X (dcg dc_X2_insert 37 rfl) rfl rfl ?_
      refine p_getR X fl_X2_18 rfl (by decide) (dcg dc_X2_insert 38 rfl) hk21 ?_
      refine p_iload_n X (dcg dc_X2_insert 39 rfl) rfl rfl ?_
      refine p_iconst (v := 1) X (dcg dc_X2_insert 40 rfl) (by decide) ?_
      refine p_isub X (dcg dc_X2_insert 41 rfl) ?_
      obtain ⟨a34, e35, hf⟩ := gs_some hf
      first | subst e35 | (try rw [e35])
      obtain ⟨⟨hk37, hb36⟩, hf⟩ := gd_some hf
      refine p_iald X (dcg dc_X2_insert 42 rfl) hk37 (vp_of_inb hb36) ?_
      obtain ⟨hb38, hf⟩ := gd_some hf
      refine p_iast X (dcg dc_X2_insert 43 rfl) hk37 (vp_of_inb hb38) ?_
      obtain ⟨h39, rfl, hf⟩ := lt_some hf
      refine p_iinc (v := -1) X (dcg dc_X2_insert 44 rfl) rfl (by decide) (by decide) rfl ?_
      refine p_goto (tgt := 25) X (dcg dc_X2_insert 45 rfl) (by decide) ?_
      refine p_pick [0, 1, 2, 3] ?_
      exact k0 _ (Option.some.inj hf).symm
noncomputable def fX2_insert_l25 (v0 : Nat) (v1 : Int32) (v2 : Int32) (v3 : Int32) (h : PH) : Option PH := wh (fun z : (Int32 × PH) => fX2_insert_c25 v0 v1 v2 (z.1) (z.2)) (v3, h)
set_option maxRecDepth 100000 in
theorem mX2_insert_l25 {v0 : Nat} {v1 : Int32} {v2 : Int32} {v3 : Int32} {h : PH} {r : PH} (hf : fX2_insert_l25 v0 v1 v2 v3 h = some r) : eqz h (hX r) (hV r) := by
  unfold fX2_insert_l25 at hf
  refine wh_ind (P := fun z => eqz (z.2) (hX r) (hV r)) (fun z x0 hs i1 i2 => ?_) _ hf
  obtain ⟨c0, cf⟩ := mX2_insert_c25 (v0 := v0) (v1 := v1) (v2 := v2) (v3 := z.1) (h := z.2) hs
  rcases hxx : x0 with zz | zz
  · exact eqz_tr (c0 zz hxx) (i1 zz hxx)
  · have ee := i2 zz hxx; subst ee; exact cf zz hxx
set_option maxRecDepth 100000 in
theorem wX2_insert_l25 {E : PE} {p : Program} {l : Launch} {e : Env} {s : State} {m : MethodId} {args : Array Value} {below : List Frame} {meth : Method} {c : Code} (X : Cx E p l e (rmv 0 0 0) s m args below meth c RX2 cX2_insert 4 (none)) (hG : Gs E l) (hnm : meth.name = yX2_insert.name) {v0 : Nat} {v1 : Int32} {v2 : Int32} {v3 : Int32} {h : PH} {r : PH} (hf : fX2_insert_l25 v0 v1 v2 v3 h = some r)  : PW E p l e (rmv 0 0 0) s m args below meth c 4 0 0 (MQ below (QG E (fun v u => v = none ∧ u = r)) args s 0 0 (pA E)) h 25 [(0, some (.ref v0)), (1, some (.int v1)), (2, some (.int v2)), (3, some (.int v3))] [] := by
  unfold fX2_insert_l25 at hf
  refine wh_ind (P := fun z => PW E p l e (rmv 0 0 0) s m args below meth c 4 0 0 (MQ below (QG E (fun v u => v = none ∧ u = r)) args s 0 0 (pA E)) (z.2) 25 [(0, some (.ref v0)), (1, some (.int v1)), (2, some (.int v2)), (3, some (.int (z.1)))] []) (fun z x0 hs i1 i2 => ?_) _ hf
  exact wX2_insert_c25 (r := r) (v0 := v0) (v1 := v1) (v2 := v2) (v3 := z.1) (h := z.2) X hG hnm hs i1  i2
noncomputable def fX2_insert (v0 : Nat) (v1 : Int32) (v2 : Int32) (h : PH) : Option PH :=
  gd (hK h v0 = 2) (if ((hI h 2 v0 3) < (100 : Int32)) then (gs (hR h 2 v0 0) (fun a2 =>
  gd (hK h a2 = 20 ∧ inb (hI h 2 v0 3) (hN h a2)) (lt (sI h 20 a2 (Int32.toNatClampNeg (hI h 2 v0 3)) v1) (fun h6 =>
  fX2_insert_l25 v0 v1 v2 (hI h6 2 v0 3) h6)))) else
  some (h))
set_option maxRecDepth 100000 in
theorem mX2_insert {v0 : Nat} {v1 : Int32} {v2 : Int32} {h : PH} {r : PH} (hf : fX2_insert v0 v1 v2 h = some r) : eqz h (hX r) (hV r) := by
  unfold fX2_insert at hf
  have hle := eqz_rf h
  obtain ⟨hk1, hf⟩ := gd_some hf
  rcases ite_or hf with ⟨q, hf⟩ | ⟨q, hf⟩
  · have hf := if_t q hf
    obtain ⟨a2, e3, hf⟩ := gs_some hf
    obtain ⟨⟨hk5, hb4⟩, hf⟩ := gd_some hf
    obtain ⟨h6, rfl, hf⟩ := lt_some hf
    exact eqz_rt (mX2_insert_l25 hf) hle
  · have hf := if_f q hf
    have ee := Option.some.inj hf; subst ee; exact hle
set_option maxRecDepth 100000 in
theorem wX2_insert {E : PE} {l : Launch} (hG : Gs E l) {v0 : Nat} {v1 : Int32} {v2 : Int32} {h : PH} {r : PH} (hf : fX2_insert v0 v1 v2 h = some r) : Ct E l 0 0 0 yX2_insert cX2_insert 4 (none) [.ref v0, .int v1, .int v2] h (fun v u => v = none ∧ u = r) := by
  refine ct_of hG (by decide) (Nat.le_of_ble_eq_true rfl) ?_
  intro p e s m args below meth c X hnm
  show PW E p l e _ s m args below meth c _ 0 0 _ h 0 [(0, some (.ref v0)), (1, some (.int v1)), (2, some (.int v2))] []
  unfold fX2_insert at hf
  refine p_aload_n X (dcg dc_X2_insert 0 rfl) rfl rfl ?_
  obtain ⟨hk1, hf⟩ := gd_some hf
  refine p_getI X fl_X2_21 rfl (by decide) (dcg dc_X2_insert 1 rfl) hk1 ?_
  refine p_bipush (v := 100) X (dcg dc_X2_insert 2 rfl) (by decide) ?_
  refine p_icmp_lt (tgt := 10) X (dcg dc_X2_insert 3 rfl) (by decide) (fun q => ?_) (fun q => ?_)
  · have hf := if_t q hf
    refine p_aload_n X (dcg dc_X2_insert 5 rfl) rfl rfl ?_
    refine p_getR X fl_X2_9 rfl (by decide) (dcg dc_X2_insert 6 rfl) hk1 ?_
    refine p_aload_n X (dcg dc_X2_insert 7 rfl) rfl rfl ?_
    refine p_getI X fl_X2_21 rfl (by decide) (dcg dc_X2_insert 8 rfl) hk1 ?_
    refine p_iload_n X (dcg dc_X2_insert 9 rfl) rfl rfl ?_
    obtain ⟨a2, e3, hf⟩ := gs_some hf
    first | subst e3 | (try rw [e3])
    obtain ⟨⟨hk5, hb4⟩, hf⟩ := gd_some hf
    refine p_iast X (dcg dc_X2_insert 10 rfl) hk5 (vp_of_inb hb4) ?_
    obtain ⟨h6, rfl, hf⟩ := lt_some hf
    refine p_aload_n X (dcg dc_X2_insert 11 rfl) rfl rfl ?_
    refine p_getI X fl_X2_21 rfl (by decide) (dcg dc_X2_insert 12 rfl) hk1 ?_
    refine p_istore_n X (dcg dc_X2_insert 13 rfl) rfl (by decide) rfl ?_
    refine p_pick [0, 1, 2, 3] ?_
    exact wX2_insert_l25 X hG hnm hf 
  · have hf := if_f q hf
    have er := Option.some.inj hf
    subst er
    exact p_vret X rfl (dcg dc_X2_insert 4 rfl) ⟨rfl, rfl⟩ (Nat.le_refl _) (Nat.le_refl _)
theorem dc_X2_numberAt : decs cX2_numberAt [(0, .iload_n 1, 1), (1, .ifCond .lt 11, 3), (4, .iload_n 1, 1), (5, .aload_n 0, 1), (6, .getfield 21, 3), (9, .if_icmp .lt 7, 3), (12, .iconst (-1), 1), (13, .goto 9, 3), (16, .aload_n 0, 1), (17, .getfield 9, 3), (20, .iload_n 1, 1), (21, .iaload, 1), (22, .ireturn, 1)] = true := by decide +kernel
noncomputable def fX2_numberAt_b22 (t0 : Int32) (h : PH) : Option Int32 :=
  some (t0)
set_option maxRecDepth 100000 in
theorem wX2_numberAt_b22 {E : PE} {p : Program} {l : Launch} {e : Env} {s : State} {m : MethodId} {args : Array Value} {below : List Frame} {meth : Method} {c : Code} (X : Cx E p l e (rmv 0 0 0) s m args below meth c RX2 cX2_numberAt 2 (some .int)) (hG : Gs E l) (hnm : meth.name = yX2_numberAt.name) {t0 : Int32} {h : PH} {r : Int32} (hf : fX2_numberAt_b22 t0 h = some r)  : PW E p l e (rmv 0 0 0) s m args below meth c 2 0 0 (MQ below (QG E (fun v u => v = some (.int r) ∧ u = h)) args s 0 0 (pA E)) h 22 [] [.int t0] := by
  unfold fX2_numberAt_b22 at hf
  have er := Option.some.inj hf
  subst er
  exact p_iret X rfl (dcg dc_X2_numberAt 12 rfl) ⟨rfl, rfl⟩ (Nat.le_refl _) (Nat.le_refl _)
noncomputable def fX2_numberAt_b12  (h : PH) : Option Int32 :=
  fX2_numberAt_b22 (-1 : Int32) h
set_option maxRecDepth 100000 in
theorem wX2_numberAt_b12 {E : PE} {p : Program} {l : Launch} {e : Env} {s : State} {m : MethodId} {args : Array Value} {below : List Frame} {meth : Method} {c : Code} (X : Cx E p l e (rmv 0 0 0) s m args below meth c RX2 cX2_numberAt 2 (some .int)) (hG : Gs E l) (hnm : meth.name = yX2_numberAt.name)  {h : PH} {r : Int32} (hf : fX2_numberAt_b12  h = some r)  : PW E p l e (rmv 0 0 0) s m args below meth c 2 0 0 (MQ below (QG E (fun v u => v = some (.int r) ∧ u = h)) args s 0 0 (pA E)) h 12 [] [] := by
  unfold fX2_numberAt_b12 at hf
  refine p_iconst (v := -1) X (dcg dc_X2_numberAt 6 rfl) (by decide) ?_
  refine p_goto (tgt := 22) X (dcg dc_X2_numberAt 7 rfl) (by decide) ?_
  refine p_pick [] ?_
  exact wX2_numberAt_b22 X hG hnm hf 
noncomputable def fX2_numberAt (v0 : Nat) (v1 : Int32) (h : PH) : Option Int32 :=
  if (v1 < 0) then (fX2_numberAt_b12  h) else
  gd (hK h v0 = 2) (if (v1 < (hI h 2 v0 3)) then (gs (hR h 2 v0 0) (fun a2 =>
  gd (hK h a2 = 20 ∧ inb v1 (hN h a2)) (fX2_numberAt_b22 (hI h 20 a2 (Int32.toNatClampNeg v1)) h))) else
  fX2_numberAt_b12  h)
set_option maxRecDepth 100000 in
theorem wX2_numberAt {E : PE} {l : Launch} (hG : Gs E l) {v0 : Nat} {v1 : Int32} {h : PH} {r : Int32} (hf : fX2_numberAt v0 v1 h = some r) : Ct E l 0 0 0 yX2_numberAt cX2_numberAt 2 (some .int) [.ref v0, .int v1] h (fun v u => v = some (.int r) ∧ u = h) := by
  refine ct_of hG (by decide) (Nat.le_of_ble_eq_true rfl) ?_
  intro p e s m args below meth c X hnm
  show PW E p l e _ s m args below meth c _ 0 0 _ h 0 [(0, some (.ref v0)), (1, some (.int v1))] []
  unfold fX2_numberAt at hf
  refine p_iload_n X (dcg dc_X2_numberAt 0 rfl) rfl rfl ?_
  refine p_if_lt (tgt := 12) X (dcg dc_X2_numberAt 1 rfl) (by decide) (fun q => ?_) (fun q => ?_)
  · have hf := if_t q hf
    refine p_pick [] ?_
    exact wX2_numberAt_b12 X hG hnm hf 
  · have hf := if_f q hf
    refine p_iload_n X (dcg dc_X2_numberAt 2 rfl) rfl rfl ?_
    refine p_aload_n X (dcg dc_X2_numberAt 3 rfl) rfl rfl ?_
    obtain ⟨hk1, hf⟩ := gd_some hf
    refine p_getI X fl_X2_21 rfl (by decide) (dcg dc_X2_numberAt 4 rfl) hk1 ?_
    refine p_icmp_lt (tgt := 16) X (dcg dc_X2_numberAt 5 rfl) (by decide) (fun q => ?_) (fun q => ?_)
    · have hf := if_t q hf
      refine p_aload_n X (dcg dc_X2_numberAt 8 rfl) rfl rfl ?_
      refine p_getR X fl_X2_9 rfl (by decide) (dcg dc_X2_numberAt 9 rfl) hk1 ?_
      refine p_iload_n X (dcg dc_X2_numberAt 10 rfl) rfl rfl ?_
      obtain ⟨a2, e3, hf⟩ := gs_some hf
      first | subst e3 | (try rw [e3])
      obtain ⟨⟨hk5, hb4⟩, hf⟩ := gd_some hf
      refine p_iald X (dcg dc_X2_numberAt 11 rfl) hk5 (vp_of_inb hb4) ?_
      refine p_pick [] ?_
      exact wX2_numberAt_b22 X hG hnm hf 
    · have hf := if_f q hf
      refine p_pick [] ?_
      exact wX2_numberAt_b12 X hG hnm hf 
theorem dc_X2_rankedAt : decs cX2_rankedAt [(0, .iload_n 1, 1), (1, .ifCond .lt 11, 3), (4, .iload_n 1, 1), (5, .aload_n 0, 1), (6, .getfield 21, 3), (9, .if_icmp .lt 7, 3), (12, .iconst (-1), 1), (13, .goto 9, 3), (16, .aload_n 0, 1), (17, .getfield 15, 3), (20, .iload_n 1, 1), (21, .iaload, 1), (22, .ireturn, 1)] = true := by decide +kernel
noncomputable def fX2_rankedAt_b22 (t0 : Int32) (h : PH) : Option Int32 :=
  some (t0)
set_option maxRecDepth 100000 in
theorem wX2_rankedAt_b22 {E : PE} {p : Program} {l : Launch} {e : Env} {s : State} {m : MethodId} {args : Array Value} {below : List Frame} {meth : Method} {c : Code} (X : Cx E p l e (rmv 0 0 0) s m args below meth c RX2 cX2_rankedAt 2 (some .int)) (hG : Gs E l) (hnm : meth.name = yX2_rankedAt.name) {t0 : Int32} {h : PH} {r : Int32} (hf : fX2_rankedAt_b22 t0 h = some r)  : PW E p l e (rmv 0 0 0) s m args below meth c 2 0 0 (MQ below (QG E (fun v u => v = some (.int r) ∧ u = h)) args s 0 0 (pA E)) h 22 [] [.int t0] := by
  unfold fX2_rankedAt_b22 at hf
  have er := Option.some.inj hf
  subst er
  exact p_iret X rfl (dcg dc_X2_rankedAt 12 rfl) ⟨rfl, rfl⟩ (Nat.le_refl _) (Nat.le_refl _)
noncomputable def fX2_rankedAt_b12  (h : PH) : Option Int32 :=
  fX2_rankedAt_b22 (-1 : Int32) h
set_option maxRecDepth 100000 in
theorem wX2_rankedAt_b12 {E : PE} {p : Program} {l : Launch} {e : Env} {s : State} {m : MethodId} {args : Array Value} {below : List Frame} {meth : Method} {c : Code} (X : Cx E p l e (rmv 0 0 0) s m args below meth c RX2 cX2_rankedAt 2 (some .int)) (hG : Gs E l) (hnm : meth.name = yX2_rankedAt.name)  {h : PH} {r : Int32} (hf : fX2_rankedAt_b12  h = some r)  : PW E p l e (rmv 0 0 0) s m args below meth c 2 0 0 (MQ below (QG E (fun v u => v = some (.int r) ∧ u = h)) args s 0 0 (pA E)) h 12 [] [] := by
  unfold fX2_rankedAt_b12 at hf
  refine p_iconst (v := -1) X (dcg dc_X2_rankedAt 6 rfl) (by decide) ?_
  refine p_goto (tgt := 22) X (dcg dc_X2_rankedAt 7 rfl) (by decide) ?_
  refine p_pick [] ?_
  exact wX2_rankedAt_b22 X hG hnm hf 
noncomputable def fX2_rankedAt (v0 : Nat) (v1 : Int32) (h : PH) : Option Int32 :=
  if (v1 < 0) then (fX2_rankedAt_b12  h) else
  gd (hK h v0 = 2) (if (v1 < (hI h 2 v0 3)) then (gs (hR h 2 v0 1) (fun a2 =>
  gd (hK h a2 = 20 ∧ inb v1 (hN h a2)) (fX2_rankedAt_b22 (hI h 20 a2 (Int32.toNatClampNeg v1)) h))) else
  fX2_rankedAt_b12  h)
set_option maxRecDepth 100000 in
theorem wX2_rankedAt {E : PE} {l : Launch} (hG : Gs E l) {v0 : Nat} {v1 : Int32} {h : PH} {r : Int32} (hf : fX2_rankedAt v0 v1 h = some r) : Ct E l 0 0 0 yX2_rankedAt cX2_rankedAt 2 (some .int) [.ref v0, .int v1] h (fun v u => v = some (.int r) ∧ u = h) := by
  refine ct_of hG (by decide) (Nat.le_of_ble_eq_true rfl) ?_
  intro p e s m args below meth c X hnm
  show PW E p l e _ s m args below meth c _ 0 0 _ h 0 [(0, some (.ref v0)), (1, some (.int v1))] []
  unfold fX2_rankedAt at hf
  refine p_iload_n X (dcg dc_X2_rankedAt 0 rfl) rfl rfl ?_
  refine p_if_lt (tgt := 12) X (dcg dc_X2_rankedAt 1 rfl) (by decide) (fun q => ?_) (fun q => ?_)
  · have hf := if_t q hf
    refine p_pick [] ?_
    exact wX2_rankedAt_b12 X hG hnm hf 
  · have hf := if_f q hf
    refine p_iload_n X (dcg dc_X2_rankedAt 2 rfl) rfl rfl ?_
    refine p_aload_n X (dcg dc_X2_rankedAt 3 rfl) rfl rfl ?_
    obtain ⟨hk1, hf⟩ := gd_some hf
    refine p_getI X fl_X2_21 rfl (by decide) (dcg dc_X2_rankedAt 4 rfl) hk1 ?_
    refine p_icmp_lt (tgt := 16) X (dcg dc_X2_rankedAt 5 rfl) (by decide) (fun q => ?_) (fun q => ?_)
    · have hf := if_t q hf
      refine p_aload_n X (dcg dc_X2_rankedAt 8 rfl) rfl rfl ?_
      refine p_getR X fl_X2_15 rfl (by decide) (dcg dc_X2_rankedAt 9 rfl) hk1 ?_
      refine p_iload_n X (dcg dc_X2_rankedAt 10 rfl) rfl rfl ?_
      obtain ⟨a2, e3, hf⟩ := gs_some hf
      first | subst e3 | (try rw [e3])
      obtain ⟨⟨hk5, hb4⟩, hf⟩ := gd_some hf
      refine p_iald X (dcg dc_X2_rankedAt 11 rfl) hk5 (vp_of_inb hb4) ?_
      refine p_pick [] ?_
      exact wX2_rankedAt_b22 X hG hnm hf 
    · have hf := if_f q hf
      refine p_pick [] ?_
      exact wX2_rankedAt_b12 X hG hnm hf 
theorem dc_X2_scoreOf : decs cX2_scoreOf [(0, .iload_n 1, 1), (1, .ifCond .lt 11, 3), (4, .iload_n 1, 1), (5, .aload_n 0, 1), (6, .getfield 21, 3), (9, .if_icmp .lt 7, 3), (12, .iconst (-1), 1), (13, .goto 9, 3), (16, .aload_n 0, 1), (17, .getfield 18, 3), (20, .iload_n 1, 1), (21, .iaload, 1), (22, .ireturn, 1)] = true := by decide +kernel
noncomputable def fX2_scoreOf_b22 (t0 : Int32) (h : PH) : Option Int32 :=
  some (t0)
set_option maxRecDepth 100000 in
theorem wX2_scoreOf_b22 {E : PE} {p : Program} {l : Launch} {e : Env} {s : State} {m : MethodId} {args : Array Value} {below : List Frame} {meth : Method} {c : Code} (X : Cx E p l e (rmv 0 0 0) s m args below meth c RX2 cX2_scoreOf 2 (some .int)) (hG : Gs E l) (hnm : meth.name = yX2_scoreOf.name) {t0 : Int32} {h : PH} {r : Int32} (hf : fX2_scoreOf_b22 t0 h = some r)  : PW E p l e (rmv 0 0 0) s m args below meth c 2 0 0 (MQ below (QG E (fun v u => v = some (.int r) ∧ u = h)) args s 0 0 (pA E)) h 22 [] [.int t0] := by
  unfold fX2_scoreOf_b22 at hf
  have er := Option.some.inj hf
  subst er
  exact p_iret X rfl (dcg dc_X2_scoreOf 12 rfl) ⟨rfl, rfl⟩ (Nat.le_refl _) (Nat.le_refl _)
noncomputable def fX2_scoreOf_b12  (h : PH) : Option Int32 :=
  fX2_scoreOf_b22 (-1 : Int32) h
set_option maxRecDepth 100000 in
theorem wX2_scoreOf_b12 {E : PE} {p : Program} {l : Launch} {e : Env} {s : State} {m : MethodId} {args : Array Value} {below : List Frame} {meth : Method} {c : Code} (X : Cx E p l e (rmv 0 0 0) s m args below meth c RX2 cX2_scoreOf 2 (some .int)) (hG : Gs E l) (hnm : meth.name = yX2_scoreOf.name)  {h : PH} {r : Int32} (hf : fX2_scoreOf_b12  h = some r)  : PW E p l e (rmv 0 0 0) s m args below meth c 2 0 0 (MQ below (QG E (fun v u => v = some (.int r) ∧ u = h)) args s 0 0 (pA E)) h 12 [] [] := by
  unfold fX2_scoreOf_b12 at hf
  refine p_iconst (v := -1) X (dcg dc_X2_scoreOf 6 rfl) (by decide) ?_
  refine p_goto (tgt := 22) X (dcg dc_X2_scoreOf 7 rfl) (by decide) ?_
  refine p_pick [] ?_
  exact wX2_scoreOf_b22 X hG hnm hf 
noncomputable def fX2_scoreOf (v0 : Nat) (v1 : Int32) (h : PH) : Option Int32 :=
  if (v1 < 0) then (fX2_scoreOf_b12  h) else
  gd (hK h v0 = 2) (if (v1 < (hI h 2 v0 3)) then (gs (hR h 2 v0 2) (fun a2 =>
  gd (hK h a2 = 20 ∧ inb v1 (hN h a2)) (fX2_scoreOf_b22 (hI h 20 a2 (Int32.toNatClampNeg v1)) h))) else
  fX2_scoreOf_b12  h)
set_option maxRecDepth 100000 in
theorem wX2_scoreOf {E : PE} {l : Launch} (hG : Gs E l) {v0 : Nat} {v1 : Int32} {h : PH} {r : Int32} (hf : fX2_scoreOf v0 v1 h = some r) : Ct E l 0 0 0 yX2_scoreOf cX2_scoreOf 2 (some .int) [.ref v0, .int v1] h (fun v u => v = some (.int r) ∧ u = h) := by
  refine ct_of hG (by decide) (Nat.le_of_ble_eq_true rfl) ?_
  intro p e s m args below meth c X hnm
  show PW E p l e _ s m args below meth c _ 0 0 _ h 0 [(0, some (.ref v0)), (1, some (.int v1))] []
  unfold fX2_scoreOf at hf
  refine p_iload_n X (dcg dc_X2_scoreOf 0 rfl) rfl rfl ?_
  refine p_if_lt (tgt := 12) X (dcg dc_X2_scoreOf 1 rfl) (by decide) (fun q => ?_) (fun q => ?_)
  · have hf := if_t q hf
    refine p_pick [] ?_
    exact wX2_scoreOf_b12 X hG hnm hf 
  · have hf := if_f q hf
    refine p_iload_n X (dcg dc_X2_scoreOf 2 rfl) rfl rfl ?_
    refine p_aload_n X (dcg dc_X2_scoreOf 3 rfl) rfl rfl ?_
    obtain ⟨hk1, hf⟩ := gd_some hf
    refine p_getI X fl_X2_21 rfl (by decide) (dcg dc_X2_scoreOf 4 rfl) hk1 ?_
    refine p_icmp_lt (tgt := 16) X (dcg dc_X2_scoreOf 5 rfl) (by decide) (fun q => ?_) (fun q => ?_)
    · have hf := if_t q hf
      refine p_aload_n X (dcg dc_X2_scoreOf 8 rfl) rfl rfl ?_
      refine p_getR X fl_X2_18 rfl (by decide) (dcg dc_X2_scoreOf 9 rfl) hk1 ?_
      refine p_iload_n X (dcg dc_X2_scoreOf 10 rfl) rfl rfl ?_
      obtain ⟨a2, e3, hf⟩ := gs_some hf
      first | subst e3 | (try rw [e3])
      obtain ⟨⟨hk5, hb4⟩, hf⟩ := gd_some hf
      refine p_iald X (dcg dc_X2_scoreOf 11 rfl) hk5 (vp_of_inb hb4) ?_
      refine p_pick [] ?_
      exact wX2_scoreOf_b22 X hG hnm hf 
    · have hf := if_f q hf
      refine p_pick [] ?_
      exact wX2_scoreOf_b12 X hG hnm hf 
theorem dc_X9_init : decs cX9_init [(0, .aload_n 0, 1), (1, .invokespecial 3, 3), (4, .return_, 1)] = true := by decide +kernel
noncomputable def fX9_init (v0 : Nat) : Option Unit :=
  some (())
set_option maxRecDepth 100000 in
theorem wX9_init {E : PE} {l : Launch} (hG : Gs E l) {v0 : Nat} {h : PH} {r : Unit} (hf : fX9_init v0 = some r) : Ct E l 1 0 0 yX9_init cX9_init 1 (none) [.ref v0] h (fun v u => v = none ∧ u = h) := by
  refine ct_of hG (by decide) (Nat.le_of_ble_eq_true rfl) ?_
  intro p e s m args below meth c X hnm
  show PW E p l e _ s m args below meth c _ 0 0 _ h 0 [(0, some (.ref v0))] []
  unfold fX9_init at hf
  refine p_aload_n X (dcg dc_X9_init 0 rfl) rfl rfl ?_
  refine p_objinit X tw_270 tw_146 tw_147 (dcg dc_X9_init 1 rfl) (Nat.le_of_ble_eq_true rfl) (Nat.le_trans (Nat.add_le_add_right (room4 (Nat.le_of_ble_eq_true rfl)) 12) (Nat.le_of_ble_eq_true rfl)) (fun ls hl => hl.1.trans X.2.2.1.symm) ?_
  have er := Option.some.inj hf
  subst er
  exact p_vret X rfl (dcg dc_X9_init 2 rfl) ⟨rfl, rfl⟩ (Nat.le_refl _) (Nat.le_refl _)
theorem dc_X10_init : decs cX10_init [(0, .aload_n 0, 1), (1, .invokespecial 1, 3), (4, .aload_n 0, 1), (5, .iload_n 1, 1), (6, .putfield 7, 3), (9, .aload_n 0, 1), (10, .iload_n 2, 1), (11, .putfield 13, 3), (14, .aload_n 0, 1), (15, .new 16, 3), (18, .dup, 1), (19, .invokespecial 18, 3), (22, .putfield 19, 3), (25, .return_, 1)] = true := by decide +kernel
noncomputable def fX10_init_b18 (t0 : Nat) (t1 : Nat) (h : PH) : Option PH :=
  bd (fX9_init t1) (fun z4 =>
  gd (hK h t0 = 10) (lt (sR h 10 t0 2 (some t1)) (fun h6 =>
  some (h6))))
set_option maxRecDepth 100000 in
theorem mX10_init_b18 {t0 : Nat} {t1 : Nat} {h : PH} {r : PH} (hf : fX10_init_b18 t0 t1 h = some r) : lez h (hX r) (hV r) := by
  unfold fX10_init_b18 at hf
  have hle := lez_rf h
  obtain ⟨z4, hz4, hf⟩ := bd_some hf
  obtain ⟨hk5, hf⟩ := gd_some hf
  obtain ⟨h6, rfl, hf⟩ := lt_some hf
  have ee := Option.some.inj hf; subst ee; exact hle
set_option maxRecDepth 100000 in
theorem wX10_init_b18 {E : PE} {p : Program} {l : Launch} {e : Env} {s : State} {m : MethodId} {args : Array Value} {below : List Frame} {meth : Method} {c : Code} {X0 V0 MC MS uc us : Nat} (X : Cx E p l e (rmv 2 MC MS) s m args below meth c RX10 cX10_init 3 (none)) (hG : Gs E l) (hnm : meth.name = yX10_init.name) {t0 : Nat} {t1 : Nat} {h : PH} {r : PH} (hM : MC + X0 = (hX r)) (hN : MS + V0 = (hV r)) (hu : uc + X0 = hX h) (hv : us + V0 = hV h) (hf : fX10_init_b18 t0 t1 h = some r)  : PW E p l e (rmv 2 MC MS) s m args below meth c 3 uc us (MQ below (QG E (fun v u => v = none ∧ u = r)) args s MC MS (pA E)) h 18 [] [.ref t1, .ref t0] := by
  have hm1 : lez h (hX r) (hV r) := mX10_init_b18 hf
  have hcm : uc ≤ MC := (by have o0 := hm1.1; have o1 := hM; have o2 := hu; (try simp only [hX_sI, hX_sR, hX_sL, hX_sD, hX_sIa, hX_sRa, hV_sI, hV_sR, hV_sL, hV_sD, hV_sIa, hV_sRa, hX_new, hV_new] at o0 o1 o2 ⊢); omega)
  have hsm : us ≤ MS := (by have o0 := hm1.2; have o1 := hN; have o2 := hv; (try simp only [hX_sI, hX_sR, hX_sL, hX_sD, hX_sIa, hX_sRa, hV_sI, hV_sR, hV_sL, hV_sD, hV_sIa, hV_sRa, hX_new, hV_new] at o0 o1 o2 ⊢); omega)
  clear hm1
  unfold fX10_init_b18 at hf
  refine p_dup X (dcg dc_X10_init 10 rfl) rfl ?_
  obtain ⟨z4, hz4, hf⟩ := bd_some hf
  refine p_callIn (As := []) (ret1 := none) X ml_X10_18 (dcg dc_X10_init 11 rfl) rfl rfl  (wX9_init hG hz4) (by decide) (room4 (Nat.le_of_ble_eq_true rfl)) hcm hsm ?_
  rintro _ u9 ⟨rfl, e9⟩; have e9 := e9.symm; subst e9
  obtain ⟨hk5, hf⟩ := gd_some hf
  refine p_putRf (v := some _) X fl_X10_19 rfl (by decide) (fun q hq => by cases hq; exact ⟨rfl, rfl⟩) hnm (nar_rf _ (by decide)) (fit_rf _ (by decide)) (dcg dc_X10_init 12 rfl) hk5 ?_
  obtain ⟨h6, rfl, hf⟩ := lt_some hf
  have er := Option.some.inj hf
  subst er
  exact p_vret X rfl (dcg dc_X10_init 13 rfl) ⟨rfl, rfl⟩ hcm hsm
noncomputable def fX10_init_b0 (v0 : Nat) (v1 : Int32) (v2 : Int32) (h : PH) : Option PH :=
  gd (hK h v0 = 10) (lt (sI h 10 v0 0 v1) (fun h2 =>
  lt (sI h2 10 v0 1 v2) (fun h3 =>
  fX10_init_b18 v0 (hX h3) (hnew h3 9 2))))
set_option maxRecDepth 100000 in
theorem mX10_init_b0 {v0 : Nat} {v1 : Int32} {v2 : Int32} {h : PH} {r : PH} (hf : fX10_init_b0 v0 v1 v2 h = some r) : lez h (hX r) (hV r) := by
  unfold fX10_init_b0 at hf
  have hle := lez_rf h
  obtain ⟨hk1, hf⟩ := gd_some hf
  obtain ⟨h2, rfl, hf⟩ := lt_some hf
  obtain ⟨h3, rfl, hf⟩ := lt_some hf
  have hle := lez_nw (c := 9) (n := 2) hle
  exact lez_rt (mX10_init_b18 hf) hle
set_option maxRecDepth 100000 in
theorem wX10_init_b0 {E : PE} {p : Program} {l : Launch} {e : Env} {s : State} {m : MethodId} {args : Array Value} {below : List Frame} {meth : Method} {c : Code} {X0 V0 MC MS uc us : Nat} (X : Cx E p l e (rmv 2 MC MS) s m args below meth c RX10 cX10_init 3 (none)) (hG : Gs E l) (hnm : meth.name = yX10_init.name) {v0 : Nat} {v1 : Int32} {v2 : Int32} {h : PH} {r : PH} (hM : MC + X0 = (hX r)) (hN : MS + V0 = (hV r)) (hu : uc + X0 = hX h) (hv : us + V0 = hV h) (hf : fX10_init_b0 v0 v1 v2 h = some r)  : PW E p l e (rmv 2 MC MS) s m args below meth c 3 uc us (MQ below (QG E (fun v u => v = none ∧ u = r)) args s MC MS (pA E)) h 0 [(0, some (.ref v0)), (1, some (.int v1)), (2, some (.int v2))] [] := by
  have hm1 : lez h (hX r) (hV r) := mX10_init_b0 hf
  have hcm : uc ≤ MC := (by have o0 := hm1.1; have o1 := hM; have o2 := hu; (try simp only [hX_sI, hX_sR, hX_sL, hX_sD, hX_sIa, hX_sRa, hV_sI, hV_sR, hV_sL, hV_sD, hV_sIa, hV_sRa, hX_new, hV_new] at o0 o1 o2 ⊢); omega)
  have hsm : us ≤ MS := (by have o0 := hm1.2; have o1 := hN; have o2 := hv; (try simp only [hX_sI, hX_sR, hX_sL, hX_sD, hX_sIa, hX_sRa, hV_sI, hV_sR, hV_sL, hV_sD, hV_sIa, hV_sRa, hX_new, hV_new] at o0 o1 o2 ⊢); omega)
  clear hm1
  unfold fX10_init_b0 at hf
  refine p_aload_n X (dcg dc_X10_init 0 rfl) rfl rfl ?_
  refine p_objinit X tw_510 tw_146 tw_147 (dcg dc_X10_init 1 rfl) (Nat.le_of_ble_eq_true rfl) (Nat.le_trans (Nat.add_le_add_right (room4 (Nat.le_of_ble_eq_true rfl)) 12) (Nat.le_of_ble_eq_true rfl)) (fun ls hl => hl.1.trans X.2.2.1.symm) ?_
  refine p_aload_n X (dcg dc_X10_init 2 rfl) rfl rfl ?_
  refine p_iload_n X (dcg dc_X10_init 3 rfl) rfl rfl ?_
  obtain ⟨hk1, hf⟩ := gd_some hf
  refine p_putIf X fl_X10_7 rfl (by decide) (fun q hq => by cases hq; exact ⟨rfl, rfl⟩) hnm rfl rfl (dcg dc_X10_init 4 rfl) hk1 ?_
  obtain ⟨h2, rfl, hf⟩ := lt_some hf
  refine p_aload_n X (dcg dc_X10_init 5 rfl) rfl rfl ?_
  refine p_iload_n X (dcg dc_X10_init 6 rfl) rfl rfl ?_
  refine p_putIf X fl_X10_13 rfl (by decide) (fun q hq => by cases hq; exact ⟨rfl, rfl⟩) hnm rfl rfl (dcg dc_X10_init 7 rfl) hk1 ?_
  obtain ⟨h3, rfl, hf⟩ := lt_some hf
  refine p_aload_n X (dcg dc_X10_init 8 rfl) rfl rfl ?_
  have hm1 : lez _ (hX r) (hV r) := mX10_init_b18 hf
  have hm2 := lez_new hm1
  refine p_newN (ci := 9) (q := (RX9, TX9, 2)) (n := 2) X rfl rfl (by decide) tw_511 tw_266 tw_108 (dcg dc_X10_init 9 rfl) (show uc + 1 ≤ MC from (by have o0 := hm2.1; have o1 := hM; have o2 := hu; (try simp only [hX_sI, hX_sR, hX_sL, hX_sD, hX_sIa, hX_sRa, hV_sI, hV_sR, hV_sL, hV_sD, hV_sIa, hV_sRa, hX_new, hV_new] at o0 o1 o2 ⊢); omega)) (show us + 2 ≤ MS from (by have o0 := hm2.2; have o1 := hN; have o2 := hv; (try simp only [hX_sI, hX_sR, hX_sL, hX_sD, hX_sIa, hX_sRa, hV_sI, hV_sR, hV_sL, hV_sD, hV_sIa, hV_sRa, hX_new, hV_new] at o0 o1 o2 ⊢); omega)) ?_
  refine p_pick [] ?_
  exact wX10_init_b18 X hG hnm hM hN (by have o0 := hu; (try simp only [hX_sI, hX_sR, hX_sL, hX_sD, hX_sIa, hX_sRa, hV_sI, hV_sR, hV_sL, hV_sD, hV_sIa, hV_sRa, hX_new, hV_new] at o0 ⊢); omega) (by have o0 := hv; (try simp only [hX_sI, hX_sR, hX_sL, hX_sD, hX_sIa, hX_sRa, hV_sI, hV_sR, hV_sL, hV_sD, hV_sIa, hV_sRa, hX_new, hV_new] at o0 ⊢); omega) hf 
noncomputable def fX10_init (v0 : Nat) (v1 : Int32) (v2 : Int32) (h : PH) : Option PH :=
  fX10_init_b0 v0 v1 v2 h
set_option maxRecDepth 100000 in
theorem mX10_init {v0 : Nat} {v1 : Int32} {v2 : Int32} {h : PH} {r : PH} (hf : fX10_init v0 v1 v2 h = some r) : lez h (hX r) (hV r) := by
  unfold fX10_init at hf
  have hle := lez_rf h
  exact lez_rt (mX10_init_b0 hf) hle
set_option maxRecDepth 100000 in
theorem wX10_init {E : PE} {l : Launch} (hG : Gs E l) {v0 : Nat} {v1 : Int32} {v2 : Int32} {h : PH} {r : PH} (hf : fX10_init v0 v1 v2 h = some r) : Ct E l 2 ((hX r) - hX h) ((hV r) - hV h) yX10_init cX10_init 3 (none) [.ref v0, .int v1, .int v2] h (fun v u => v = none ∧ u = r) := by
  have hm0 := mX10_init hf
  refine ct_of hG (by decide) (Nat.le_of_ble_eq_true rfl) ?_
  intro p e s m args below meth c X hnm
  show PW E p l e _ s m args below meth c _ 0 0 _ h 0 [(0, some (.ref v0)), (1, some (.int v1)), (2, some (.int v2))] []
  unfold fX10_init at hf
  have hM := Nat.sub_add_cancel hm0.1
  have hN := Nat.sub_add_cancel hm0.2
  refine p_pick [0, 1, 2] ?_
  exact wX10_init_b0 X hG hnm hM hN (Nat.zero_add _) (Nat.zero_add _) hf
theorem dc_X9_put : decs cX9_put [(0, .iload_n 1, 1), (1, .bipush 64, 2), (3, .if_icmp .ge 18, 3), (6, .aload_n 0, 1), (7, .dup, 1), (8, .getfield 11, 3), (11, .lconst 1, 1), (12, .iload_n 1, 1), (13, .lshl, 1), (14, .lor, 1), (15, .putfield 11, 3), (18, .goto 18, 3), (21, .aload_n 0, 1), (22, .dup, 1), (23, .getfield 15, 3), (26, .lconst 1, 1), (27, .iload_n 1, 1), (28, .bipush 64, 2), (30, .isub, 1), (31, .lshl, 1), (32, .lor, 1), (33, .putfield 15, 3), (36, .return_, 1)] = true := by decide +kernel
noncomputable def fX9_put_b36  (h : PH) : Option PH :=
  some (h)
set_option maxRecDepth 100000 in
theorem mX9_put_b36  {h : PH} {r : PH} (hf : fX9_put_b36  h = some r) : eqz h (hX r) (hV r) := by
  unfold fX9_put_b36 at hf
  have hle := eqz_rf h
  have ee := Option.some.inj hf; subst ee; exact hle
set_option maxRecDepth 100000 in
theorem wX9_put_b36 {E : PE} {p : Program} {l : Launch} {e : Env} {s : State} {m : MethodId} {args : Array Value} {below : List Frame} {meth : Method} {c : Code} (X : Cx E p l e (rmv 0 0 0) s m args below meth c RX9 cX9_put 2 (none)) (hG : Gs E l) (hnm : meth.name = yX9_put.name)  {h : PH} {r : PH} (hf : fX9_put_b36  h = some r)  : PW E p l e (rmv 0 0 0) s m args below meth c 2 0 0 (MQ below (QG E (fun v u => v = none ∧ u = r)) args s 0 0 (pA E)) h 36 [] [] := by
  unfold fX9_put_b36 at hf
  have er := Option.some.inj hf
  subst er
  exact p_vret X rfl (dcg dc_X9_put 22 rfl) ⟨rfl, rfl⟩ (Nat.le_refl _) (Nat.le_refl _)
noncomputable def fX9_put (v0 : Nat) (v1 : Int32) (h : PH) : Option PH :=
  if ((64 : Int32) ≤ v1) then (gd (hK h v0 = 9) (lt (sL h 9 v0 1 ((hL h 9 v0 1) ||| ((1 : Int64) <<< (Int32.toInt64 (v1 - (64 : Int32)) &&& 63)))) (fun h2 =>
  fX9_put_b36  h2))) else
  gd (hK h v0 = 9) (lt (sL h 9 v0 0 ((hL h 9 v0 0) ||| ((1 : Int64) <<< (Int32.toInt64 v1 &&& 63)))) (fun h4 =>
  fX9_put_b36  h4))
set_option maxRecDepth 100000 in
theorem mX9_put {v0 : Nat} {v1 : Int32} {h : PH} {r : PH} (hf : fX9_put v0 v1 h = some r) : eqz h (hX r) (hV r) := by
  unfold fX9_put at hf
  have hle := eqz_rf h
  rcases ite_or hf with ⟨q, hf⟩ | ⟨q, hf⟩
  · have hf := if_t q hf
    obtain ⟨hk1, hf⟩ := gd_some hf
    obtain ⟨h2, rfl, hf⟩ := lt_some hf
    exact eqz_rt (mX9_put_b36 hf) hle
  · have hf := if_f q hf
    obtain ⟨hk3, hf⟩ := gd_some hf
    obtain ⟨h4, rfl, hf⟩ := lt_some hf
    exact eqz_rt (mX9_put_b36 hf) hle
set_option maxRecDepth 100000 in
theorem wX9_put {E : PE} {l : Launch} (hG : Gs E l) {v0 : Nat} {v1 : Int32} {h : PH} {r : PH} (hf : fX9_put v0 v1 h = some r) : Ct E l 0 0 0 yX9_put cX9_put 2 (none) [.ref v0, .int v1] h (fun v u => v = none ∧ u = r) := by
  refine ct_of hG (by decide) (Nat.le_of_ble_eq_true rfl) ?_
  intro p e s m args below meth c X hnm
  show PW E p l e _ s m args below meth c _ 0 0 _ h 0 [(0, some (.ref v0)), (1, some (.int v1))] []
  unfold fX9_put at hf
  refine p_iload_n X (dcg dc_X9_put 0 rfl) rfl rfl ?_
  refine p_bipush (v := 64) X (dcg dc_X9_put 1 rfl) (by decide) ?_
  refine p_icmp_ge (tgt := 21) X (dcg dc_X9_put 2 rfl) (by decide) (fun q => ?_) (fun q => ?_)
  · have hf := if_t q hf
    refine p_aload_n X (dcg dc_X9_put 12 rfl) rfl rfl ?_
    refine p_dup X (dcg dc_X9_put 13 rfl) rfl ?_
    obtain ⟨hk1, hf⟩ := gd_some hf
    refine p_getL X fl_X9_15 rfl (by decide) (dcg dc_X9_put 14 rfl) hk1 ?_
    refine p_lconst (v := 1) X (dcg dc_X9_put 15 rfl) (by decide) ?_
    refine p_iload_n X (dcg dc_X9_put 16 rfl) rfl rfl ?_
    refine p_bipush (v := 64) X (dcg dc_X9_put 17 rfl) (by decide) ?_
    refine p_isub X (dcg dc_X9_put 18 rfl) ?_
    refine p_lshl X (dcg dc_X9_put 19 rfl) ?_
    refine p_lor X (dcg dc_X9_put 20 rfl) ?_
    refine p_putL X fl_X9_15 rfl (by decide) (fun q hq => by cases hq; rfl) rfl rfl (dcg dc_X9_put 21 rfl) hk1 ?_
    obtain ⟨h2, rfl, hf⟩ := lt_some hf
    refine p_pick [] ?_
    exact wX9_put_b36 X hG hnm hf 
  · have hf := if_f q hf
    refine p_aload_n X (dcg dc_X9_put 3 rfl) rfl rfl ?_
    refine p_dup X (dcg dc_X9_put 4 rfl) rfl ?_
    obtain ⟨hk3, hf⟩ := gd_some hf
    refine p_getL X fl_X9_11 rfl (by decide) (dcg dc_X9_put 5 rfl) hk3 ?_
    refine p_lconst (v := 1) X (dcg dc_X9_put 6 rfl) (by decide) ?_
    refine p_iload_n X (dcg dc_X9_put 7 rfl) rfl rfl ?_
    refine p_lshl X (dcg dc_X9_put 8 rfl) ?_
    refine p_lor X (dcg dc_X9_put 9 rfl) ?_
    refine p_putL X fl_X9_11 rfl (by decide) (fun q hq => by cases hq; rfl) rfl rfl (dcg dc_X9_put 10 rfl) hk3 ?_
    obtain ⟨h4, rfl, hf⟩ := lt_some hf
    refine p_goto (tgt := 36) X (dcg dc_X9_put 11 rfl) (by decide) ?_
    refine p_pick [] ?_
    exact wX9_put_b36 X hG hnm hf 
theorem dc_X8_placeOf : decs cX8_placeOf [(0, .iload_n 2, 1), (1, .istore_n 3, 1), (2, .iconst 0, 1), (3, .istore 4, 2), (5, .iload 4, 2), (7, .aload_n 0, 1), (8, .getfield 15, 3), (11, .if_icmp .ge 34, 3), (14, .iload_n 3, 1), (15, .ifCond .lt 30, 3), (18, .aload_n 0, 1), (19, .getfield 11, 3), (22, .iload 4, 2), (24, .iaload, 1), (25, .iload_n 1, 1), (26, .if_icmp .ne 13, 3), (29, .iload_n 3, 1), (30, .ifCond .ne 6, 3), (33, .iload 4, 2), (35, .ireturn, 1), (36, .iinc 3 (-1), 3), (39, .iinc 4 1, 3), (42, .goto (-37), 3), (45, .iconst (-1), 1), (46, .ireturn, 1)] = true := by decide +kernel
noncomputable def fX8_placeOf_b45  (h : PH) : Option Int32 :=
  some ((-1 : Int32))
set_option maxRecDepth 100000 in
theorem wX8_placeOf_b45 {E : PE} {p : Program} {l : Launch} {e : Env} {s : State} {m : MethodId} {args : Array Value} {below : List Frame} {meth : Method} {c : Code} (X : Cx E p l e (rmv 0 0 0) s m args below meth c RX8 cX8_placeOf 5 (some .int)) (hG : Gs E l) (hnm : meth.name = yX8_placeOf.name)  {h : PH} {r : Int32} (hf : fX8_placeOf_b45  h = some r)  : PW E p l e (rmv 0 0 0) s m args below meth c 5 0 0 (MQ below (QG E (fun v u => v = some (.int r) ∧ u = h)) args s 0 0 (pA E)) h 45 [] [] := by
  unfold fX8_placeOf_b45 at hf
  refine p_iconst (v := -1) X (dcg dc_X8_placeOf 23 rfl) (by decide) ?_
  have er := Option.some.inj hf
  subst er
  exact p_iret X rfl (dcg dc_X8_placeOf 24 rfl) ⟨rfl, rfl⟩ (Nat.le_refl _) (Nat.le_refl _)
noncomputable def fX8_placeOf_b39 (v0 : Nat) (v1 : Int32) (v3 : Int32) (v4 : Int32) (h : PH) : Option ((Int32 × Int32) ⊕ Int32) :=
  some (.inl (v3, (v4 + 1)))
set_option maxRecDepth 100000 in
theorem wX8_placeOf_b39 {E : PE} {p : Program} {l : Launch} {e : Env} {s : State} {m : MethodId} {args : Array Value} {below : List Frame} {meth : Method} {c : Code} (X : Cx E p l e (rmv 0 0 0) s m args below meth c RX8 cX8_placeOf 5 (some .int)) (hG : Gs E l) (hnm : meth.name = yX8_placeOf.name) {v0 : Nat} {v1 : Int32} {v3 : Int32} {v4 : Int32} {h : PH} {r : Int32} {x : ((Int32 × Int32) ⊕ Int32)} (hf : fX8_placeOf_b39 v0 v1 v3 v4 h = some x) (k0 : ∀ z : (Int32 × Int32), x = .inl z → PW E p l e (rmv 0 0 0) s m args below meth c 5 0 0 (MQ below (QG E (fun v u => v = some (.int r) ∧ u = h)) args s 0 0 (pA E)) h 5 [(0, some (.ref v0)), (1, some (.int v1)), (3, some (.int (z.1))), (4, some (.int (z.2)))] []) (kf : ∀ z : Int32, x = .inr z → z = r) : PW E p l e (rmv 0 0 0) s m args below meth c 5 0 0 (MQ below (QG E (fun v u => v = some (.int r) ∧ u = h)) args s 0 0 (pA E)) h 39 [(0, some (.ref v0)), (1, some (.int v1)), (3, some (.int v3)), (4, some (.int v4))] [] := by
  unfold fX8_placeOf_b39 at hf
  refine p_iinc (v := 1) X (dcg dc_X8_placeOf 21 rfl) rfl (by decide) (by decide) rfl ?_
  refine p_goto (tgt := 5) X (dcg dc_X8_placeOf 22 rfl) (by decide) ?_
  refine p_pick [0, 1, 3, 4] ?_
  exact k0 _ (Option.some.inj hf).symm
noncomputable def fX8_placeOf_c5 (v0 : Nat) (v1 : Int32) (v3 : Int32) (v4 : Int32) (h : PH) : Option ((Int32 × Int32) ⊕ Int32) :=
  gd (hK h v0 = 8) (if ((hI h 8 v0 1) ≤ v4) then (mr (fX8_placeOf_b45  h)) else
  if (v3 < 0) then (mr (fX8_placeOf_b45  h)) else
  gs (hR h 8 v0 0) (fun a6 =>
  gd (hK h a6 = 20 ∧ inb v4 (hN h a6)) (if (¬ (hI h 20 a6 (Int32.toNatClampNeg v4)) = v1) then (fX8_placeOf_b39 v0 v1 v3 v4 h) else
  if (¬ v3 = 0) then (fX8_placeOf_b39 v0 v1 (v3 + (-1)) v4 h) else
  mr (some (v4)))))
set_option maxRecDepth 100000 in
theorem wX8_placeOf_c5 {E : PE} {p : Program} {l : Launch} {e : Env} {s : State} {m : MethodId} {args : Array Value} {below : List Frame} {meth : Method} {c : Code} (X : Cx E p l e (rmv 0 0 0) s m args below meth c RX8 cX8_placeOf 5 (some .int)) (hG : Gs E l) (hnm : meth.name = yX8_placeOf.name) {v0 : Nat} {v1 : Int32} {v3 : Int32} {v4 : Int32} {h : PH} {r : Int32} {x : ((Int32 × Int32) ⊕ Int32)} (hf : fX8_placeOf_c5 v0 v1 v3 v4 h = some x) (k0 : ∀ z : (Int32 × Int32), x = .inl z → PW E p l e (rmv 0 0 0) s m args below meth c 5 0 0 (MQ below (QG E (fun v u => v = some (.int r) ∧ u = h)) args s 0 0 (pA E)) h 5 [(0, some (.ref v0)), (1, some (.int v1)), (3, some (.int (z.1))), (4, some (.int (z.2)))] []) (kf : ∀ z : Int32, x = .inr z → z = r) : PW E p l e (rmv 0 0 0) s m args below meth c 5 0 0 (MQ below (QG E (fun v u => v = some (.int r) ∧ u = h)) args s 0 0 (pA E)) h 5 [(0, some (.ref v0)), (1, some (.int v1)), (3, some (.int v3)), (4, some (.int v4))] [] := by
  unfold fX8_placeOf_c5 at hf
  refine p_iload X (dcg dc_X8_placeOf 4 rfl) rfl ?_
  refine p_aload_n X (dcg dc_X8_placeOf 5 rfl) rfl rfl ?_
  obtain ⟨hk1, hf⟩ := gd_some hf
  refine p_getI X fl_X8_15 rfl (by decide) (dcg dc_X8_placeOf 6 rfl) hk1 ?_
  refine p_icmp_ge (tgt := 45) X (dcg dc_X8_placeOf 7 rfl) (by decide) (fun q => ?_) (fun q => ?_)
  · have hf := if_t q hf
    obtain ⟨y2, hf, hy3⟩ := mr_some hf
    have hy3f := kf y2 hy3
    subst hy3f
    refine p_pick [] ?_
    exact wX8_placeOf_b45 X hG hnm hf 
  · have hf := if_f q hf
    refine p_iload_n X (dcg dc_X8_placeOf 8 rfl) rfl rfl ?_
    refine p_if_lt (tgt := 45) X (dcg dc_X8_placeOf 9 rfl) (by decide) (fun q => ?_) (fun q => ?_)
    · have hf := if_t q hf
      obtain ⟨y4, hf, hy5⟩ := mr_some hf
      have hy5f := kf y4 hy5
      subst hy5f
      refine p_pick [] ?_
      exact wX8_placeOf_b45 X hG hnm hf 
    · have hf := if_f q hf
      refine p_aload_n X (dcg dc_X8_placeOf 10 rfl) rfl rfl ?_
      refine p_getR X fl_X8_11 rfl (by decide) (dcg dc_X8_placeOf 11 rfl) hk1 ?_
      refine p_iload X (dcg dc_X8_placeOf 12 rfl) rfl ?_
      obtain ⟨a6, e7, hf⟩ := gs_some hf
      first | subst e7 | (try rw [e7])
      obtain ⟨⟨hk9, hb8⟩, hf⟩ := gd_some hf
      refine p_iald X (dcg dc_X8_placeOf 13 rfl) hk9 (vp_of_inb hb8) ?_
      refine p_iload_n X (dcg dc_X8_placeOf 14 rfl) rfl rfl ?_
      refine p_icmp_ne (tgt := 39) X (dcg dc_X8_placeOf 15 rfl) (by decide) (fun q => ?_) (fun q => ?_)
      · have hf := if_t q hf
        refine p_pick [0, 1, 3, 4] ?_
        exact wX8_placeOf_b39 X hG hnm hf k0 kf
      · have hf := if_f q hf
        refine p_iload_n X (dcg dc_X8_placeOf 16 rfl) rfl rfl ?_
        refine p_if_ne (tgt := 36) X (dcg dc_X8_placeOf 17 rfl) (by decide) (fun q => ?_) (fun q => ?_)
        · have hf := if_t q hf
          refine p_iinc (v := -1) X (dcg dc_X8_placeOf 20 rfl) rfl (by decide) (by decide) rfl ?_
          refine p_pick [0, 1, 3, 4] ?_
          exact wX8_placeOf_b39 X hG hnm hf k0 kf
        · have hf := if_f q hf
          obtain ⟨y10, hf, hy11⟩ := mr_some hf
          have hy11f := kf y10 hy11
          subst hy11f
          refine p_iload X (dcg dc_X8_placeOf 18 rfl) rfl ?_
          have er := Option.some.inj hf
          subst er
          exact p_iret X rfl (dcg dc_X8_placeOf 19 rfl) ⟨rfl, rfl⟩ (Nat.le_refl _) (Nat.le_refl _)
noncomputable def fX8_placeOf_l5 (v0 : Nat) (v1 : Int32) (v3 : Int32) (v4 : Int32) (h : PH) : Option Int32 := wh (fun z : (Int32 × Int32) => fX8_placeOf_c5 v0 v1 (z.1) (z.2) h) (v3, v4)
set_option maxRecDepth 100000 in
theorem wX8_placeOf_l5 {E : PE} {p : Program} {l : Launch} {e : Env} {s : State} {m : MethodId} {args : Array Value} {below : List Frame} {meth : Method} {c : Code} (X : Cx E p l e (rmv 0 0 0) s m args below meth c RX8 cX8_placeOf 5 (some .int)) (hG : Gs E l) (hnm : meth.name = yX8_placeOf.name) {v0 : Nat} {v1 : Int32} {v3 : Int32} {v4 : Int32} {h : PH} {r : Int32} (hf : fX8_placeOf_l5 v0 v1 v3 v4 h = some r)  : PW E p l e (rmv 0 0 0) s m args below meth c 5 0 0 (MQ below (QG E (fun v u => v = some (.int r) ∧ u = h)) args s 0 0 (pA E)) h 5 [(0, some (.ref v0)), (1, some (.int v1)), (3, some (.int v3)), (4, some (.int v4))] [] := by
  unfold fX8_placeOf_l5 at hf
  refine wh_ind (P := fun z => PW E p l e (rmv 0 0 0) s m args below meth c 5 0 0 (MQ below (QG E (fun v u => v = some (.int r) ∧ u = h)) args s 0 0 (pA E)) h 5 [(0, some (.ref v0)), (1, some (.int v1)), (3, some (.int (z.1))), (4, some (.int (z.2)))] []) (fun z x0 hs i1 i2 => ?_) _ hf
  exact wX8_placeOf_c5 (r := r) (v0 := v0) (v1 := v1) (v3 := z.1) (v4 := z.2) (h := h) X hG hnm hs i1  i2
noncomputable def fX8_placeOf (v0 : Nat) (v1 : Int32) (v2 : Int32) (h : PH) : Option Int32 :=
  fX8_placeOf_l5 v0 v1 v2 (0 : Int32) h
set_option maxRecDepth 100000 in
theorem wX8_placeOf {E : PE} {l : Launch} (hG : Gs E l) {v0 : Nat} {v1 : Int32} {v2 : Int32} {h : PH} {r : Int32} (hf : fX8_placeOf v0 v1 v2 h = some r) : Ct E l 0 0 0 yX8_placeOf cX8_placeOf 5 (some .int) [.ref v0, .int v1, .int v2] h (fun v u => v = some (.int r) ∧ u = h) := by
  refine ct_of hG (by decide) (Nat.le_of_ble_eq_true rfl) ?_
  intro p e s m args below meth c X hnm
  show PW E p l e _ s m args below meth c _ 0 0 _ h 0 [(0, some (.ref v0)), (1, some (.int v1)), (2, some (.int v2))] []
  unfold fX8_placeOf at hf
  refine p_iload_n X (dcg dc_X8_placeOf 0 rfl) rfl rfl ?_
  refine p_istore_n X (dcg dc_X8_placeOf 1 rfl) rfl (by decide) rfl ?_
  refine p_iconst (v := 0) X (dcg dc_X8_placeOf 2 rfl) (by decide) ?_
  refine p_istore X (dcg dc_X8_placeOf 3 rfl) (by decide) rfl ?_
  refine p_pick [0, 1, 3, 4] ?_
  exact wX8_placeOf_l5 X hG hnm hf 
theorem dc_X8_has : decs cX8_has [(0, .aload_n 0, 1), (1, .iload_n 1, 1), (2, .iconst 0, 1), (3, .invokevirtual 24, 3), (6, .iconst (-1), 1), (7, .if_icmp .eq 7, 3), (10, .iconst 1, 1), (11, .goto 4, 3), (14, .iconst 0, 1), (15, .ireturn, 1)] = true := by decide +kernel
noncomputable def fX8_has_b15 (t0 : Int32) (h : PH) : Option Int32 :=
  gd (t0 &&& 1 = t0) (some (t0))
set_option maxRecDepth 100000 in
theorem wX8_has_b15 {E : PE} {p : Program} {l : Launch} {e : Env} {s : State} {m : MethodId} {args : Array Value} {below : List Frame} {meth : Method} {c : Code} (X : Cx E p l e (rmv 1 0 0) s m args below meth c RX8 cX8_has 2 (some .boolean)) (hG : Gs E l) (hnm : meth.name = yX8_has.name) {t0 : Int32} {h : PH} {r : Int32} (hf : fX8_has_b15 t0 h = some r)  : PW E p l e (rmv 1 0 0) s m args below meth c 2 0 0 (MQ below (QG E (fun v u => v = some (.int r) ∧ u = h)) args s 0 0 (pA E)) h 15 [] [.int t0] := by
  unfold fX8_has_b15 at hf
  obtain ⟨hg3, hf⟩ := gd_some hf
  have er := Option.some.inj hf
  subst er
  exact p_zret X rfl (congrArg Value.int hg3) (dcg dc_X8_has 9 rfl) ⟨rfl, rfl⟩ (Nat.le_refl _) (Nat.le_refl _)
noncomputable def fX8_has (v0 : Nat) (v1 : Int32) (h : PH) : Option Int32 :=
  gd (hK h v0 = 8) (bd (fX8_placeOf v0 v1 (0 : Int32) h) (fun z2 =>
  if (z2 = (-1 : Int32)) then (fX8_has_b15 (0 : Int32) h) else
  fX8_has_b15 (1 : Int32) h))
set_option maxRecDepth 100000 in
theorem wX8_has {E : PE} {l : Launch} (hG : Gs E l) {v0 : Nat} {v1 : Int32} {h : PH} {r : Int32} (hf : fX8_has v0 v1 h = some r) : Ct E l 1 0 0 yX8_has cX8_has 2 (some .boolean) [.ref v0, .int v1] h (fun v u => v = some (.int r) ∧ u = h) := by
  refine ct_of hG (by decide) (Nat.le_of_ble_eq_true rfl) ?_
  intro p e s m args below meth c X hnm
  show PW E p l e _ s m args below meth c _ 0 0 _ h 0 [(0, some (.ref v0)), (1, some (.int v1))] []
  unfold fX8_has at hf
  refine p_aload_n X (dcg dc_X8_has 0 rfl) rfl rfl ?_
  refine p_iload_n X (dcg dc_X8_has 1 rfl) rfl rfl ?_
  refine p_iconst (v := 0) X (dcg dc_X8_has 2 rfl) (by decide) ?_
  obtain ⟨hk1, hf⟩ := gd_some hf
  obtain ⟨z2, hz2, hf⟩ := bd_some hf
  refine p_callV (As := [_, _]) X ml_X8_24 (dcg dc_X8_has 3 rfl) rfl rfl hk1 (wX8_placeOf hG hz2) (by decide) (room4 (Nat.le_of_ble_eq_true rfl)) (Nat.le_refl _) (Nat.le_refl _) ?_
  rintro _ u9 ⟨rfl, e9⟩; have e9 := e9.symm; subst e9
  refine p_iconst (v := -1) X (dcg dc_X8_has 4 rfl) (by decide) ?_
  refine p_icmp_eq (tgt := 14) X (dcg dc_X8_has 5 rfl) (by decide) (fun q => ?_) (fun q => ?_)
  · have hf := if_t q hf
    refine p_iconst (v := 0) X (dcg dc_X8_has 8 rfl) (by decide) ?_
    refine p_pick [] ?_
    exact wX8_has_b15 X hG hnm hf 
  · have hf := if_f q hf
    refine p_iconst (v := 1) X (dcg dc_X8_has 6 rfl) (by decide) ?_
    refine p_goto (tgt := 15) X (dcg dc_X8_has 7 rfl) (by decide) ?_
    refine p_pick [] ?_
    exact wX8_has_b15 X hG hnm hf 
theorem dc_X9_take : decs cX9_take [(0, .iload_n 1, 1), (1, .bipush 64, 2), (3, .if_icmp .ge 22, 3), (6, .aload_n 0, 1), (7, .dup, 1), (8, .getfield 11, 3), (11, .lconst 1, 1), (12, .iload_n 1, 1), (13, .lshl, 1), (14, .ldc2_w 18, 3), (17, .lxor, 1), (18, .land, 1), (19, .putfield 11, 3), (22, .goto 22, 3), (25, .aload_n 0, 1), (26, .dup, 1), (27, .getfield 15, 3), (30, .lconst 1, 1), (31, .iload_n 1, 1), (32, .bipush 64, 2), (34, .isub, 1), (35, .lshl, 1), (36, .ldc2_w 18, 3), (39, .lxor, 1), (40, .land, 1), (41, .putfield 15, 3), (44, .return_, 1)] = true := by decide +kernel
noncomputable def fX9_take_b44  (h : PH) : Option PH :=
  some (h)
set_option maxRecDepth 100000 in
theorem mX9_take_b44  {h : PH} {r : PH} (hf : fX9_take_b44  h = some r) : eqz h (hX r) (hV r) := by
  unfold fX9_take_b44 at hf
  have hle := eqz_rf h
  have ee := Option.some.inj hf; subst ee; exact hle
set_option maxRecDepth 100000 in
theorem wX9_take_b44 {E : PE} {p : Program} {l : Launch} {e : Env} {s : State} {m : MethodId} {args : Array Value} {below : List Frame} {meth : Method} {c : Code} (X : Cx E p l e (rmv 0 0 0) s m args below meth c RX9 cX9_take 2 (none)) (hG : Gs E l) (hnm : meth.name = yX9_take.name)  {h : PH} {r : PH} (hf : fX9_take_b44  h = some r)  : PW E p l e (rmv 0 0 0) s m args below meth c 2 0 0 (MQ below (QG E (fun v u => v = none ∧ u = r)) args s 0 0 (pA E)) h 44 [] [] := by
  unfold fX9_take_b44 at hf
  have er := Option.some.inj hf
  subst er
  exact p_vret X rfl (dcg dc_X9_take 26 rfl) ⟨rfl, rfl⟩ (Nat.le_refl _) (Nat.le_refl _)
noncomputable def fX9_take (v0 : Nat) (v1 : Int32) (h : PH) : Option PH :=
  if ((64 : Int32) ≤ v1) then (gd (hK h v0 = 9) (lt (sL h 9 v0 1 ((hL h 9 v0 1) &&& (((1 : Int64) <<< (Int32.toInt64 (v1 - (64 : Int32)) &&& 63)) ^^^ (-1 : Int64)))) (fun h2 =>
  fX9_take_b44  h2))) else
  gd (hK h v0 = 9) (lt (sL h 9 v0 0 ((hL h 9 v0 0) &&& (((1 : Int64) <<< (Int32.toInt64 v1 &&& 63)) ^^^ (-1 : Int64)))) (fun h4 =>
  fX9_take_b44  h4))
set_option maxRecDepth 100000 in
theorem mX9_take {v0 : Nat} {v1 : Int32} {h : PH} {r : PH} (hf : fX9_take v0 v1 h = some r) : eqz h (hX r) (hV r) := by
  unfold fX9_take at hf
  have hle := eqz_rf h
  rcases ite_or hf with ⟨q, hf⟩ | ⟨q, hf⟩
  · have hf := if_t q hf
    obtain ⟨hk1, hf⟩ := gd_some hf
    obtain ⟨h2, rfl, hf⟩ := lt_some hf
    exact eqz_rt (mX9_take_b44 hf) hle
  · have hf := if_f q hf
    obtain ⟨hk3, hf⟩ := gd_some hf
    obtain ⟨h4, rfl, hf⟩ := lt_some hf
    exact eqz_rt (mX9_take_b44 hf) hle
set_option maxRecDepth 100000 in
theorem wX9_take {E : PE} {l : Launch} (hG : Gs E l) {v0 : Nat} {v1 : Int32} {h : PH} {r : PH} (hf : fX9_take v0 v1 h = some r) : Ct E l 0 0 0 yX9_take cX9_take 2 (none) [.ref v0, .int v1] h (fun v u => v = none ∧ u = r) := by
  refine ct_of hG (by decide) (Nat.le_of_ble_eq_true rfl) ?_
  intro p e s m args below meth c X hnm
  show PW E p l e _ s m args below meth c _ 0 0 _ h 0 [(0, some (.ref v0)), (1, some (.int v1))] []
  unfold fX9_take at hf
  refine p_iload_n X (dcg dc_X9_take 0 rfl) rfl rfl ?_
  refine p_bipush (v := 64) X (dcg dc_X9_take 1 rfl) (by decide) ?_
  refine p_icmp_ge (tgt := 25) X (dcg dc_X9_take 2 rfl) (by decide) (fun q => ?_) (fun q => ?_)
  · have hf := if_t q hf
    refine p_aload_n X (dcg dc_X9_take 14 rfl) rfl rfl ?_
    refine p_dup X (dcg dc_X9_take 15 rfl) rfl ?_
    obtain ⟨hk1, hf⟩ := gd_some hf
    refine p_getL X fl_X9_15 rfl (by decide) (dcg dc_X9_take 16 rfl) hk1 ?_
    refine p_lconst (v := 1) X (dcg dc_X9_take 17 rfl) (by decide) ?_
    refine p_iload_n X (dcg dc_X9_take 18 rfl) rfl rfl ?_
    refine p_bipush (v := 64) X (dcg dc_X9_take 19 rfl) (by decide) ?_
    refine p_isub X (dcg dc_X9_take 20 rfl) ?_
    refine p_lshl X (dcg dc_X9_take 21 rfl) ?_
    refine p_ldc2 X tw_904 (dcg dc_X9_take 22 rfl) ?_
    refine p_lxor X (dcg dc_X9_take 23 rfl) ?_
    refine p_land X (dcg dc_X9_take 24 rfl) ?_
    refine p_putL X fl_X9_15 rfl (by decide) (fun q hq => by cases hq; rfl) rfl rfl (dcg dc_X9_take 25 rfl) hk1 ?_
    obtain ⟨h2, rfl, hf⟩ := lt_some hf
    refine p_pick [] ?_
    exact wX9_take_b44 X hG hnm hf 
  · have hf := if_f q hf
    refine p_aload_n X (dcg dc_X9_take 3 rfl) rfl rfl ?_
    refine p_dup X (dcg dc_X9_take 4 rfl) rfl ?_
    obtain ⟨hk3, hf⟩ := gd_some hf
    refine p_getL X fl_X9_11 rfl (by decide) (dcg dc_X9_take 5 rfl) hk3 ?_
    refine p_lconst (v := 1) X (dcg dc_X9_take 6 rfl) (by decide) ?_
    refine p_iload_n X (dcg dc_X9_take 7 rfl) rfl rfl ?_
    refine p_lshl X (dcg dc_X9_take 8 rfl) ?_
    refine p_ldc2 X tw_904 (dcg dc_X9_take 9 rfl) ?_
    refine p_lxor X (dcg dc_X9_take 10 rfl) ?_
    refine p_land X (dcg dc_X9_take 11 rfl) ?_
    refine p_putL X fl_X9_11 rfl (by decide) (fun q hq => by cases hq; rfl) rfl rfl (dcg dc_X9_take 12 rfl) hk3 ?_
    obtain ⟨h4, rfl, hf⟩ := lt_some hf
    refine p_goto (tgt := 44) X (dcg dc_X9_take 13 rfl) (by decide) ?_
    refine p_pick [] ?_
    exact wX9_take_b44 X hG hnm hf 
theorem dc_X10_isOneChanged : decs cX10_isOneChanged [(0, .iconst 0, 1), (1, .istore_n 3, 1), (2, .iload_n 3, 1), (3, .iload_n 2, 1), (4, .if_icmp .ge 88, 3), (7, .iload_n 3, 1), (8, .bipush 6, 2), (10, .if_icmp .ge 82, 3), (13, .iload_n 0, 1), (14, .getstatic 23, 3), (17, .iload_n 3, 1), (18, .iconst 1, 1), (19, .iadd, 1), (20, .iaload, 1), (21, .idiv, 1), (22, .iload_n 1, 1), (23, .getstatic 23, 3), (26, .iload_n 3, 1), (27, .iconst 1, 1), (28, .iadd, 1), (29, .iaload, 1), (30, .idiv, 1), (31, .if_icmp .ne 7, 3), (34, .iconst 1, 1), (35, .goto 4, 3), (38, .iconst 0, 1), (39, .istore 4, 2), (41, .iload_n 0, 1), (42, .getstatic 23, 3), (45, .iload_n 3, 1), (46, .iaload, 1), (47, .irem, 1), (48, .iload_n 1, 1), (49, .getstatic 23, 3), (52, .iload_n 3, 1), (53, .iaload, 1), (54, .irem, 1), (55, .if_icmp .ne 7, 3), (58, .iconst 1, 1), (59, .goto 4, 3), (62, .iconst 0, 1), (63, .istore 5, 2), (65, .iload 4, 2), (67, .ifCond .eq 19, 3), (70, .iload 5, 2), (72, .ifCond .eq 14, 3), (75, .iload_n 0, 1), (76, .iload_n 1, 1), (77, .if_icmp .eq 7, 3), (80, .iconst 1, 1), (81, .goto 4, 3), (84, .iconst 0, 1), (85, .ireturn, 1), (86, .iinc 3 1, 3), (89, .goto (-87), 3), (92, .iconst 0, 1), (93, .ireturn, 1)] = true := by decide +kernel
noncomputable def fX10_isOneChanged_b92  : Option Int32 :=
  some ((0 : Int32))
set_option maxRecDepth 100000 in
theorem wX10_isOneChanged_b92 {E : PE} {p : Program} {l : Launch} {e : Env} {s : State} {m : MethodId} {args : Array Value} {below : List Frame} {meth : Method} {c : Code} (X : Cx E p l e (rmv 0 0 0) s m args below meth c RX10 cX10_isOneChanged 6 (some .boolean)) (hG : Gs E l) (hnm : meth.name = yX10_isOneChanged.name)  {h : PH} {r : Int32} (hf : fX10_isOneChanged_b92  = some r)  : PW E p l e (rmv 0 0 0) s m args below meth c 6 0 0 (MQ below (QG E (fun v u => v = some (.int r) ∧ u = h)) args s 0 0 (pA E)) h 92 [] [] := by
  unfold fX10_isOneChanged_b92 at hf
  refine p_iconst (v := 0) X (dcg dc_X10_isOneChanged 55 rfl) (by decide) ?_
  have er := Option.some.inj hf
  subst er
  exact p_zret X rfl rfl (dcg dc_X10_isOneChanged 56 rfl) ⟨rfl, rfl⟩ (Nat.le_refl _) (Nat.le_refl _)
noncomputable def fX10_isOneChanged_b86 (v0 : Int32) (v1 : Int32) (v2 : Int32) (v3 : Int32) : Option ((Int32) ⊕ Int32) :=
  some (.inl ((v3 + 1)))
set_option maxRecDepth 100000 in
theorem wX10_isOneChanged_b86 {E : PE} {p : Program} {l : Launch} {e : Env} {s : State} {m : MethodId} {args : Array Value} {below : List Frame} {meth : Method} {c : Code} (X : Cx E p l e (rmv 0 0 0) s m args below meth c RX10 cX10_isOneChanged 6 (some .boolean)) (hG : Gs E l) (hnm : meth.name = yX10_isOneChanged.name) {v0 : Int32} {v1 : Int32} {v2 : Int32} {v3 : Int32} {h : PH} {r : Int32} {x : ((Int32) ⊕ Int32)} (hf : fX10_isOneChanged_b86 v0 v1 v2 v3 = some x) (k0 : ∀ z : (Int32), x = .inl z → PW E p l e (rmv 0 0 0) s m args below meth c 6 0 0 (MQ below (QG E (fun v u => v = some (.int r) ∧ u = h)) args s 0 0 (pA E)) h 2 [(0, some (.int v0)), (1, some (.int v1)), (2, some (.int v2)), (3, some (.int (z)))] []) (kf : ∀ z : Int32, x = .inr z → z = r) : PW E p l e (rmv 0 0 0) s m args below meth c 6 0 0 (MQ below (QG E (fun v u => v = some (.int r) ∧ u = h)) args s 0 0 (pA E)) h 86 [(0, some (.int v0)), (1, some (.int v1)), (2, some (.int v2)), (3, some (.int v3))] [] := by
  unfold fX10_isOneChanged_b86 at hf
  refine p_iinc (v := 1) X (dcg dc_X10_isOneChanged 53 rfl) rfl (by decide) (by decide) rfl ?_
  refine p_goto (tgt := 2) X (dcg dc_X10_isOneChanged 54 rfl) (by decide) ?_
  refine p_pick [0, 1, 2, 3] ?_
  exact k0 _ (Option.some.inj hf).symm
noncomputable def fX10_isOneChanged_b85 (t0 : Int32) : Option Int32 :=
  gd (t0 &&& 1 = t0) (some (t0))
set_option maxRecDepth 100000 in
theorem wX10_isOneChanged_b85 {E : PE} {p : Program} {l : Launch} {e : Env} {s : State} {m : MethodId} {args : Array Value} {below : List Frame} {meth : Method} {c : Code} (X : Cx E p l e (rmv 0 0 0) s m args below meth c RX10 cX10_isOneChanged 6 (some .boolean)) (hG : Gs E l) (hnm : meth.name = yX10_isOneChanged.name) {t0 : Int32} {h : PH} {r : Int32} (hf : fX10_isOneChanged_b85 t0 = some r)  : PW E p l e (rmv 0 0 0) s m args below meth c 6 0 0 (MQ below (QG E (fun v u => v = some (.int r) ∧ u = h)) args s 0 0 (pA E)) h 85 [] [.int t0] := by
  unfold fX10_isOneChanged_b85 at hf
  obtain ⟨hg15, hf⟩ := gd_some hf
  have er := Option.some.inj hf
  subst er
  exact p_zret X rfl (congrArg Value.int hg15) (dcg dc_X10_isOneChanged 52 rfl) ⟨rfl, rfl⟩ (Nat.le_refl _) (Nat.le_refl _)
noncomputable def fX10_isOneChanged_b63 (v0 : Int32) (v1 : Int32) (v2 : Int32) (v3 : Int32) (v4 : Int32) (t0 : Int32) : Option ((Int32) ⊕ Int32) :=
  if (v4 = 0) then (fX10_isOneChanged_b86 v0 v1 v2 v3) else
  if (t0 = 0) then (fX10_isOneChanged_b86 v0 v1 v2 v3) else
  mr (if (v0 = v1) then (fX10_isOneChanged_b85 (0 : Int32)) else
  fX10_isOneChanged_b85 (1 : Int32))
set_option maxRecDepth 100000 in
theorem wX10_isOneChanged_b63 {E : PE} {p : Program} {l : Launch} {e : Env} {s : State} {m : MethodId} {args : Array Value} {below : List Frame} {meth : Method} {c : Code} (X : Cx E p l e (rmv 0 0 0) s m args below meth c RX10 cX10_isOneChanged 6 (some .boolean)) (hG : Gs E l) (hnm : meth.name = yX10_isOneChanged.name) {v0 : Int32} {v1 : Int32} {v2 : Int32} {v3 : Int32} {v4 : Int32} {t0 : Int32} {h : PH} {r : Int32} {x : ((Int32) ⊕ Int32)} (hf : fX10_isOneChanged_b63 v0 v1 v2 v3 v4 t0 = some x) (k0 : ∀ z : (Int32), x = .inl z → PW E p l e (rmv 0 0 0) s m args below meth c 6 0 0 (MQ below (QG E (fun v u => v = some (.int r) ∧ u = h)) args s 0 0 (pA E)) h 2 [(0, some (.int v0)), (1, some (.int v1)), (2, some (.int v2)), (3, some (.int (z)))] []) (kf : ∀ z : Int32, x = .inr z → z = r) : PW E p l e (rmv 0 0 0) s m args below meth c 6 0 0 (MQ below (QG E (fun v u => v = some (.int r) ∧ u = h)) args s 0 0 (pA E)) h 63 [(0, some (.int v0)), (1, some (.int v1)), (2, some (.int v2)), (3, some (.int v3)), (4, some (.int v4))] [.int t0] := by
  unfold fX10_isOneChanged_b63 at hf
  refine p_istore X (dcg dc_X10_isOneChanged 41 rfl) (by decide) rfl ?_
  refine p_iload X (dcg dc_X10_isOneChanged 42 rfl) rfl ?_
  refine p_if_eq (tgt := 86) X (dcg dc_X10_isOneChanged 43 rfl) (by decide) (fun q => ?_) (fun q => ?_)
  · have hf := if_t q hf
    refine p_pick [0, 1, 2, 3] ?_
    exact wX10_isOneChanged_b86 X hG hnm hf k0 kf
  · have hf := if_f q hf
    refine p_iload X (dcg dc_X10_isOneChanged 44 rfl) rfl ?_
    refine p_if_eq (tgt := 86) X (dcg dc_X10_isOneChanged 45 rfl) (by decide) (fun q => ?_) (fun q => ?_)
    · have hf := if_t q hf
      refine p_pick [0, 1, 2, 3] ?_
      exact wX10_isOneChanged_b86 X hG hnm hf k0 kf
    · have hf := if_f q hf
      obtain ⟨y13, hf, hy14⟩ := mr_some hf
      have hy14f := kf y13 hy14
      subst hy14f
      refine p_iload_n X (dcg dc_X10_isOneChanged 46 rfl) rfl rfl ?_
      refine p_iload_n X (dcg dc_X10_isOneChanged 47 rfl) rfl rfl ?_
      refine p_icmp_eq (tgt := 84) X (dcg dc_X10_isOneChanged 48 rfl) (by decide) (fun q => ?_) (fun q => ?_)
      · have hf := if_t q hf
        refine p_iconst (v := 0) X (dcg dc_X10_isOneChanged 51 rfl) (by decide) ?_
        refine p_pick [] ?_
        exact wX10_isOneChanged_b85 X hG hnm hf 
      · have hf := if_f q hf
        refine p_iconst (v := 1) X (dcg dc_X10_isOneChanged 49 rfl) (by decide) ?_
        refine p_goto (tgt := 85) X (dcg dc_X10_isOneChanged 50 rfl) (by decide) ?_
        refine p_pick [] ?_
        exact wX10_isOneChanged_b85 X hG hnm hf 
noncomputable def fX10_isOneChanged_b39 (v0 : Int32) (v1 : Int32) (v2 : Int32) (v3 : Int32) (t0 : Int32) : Option ((Int32) ⊕ Int32) :=
  gd (inb v3 7) (gd (¬ (pwv (Int32.toNatClampNeg v3)) = 0) (gd (inb v3 7) (gd (¬ (pwv (Int32.toNatClampNeg v3)) = 0) (if (¬ (v0 - v0 / (pwv (Int32.toNatClampNeg v3)) * (pwv (Int32.toNatClampNeg v3))) = (v1 - v1 / (pwv (Int32.toNatClampNeg v3)) * (pwv (Int32.toNatClampNeg v3)))) then (fX10_isOneChanged_b63 v0 v1 v2 v3 t0 (0 : Int32)) else
  fX10_isOneChanged_b63 v0 v1 v2 v3 t0 (1 : Int32)))))
set_option maxRecDepth 100000 in
theorem wX10_isOneChanged_b39 {E : PE} {p : Program} {l : Launch} {e : Env} {s : State} {m : MethodId} {args : Array Value} {below : List Frame} {meth : Method} {c : Code} (X : Cx E p l e (rmv 0 0 0) s m args below meth c RX10 cX10_isOneChanged 6 (some .boolean)) (hG : Gs E l) (hnm : meth.name = yX10_isOneChanged.name) {v0 : Int32} {v1 : Int32} {v2 : Int32} {v3 : Int32} {t0 : Int32} {h : PH} {r : Int32} {x : ((Int32) ⊕ Int32)} (hf : fX10_isOneChanged_b39 v0 v1 v2 v3 t0 = some x) (k0 : ∀ z : (Int32), x = .inl z → PW E p l e (rmv 0 0 0) s m args below meth c 6 0 0 (MQ below (QG E (fun v u => v = some (.int r) ∧ u = h)) args s 0 0 (pA E)) h 2 [(0, some (.int v0)), (1, some (.int v1)), (2, some (.int v2)), (3, some (.int (z)))] []) (kf : ∀ z : Int32, x = .inr z → z = r) : PW E p l e (rmv 0 0 0) s m args below meth c 6 0 0 (MQ below (QG E (fun v u => v = some (.int r) ∧ u = h)) args s 0 0 (pA E)) h 39 [(0, some (.int v0)), (1, some (.int v1)), (2, some (.int v2)), (3, some (.int v3))] [.int t0] := by
  unfold fX10_isOneChanged_b39 at hf
  refine p_istore X (dcg dc_X10_isOneChanged 26 rfl) (by decide) rfl ?_
  refine p_iload_n X (dcg dc_X10_isOneChanged 27 rfl) rfl rfl ?_
  refine p_gets (v := .ref 1) X (gz_pow hG) tw_478 (dcg dc_X10_isOneChanged 28 rfl) ?_
  refine p_iload_n X (dcg dc_X10_isOneChanged 29 rfl) rfl rfl ?_
  obtain ⟨hg9, hf⟩ := gd_some hf
  refine p_powers X (dcg dc_X10_isOneChanged 30 rfl) (vp_of_inb hg9) ?_
  obtain ⟨hg10, hf⟩ := gd_some hf
  refine p_irem X (dcg dc_X10_isOneChanged 31 rfl) hg10 ?_
  refine p_iload_n X (dcg dc_X10_isOneChanged 32 rfl) rfl rfl ?_
  refine p_gets (v := .ref 1) X (gz_pow hG) tw_478 (dcg dc_X10_isOneChanged 33 rfl) ?_
  refine p_iload_n X (dcg dc_X10_isOneChanged 34 rfl) rfl rfl ?_
  obtain ⟨hg11, hf⟩ := gd_some hf
  refine p_powers X (dcg dc_X10_isOneChanged 35 rfl) (vp_of_inb hg11) ?_
  obtain ⟨hg12, hf⟩ := gd_some hf
  refine p_irem X (dcg dc_X10_isOneChanged 36 rfl) hg12 ?_
  refine p_icmp_ne (tgt := 62) X (dcg dc_X10_isOneChanged 37 rfl) (by decide) (fun q => ?_) (fun q => ?_)
  · have hf := if_t q hf
    refine p_iconst (v := 0) X (dcg dc_X10_isOneChanged 40 rfl) (by decide) ?_
    refine p_pick [0, 1, 2, 3, 4] ?_
    exact wX10_isOneChanged_b63 X hG hnm hf k0 kf
  · have hf := if_f q hf
    refine p_iconst (v := 1) X (dcg dc_X10_isOneChanged 38 rfl) (by decide) ?_
    refine p_goto (tgt := 63) X (dcg dc_X10_isOneChanged 39 rfl) (by decide) ?_
    refine p_pick [0, 1, 2, 3, 4] ?_
    exact wX10_isOneChanged_b63 X hG hnm hf k0 kf
noncomputable def fX10_isOneChanged_c2 (v0 : Int32) (v1 : Int32) (v2 : Int32) (v3 : Int32) : Option ((Int32) ⊕ Int32) :=
  if (v2 ≤ v3) then (mr (fX10_isOneChanged_b92 )) else
  if ((6 : Int32) ≤ v3) then (mr (fX10_isOneChanged_b92 )) else
  gd (inb (v3 + (1 : Int32)) 7) (gd (¬ (pwv (Int32.toNatClampNeg (v3 + (1 : Int32)))) = 0) (gd (inb (v3 + (1 : Int32)) 7) (gd (¬ (pwv (Int32.toNatClampNeg (v3 + (1 : Int32)))) = 0) (if (¬ (v0 / (pwv (Int32.toNatClampNeg (v3 + (1 : Int32))))) = (v1 / (pwv (Int32.toNatClampNeg (v3 + (1 : Int32)))))) then (fX10_isOneChanged_b39 v0 v1 v2 v3 (0 : Int32)) else
  fX10_isOneChanged_b39 v0 v1 v2 v3 (1 : Int32)))))
set_option maxRecDepth 100000 in
theorem wX10_isOneChanged_c2 {E : PE} {p : Program} {l : Launch} {e : Env} {s : State} {m : MethodId} {args : Array Value} {below : List Frame} {meth : Method} {c : Code} (X : Cx E p l e (rmv 0 0 0) s m args below meth c RX10 cX10_isOneChanged 6 (some .boolean)) (hG : Gs E l) (hnm : meth.name = yX10_isOneChanged.name) {v0 : Int32} {v1 : Int32} {v2 : Int32} {v3 : Int32} {h : PH} {r : Int32} {x : ((Int32) ⊕ Int32)} (hf : fX10_isOneChanged_c2 v0 v1 v2 v3 = some x) (k0 : ∀ z : (Int32), x = .inl z → PW E p l e (rmv 0 0 0) s m args below meth c 6 0 0 (MQ below (QG E (fun v u => v = some (.int r) ∧ u = h)) args s 0 0 (pA E)) h 2 [(0, some (.int v0)), (1, some (.int v1)), (2, some (.int v2)), (3, some (.int (z)))] []) (kf : ∀ z : Int32, x = .inr z → z = r) : PW E p l e (rmv 0 0 0) s m args below meth c 6 0 0 (MQ below (QG E (fun v u => v = some (.int r) ∧ u = h)) args s 0 0 (pA E)) h 2 [(0, some (.int v0)), (1, some (.int v1)), (2, some (.int v2)), (3, some (.int v3))] [] := by
  unfold fX10_isOneChanged_c2 at hf
  refine p_iload_n X (dcg dc_X10_isOneChanged 2 rfl) rfl rfl ?_
  refine p_iload_n X (dcg dc_X10_isOneChanged 3 rfl) rfl rfl ?_
  refine p_icmp_ge (tgt := 92) X (dcg dc_X10_isOneChanged 4 rfl) (by decide) (fun q => ?_) (fun q => ?_)
  · have hf := if_t q hf
    obtain ⟨y1, hf, hy2⟩ := mr_some hf
    have hy2f := kf y1 hy2
    subst hy2f
    refine p_pick [] ?_
    exact wX10_isOneChanged_b92 X hG hnm hf 
  · have hf := if_f q hf
    refine p_iload_n X (dcg dc_X10_isOneChanged 5 rfl) rfl rfl ?_
    refine p_bipush (v := 6) X (dcg dc_X10_isOneChanged 6 rfl) (by decide) ?_
    refine p_icmp_ge (tgt := 92) X (dcg dc_X10_isOneChanged 7 rfl) (by decide) (fun q => ?_) (fun q => ?_)
    · have hf := if_t q hf
      obtain ⟨y3, hf, hy4⟩ := mr_some hf
      have hy4f := kf y3 hy4
      subst hy4f
      refine p_pick [] ?_
      exact wX10_isOneChanged_b92 X hG hnm hf 
    · have hf := if_f q hf
      refine p_iload_n X (dcg dc_X10_isOneChanged 8 rfl) rfl rfl ?_
      refine p_gets (v := .ref 1) X (gz_pow hG) tw_478 (dcg dc_X10_isOneChanged 9 rfl) ?_
      refine p_iload_n X (dcg dc_X10_isOneChanged 10 rfl) rfl rfl ?_
      refine p_iconst (v := 1) X (dcg dc_X10_isOneChanged 11 rfl) (by decide) ?_
      refine p_iadd X (dcg dc_X10_isOneChanged 12 rfl) ?_
      obtain ⟨hg5, hf⟩ := gd_some hf
      refine p_powers X (dcg dc_X10_isOneChanged 13 rfl) (vp_of_inb hg5) ?_
      obtain ⟨hg6, hf⟩ := gd_some hf
      refine p_idiv X (dcg dc_X10_isOneChanged 14 rfl) hg6 ?_
      refine p_iload_n X (dcg dc_X10_isOneChanged 15 rfl) rfl rfl ?_
      refine p_gets (v := .ref 1) X (gz_pow hG) tw_478 (dcg dc_X10_isOneChanged 16 rfl) ?_
      refine p_iload_n X (dcg dc_X10_isOneChanged 17 rfl) rfl rfl ?_
      refine p_iconst (v := 1) X (dcg dc_X10_isOneChanged 18 rfl) (by decide) ?_
      refine p_iadd X (dcg dc_X10_isOneChanged 19 rfl) ?_
      obtain ⟨hg7, hf⟩ := gd_some hf
      refine p_powers X (dcg dc_X10_isOneChanged 20 rfl) (vp_of_inb hg7) ?_
      obtain ⟨hg8, hf⟩ := gd_some hf
      refine p_idiv X (dcg dc_X10_isOneChanged 21 rfl) hg8 ?_
      refine p_icmp_ne (tgt := 38) X (dcg dc_X10_isOneChanged 22 rfl) (by decide) (fun q => ?_) (fun q => ?_)
      · have hf := if_t q hf
        refine p_iconst (v := 0) X (dcg dc_X10_isOneChanged 25 rfl) (by decide) ?_
        refine p_pick [0, 1, 2, 3] ?_
        exact wX10_isOneChanged_b39 X hG hnm hf k0 kf
      · have hf := if_f q hf
        refine p_iconst (v := 1) X (dcg dc_X10_isOneChanged 23 rfl) (by decide) ?_
        refine p_goto (tgt := 39) X (dcg dc_X10_isOneChanged 24 rfl) (by decide) ?_
        refine p_pick [0, 1, 2, 3] ?_
        exact wX10_isOneChanged_b39 X hG hnm hf k0 kf
noncomputable def fX10_isOneChanged_l2 (v0 : Int32) (v1 : Int32) (v2 : Int32) (v3 : Int32) : Option Int32 := wh (fun z : (Int32) => fX10_isOneChanged_c2 v0 v1 v2 (z)) (v3)
set_option maxRecDepth 100000 in
theorem wX10_isOneChanged_l2 {E : PE} {p : Program} {l : Launch} {e : Env} {s : State} {m : MethodId} {args : Array Value} {below : List Frame} {meth : Method} {c : Code} (X : Cx E p l e (rmv 0 0 0) s m args below meth c RX10 cX10_isOneChanged 6 (some .boolean)) (hG : Gs E l) (hnm : meth.name = yX10_isOneChanged.name) {v0 : Int32} {v1 : Int32} {v2 : Int32} {v3 : Int32} {h : PH} {r : Int32} (hf : fX10_isOneChanged_l2 v0 v1 v2 v3 = some r)  : PW E p l e (rmv 0 0 0) s m args below meth c 6 0 0 (MQ below (QG E (fun v u => v = some (.int r) ∧ u = h)) args s 0 0 (pA E)) h 2 [(0, some (.int v0)), (1, some (.int v1)), (2, some (.int v2)), (3, some (.int v3))] [] := by
  unfold fX10_isOneChanged_l2 at hf
  refine wh_ind (P := fun z => PW E p l e (rmv 0 0 0) s m args below meth c 6 0 0 (MQ below (QG E (fun v u => v = some (.int r) ∧ u = h)) args s 0 0 (pA E)) h 2 [(0, some (.int v0)), (1, some (.int v1)), (2, some (.int v2)), (3, some (.int (z)))] []) (fun z x0 hs i1 i2 => ?_) _ hf
  exact wX10_isOneChanged_c2 (r := r) (v0 := v0) (v1 := v1) (v2 := v2) (v3 := z) (h := h) X hG hnm hs i1  i2
noncomputable def fX10_isOneChanged (v0 : Int32) (v1 : Int32) (v2 : Int32) : Option Int32 :=
  fX10_isOneChanged_l2 v0 v1 v2 (0 : Int32)
set_option maxRecDepth 100000 in
theorem wX10_isOneChanged {E : PE} {l : Launch} (hG : Gs E l) {v0 : Int32} {v1 : Int32} {v2 : Int32} {h : PH} {r : Int32} (hf : fX10_isOneChanged v0 v1 v2 = some r) : Ct E l 0 0 0 yX10_isOneChanged cX10_isOneChanged 6 (some .boolean) [.int v0, .int v1, .int v2] h (fun v u => v = some (.int r) ∧ u = h) := by
  refine ct_of hG (by decide) (Nat.le_of_ble_eq_true rfl) ?_
  intro p e s m args below meth c X hnm
  show PW E p l e _ s m args below meth c _ 0 0 _ h 0 [(0, some (.int v0)), (1, some (.int v1)), (2, some (.int v2))] []
  unfold fX10_isOneChanged at hf
  refine p_iconst (v := 0) X (dcg dc_X10_isOneChanged 0 rfl) (by decide) ?_
  refine p_istore_n X (dcg dc_X10_isOneChanged 1 rfl) rfl (by decide) rfl ?_
  refine p_pick [0, 1, 2, 3] ?_
  exact wX10_isOneChanged_l2 X hG hnm hf 
theorem dc_X10_isOneLeftOut : decs cX10_isOneLeftOut [(0, .iconst 0, 1), (1, .istore_n 3, 1), (2, .iload_n 3, 1), (3, .iload_n 2, 1), (4, .if_icmp .ge 44, 3), (7, .iload_n 3, 1), (8, .bipush 6, 2), (10, .if_icmp .ge 38, 3), (13, .iload_n 0, 1), (14, .getstatic 23, 3), (17, .iload_n 3, 1), (18, .iconst 1, 1), (19, .iadd, 1), (20, .iaload, 1), (21, .idiv, 1), (22, .getstatic 23, 3), (25, .iload_n 3, 1), (26, .iaload, 1), (27, .imul, 1), (28, .iload_n 0, 1), (29, .getstatic 23, 3), (32, .iload_n 3, 1), (33, .iaload, 1), (34, .irem, 1), (35, .iadd, 1), (36, .iload_n 1, 1), (37, .if_icmp .ne 5, 3), (40, .iconst 1, 1), (41, .ireturn, 1), (42, .iinc 3 1, 3), (45, .goto (-43), 3), (48, .iconst 0, 1), (49, .ireturn, 1)] = true := by decide +kernel
noncomputable def fX10_isOneLeftOut_b48  : Option Int32 :=
  some ((0 : Int32))
set_option maxRecDepth 100000 in
theorem wX10_isOneLeftOut_b48 {E : PE} {p : Program} {l : Launch} {e : Env} {s : State} {m : MethodId} {args : Array Value} {below : List Frame} {meth : Method} {c : Code} (X : Cx E p l e (rmv 0 0 0) s m args below meth c RX10 cX10_isOneLeftOut 4 (some .boolean)) (hG : Gs E l) (hnm : meth.name = yX10_isOneLeftOut.name)  {h : PH} {r : Int32} (hf : fX10_isOneLeftOut_b48  = some r)  : PW E p l e (rmv 0 0 0) s m args below meth c 4 0 0 (MQ below (QG E (fun v u => v = some (.int r) ∧ u = h)) args s 0 0 (pA E)) h 48 [] [] := by
  unfold fX10_isOneLeftOut_b48 at hf
  refine p_iconst (v := 0) X (dcg dc_X10_isOneLeftOut 31 rfl) (by decide) ?_
  have er := Option.some.inj hf
  subst er
  exact p_zret X rfl rfl (dcg dc_X10_isOneLeftOut 32 rfl) ⟨rfl, rfl⟩ (Nat.le_refl _) (Nat.le_refl _)
noncomputable def fX10_isOneLeftOut_c2 (v0 : Int32) (v1 : Int32) (v2 : Int32) (v3 : Int32) : Option ((Int32) ⊕ Int32) :=
  if (v2 ≤ v3) then (mr (fX10_isOneLeftOut_b48 )) else
  if ((6 : Int32) ≤ v3) then (mr (fX10_isOneLeftOut_b48 )) else
  gd (inb (v3 + (1 : Int32)) 7) (gd (¬ (pwv (Int32.toNatClampNeg (v3 + (1 : Int32)))) = 0) (gd (inb v3 7) (gd (inb v3 7) (gd (¬ (pwv (Int32.toNatClampNeg v3)) = 0) (if (¬ (((v0 / (pwv (Int32.toNatClampNeg (v3 + (1 : Int32))))) * (pwv (Int32.toNatClampNeg v3))) + (v0 - v0 / (pwv (Int32.toNatClampNeg v3)) * (pwv (Int32.toNatClampNeg v3)))) = v1) then (some (.inl ((v3 + 1)))) else
  mr (some ((1 : Int32))))))))
set_option maxRecDepth 100000 in
theorem wX10_isOneLeftOut_c2 {E : PE} {p : Program} {l : Launch} {e : Env} {s : State} {m : MethodId} {args : Array Value} {below : List Frame} {meth : Method} {c : Code} (X : Cx E p l e (rmv 0 0 0) s m args below meth c RX10 cX10_isOneLeftOut 4 (some .boolean)) (hG : Gs E l) (hnm : meth.name = yX10_isOneLeftOut.name) {v0 : Int32} {v1 : Int32} {v2 : Int32} {v3 : Int32} {h : PH} {r : Int32} {x : ((Int32) ⊕ Int32)} (hf : fX10_isOneLeftOut_c2 v0 v1 v2 v3 = some x) (k0 : ∀ z : (Int32), x = .inl z → PW E p l e (rmv 0 0 0) s m args below meth c 4 0 0 (MQ below (QG E (fun v u => v = some (.int r) ∧ u = h)) args s 0 0 (pA E)) h 2 [(0, some (.int v0)), (1, some (.int v1)), (2, some (.int v2)), (3, some (.int (z)))] []) (kf : ∀ z : Int32, x = .inr z → z = r) : PW E p l e (rmv 0 0 0) s m args below meth c 4 0 0 (MQ below (QG E (fun v u => v = some (.int r) ∧ u = h)) args s 0 0 (pA E)) h 2 [(0, some (.int v0)), (1, some (.int v1)), (2, some (.int v2)), (3, some (.int v3))] [] := by
  unfold fX10_isOneLeftOut_c2 at hf
  refine p_iload_n X (dcg dc_X10_isOneLeftOut 2 rfl) rfl rfl ?_
  refine p_iload_n X (dcg dc_X10_isOneLeftOut 3 rfl) rfl rfl ?_
  refine p_icmp_ge (tgt := 48) X (dcg dc_X10_isOneLeftOut 4 rfl) (by decide) (fun q => ?_) (fun q => ?_)
  · have hf := if_t q hf
    obtain ⟨y1, hf, hy2⟩ := mr_some hf
    have hy2f := kf y1 hy2
    subst hy2f
    refine p_pick [] ?_
    exact wX10_isOneLeftOut_b48 X hG hnm hf 
  · have hf := if_f q hf
    refine p_iload_n X (dcg dc_X10_isOneLeftOut 5 rfl) rfl rfl ?_
    refine p_bipush (v := 6) X (dcg dc_X10_isOneLeftOut 6 rfl) (by decide) ?_
    refine p_icmp_ge (tgt := 48) X (dcg dc_X10_isOneLeftOut 7 rfl) (by decide) (fun q => ?_) (fun q => ?_)
    · have hf := if_t q hf
      obtain ⟨y3, hf, hy4⟩ := mr_some hf
      have hy4f := kf y3 hy4
      subst hy4f
      refine p_pick [] ?_
      exact wX10_isOneLeftOut_b48 X hG hnm hf 
    · have hf := if_f q hf
      refine p_iload_n X (dcg dc_X10_isOneLeftOut 8 rfl) rfl rfl ?_
      refine p_gets (v := .ref 1) X (gz_pow hG) tw_478 (dcg dc_X10_isOneLeftOut 9 rfl) ?_
      refine p_iload_n X (dcg dc_X10_isOneLeftOut 10 rfl) rfl rfl ?_
      refine p_iconst (v := 1) X (dcg dc_X10_isOneLeftOut 11 rfl) (by decide) ?_
      refine p_iadd X (dcg dc_X10_isOneLeftOut 12 rfl) ?_
      obtain ⟨hg5, hf⟩ := gd_some hf
      refine p_powers X (dcg dc_X10_isOneLeftOut 13 rfl) (vp_of_inb hg5) ?_
      obtain ⟨hg6, hf⟩ := gd_some hf
      refine p_idiv X (dcg dc_X10_isOneLeftOut 14 rfl) hg6 ?_
      refine p_gets (v := .ref 1) X (gz_pow hG) tw_478 (dcg dc_X10_isOneLeftOut 15 rfl) ?_
      refine p_iload_n X (dcg dc_X10_isOneLeftOut 16 rfl) rfl rfl ?_
      obtain ⟨hg7, hf⟩ := gd_some hf
      refine p_powers X (dcg dc_X10_isOneLeftOut 17 rfl) (vp_of_inb hg7) ?_
      refine p_imul X (dcg dc_X10_isOneLeftOut 18 rfl) ?_
      refine p_iload_n X (dcg dc_X10_isOneLeftOut 19 rfl) rfl rfl ?_
      refine p_gets (v := .ref 1) X (gz_pow hG) tw_478 (dcg dc_X10_isOneLeftOut 20 rfl) ?_
      refine p_iload_n X (dcg dc_X10_isOneLeftOut 21 rfl) rfl rfl ?_
      obtain ⟨hg8, hf⟩ := gd_some hf
      refine p_powers X (dcg dc_X10_isOneLeftOut 22 rfl) (vp_of_inb hg8) ?_
      obtain ⟨hg9, hf⟩ := gd_some hf
      refine p_irem X (dcg dc_X10_isOneLeftOut 23 rfl) hg9 ?_
      refine p_iadd X (dcg dc_X10_isOneLeftOut 24 rfl) ?_
      refine p_iload_n X (dcg dc_X10_isOneLeftOut 25 rfl) rfl rfl ?_
      refine p_icmp_ne (tgt := 42) X (dcg dc_X10_isOneLeftOut 26 rfl) (by decide) (fun q => ?_) (fun q => ?_)
      · have hf := if_t q hf
        refine p_iinc (v := 1) X (dcg dc_X10_isOneLeftOut 29 rfl) rfl (by decide) (by decide) rfl ?_
        refine p_goto (tgt := 2) X (dcg dc_X10_isOneLeftOut 30 rfl) (by decide) ?_
        refine p_pick [0, 1, 2, 3] ?_
        exact k0 _ (Option.some.inj hf).symm
      · have hf := if_f q hf
        obtain ⟨y10, hf, hy11⟩ := mr_some hf
        have hy11f := kf y10 hy11
        subst hy11f
        refine p_iconst (v := 1) X (dcg dc_X10_isOneLeftOut 27 rfl) (by decide) ?_
        have er := Option.some.inj hf
        subst er
        exact p_zret X rfl rfl (dcg dc_X10_isOneLeftOut 28 rfl) ⟨rfl, rfl⟩ (Nat.le_refl _) (Nat.le_refl _)
noncomputable def fX10_isOneLeftOut_l2 (v0 : Int32) (v1 : Int32) (v2 : Int32) (v3 : Int32) : Option Int32 := wh (fun z : (Int32) => fX10_isOneLeftOut_c2 v0 v1 v2 (z)) (v3)
set_option maxRecDepth 100000 in
theorem wX10_isOneLeftOut_l2 {E : PE} {p : Program} {l : Launch} {e : Env} {s : State} {m : MethodId} {args : Array Value} {below : List Frame} {meth : Method} {c : Code} (X : Cx E p l e (rmv 0 0 0) s m args below meth c RX10 cX10_isOneLeftOut 4 (some .boolean)) (hG : Gs E l) (hnm : meth.name = yX10_isOneLeftOut.name) {v0 : Int32} {v1 : Int32} {v2 : Int32} {v3 : Int32} {h : PH} {r : Int32} (hf : fX10_isOneLeftOut_l2 v0 v1 v2 v3 = some r)  : PW E p l e (rmv 0 0 0) s m args below meth c 4 0 0 (MQ below (QG E (fun v u => v = some (.int r) ∧ u = h)) args s 0 0 (pA E)) h 2 [(0, some (.int v0)), (1, some (.int v1)), (2, some (.int v2)), (3, some (.int v3))] [] := by
  unfold fX10_isOneLeftOut_l2 at hf
  refine wh_ind (P := fun z => PW E p l e (rmv 0 0 0) s m args below meth c 4 0 0 (MQ below (QG E (fun v u => v = some (.int r) ∧ u = h)) args s 0 0 (pA E)) h 2 [(0, some (.int v0)), (1, some (.int v1)), (2, some (.int v2)), (3, some (.int (z)))] []) (fun z x0 hs i1 i2 => ?_) _ hf
  exact wX10_isOneLeftOut_c2 (r := r) (v0 := v0) (v1 := v1) (v2 := v2) (v3 := z) (h := h) X hG hnm hs i1  i2
noncomputable def fX10_isOneLeftOut (v0 : Int32) (v1 : Int32) (v2 : Int32) : Option Int32 :=
  fX10_isOneLeftOut_l2 v0 v1 v2 (0 : Int32)
set_option maxRecDepth 100000 in
theorem wX10_isOneLeftOut {E : PE} {l : Launch} (hG : Gs E l) {v0 : Int32} {v1 : Int32} {v2 : Int32} {h : PH} {r : Int32} (hf : fX10_isOneLeftOut v0 v1 v2 = some r) : Ct E l 0 0 0 yX10_isOneLeftOut cX10_isOneLeftOut 4 (some .boolean) [.int v0, .int v1, .int v2] h (fun v u => v = some (.int r) ∧ u = h) := by
  refine ct_of hG (by decide) (Nat.le_of_ble_eq_true rfl) ?_
  intro p e s m args below meth c X hnm
  show PW E p l e _ s m args below meth c _ 0 0 _ h 0 [(0, some (.int v0)), (1, some (.int v1)), (2, some (.int v2))] []
  unfold fX10_isOneLeftOut at hf
  refine p_iconst (v := 0) X (dcg dc_X10_isOneLeftOut 0 rfl) (by decide) ?_
  refine p_istore_n X (dcg dc_X10_isOneLeftOut 1 rfl) rfl (by decide) rfl ?_
  refine p_pick [0, 1, 2, 3] ?_
  exact wX10_isOneLeftOut_l2 X hG hnm hf 
theorem dc_X10_isNeighbour : decs cX10_isNeighbour [(0, .iload_n 0, 1), (1, .invokestatic 27, 3), (4, .istore_n 2, 1), (5, .iload_n 2, 1), (6, .iload_n 1, 1), (7, .invokestatic 27, 3), (10, .isub, 1), (11, .istore_n 3, 1), (12, .iload_n 3, 1), (13, .ifCond .ne 10, 3), (16, .iload_n 0, 1), (17, .iload_n 1, 1), (18, .iload_n 2, 1), (19, .invokestatic 31, 3), (22, .ireturn, 1), (23, .iload_n 3, 1), (24, .iconst 1, 1), (25, .if_icmp .ne 10, 3), (28, .iload_n 0, 1), (29, .iload_n 1, 1), (30, .iload_n 2, 1), (31, .invokestatic 35, 3), (34, .ireturn, 1), (35, .iload_n 3, 1), (36, .iconst (-1), 1), (37, .if_icmp .ne 18, 3), (40, .iload_n 1, 1), (41, .iload_n 0, 1), (42, .iload_n 2, 1), (43, .iconst 1, 1), (44, .iadd, 1), (45, .invokestatic 35, 3), (48, .ifCond .eq 7, 3), (51, .iconst 1, 1), (52, .goto 4, 3), (55, .iconst 0, 1), (56, .ireturn, 1)] = true := by decide +kernel
noncomputable def fX10_isNeighbour_b56 (t0 : Int32) : Option Int32 :=
  gd (t0 &&& 1 = t0) (some (t0))
set_option maxRecDepth 100000 in
theorem wX10_isNeighbour_b56 {E : PE} {p : Program} {l : Launch} {e : Env} {s : State} {m : MethodId} {args : Array Value} {below : List Frame} {meth : Method} {c : Code} (X : Cx E p l e (rmv 1 0 0) s m args below meth c RX10 cX10_isNeighbour 4 (some .boolean)) (hG : Gs E l) (hnm : meth.name = yX10_isNeighbour.name) {t0 : Int32} {h : PH} {r : Int32} (hf : fX10_isNeighbour_b56 t0 = some r)  : PW E p l e (rmv 1 0 0) s m args below meth c 4 0 0 (MQ below (QG E (fun v u => v = some (.int r) ∧ u = h)) args s 0 0 (pA E)) h 56 [] [.int t0] := by
  unfold fX10_isNeighbour_b56 at hf
  obtain ⟨hg3, hf⟩ := gd_some hf
  have er := Option.some.inj hf
  subst er
  exact p_zret X rfl (congrArg Value.int hg3) (dcg dc_X10_isNeighbour 36 rfl) ⟨rfl, rfl⟩ (Nat.le_refl _) (Nat.le_refl _)
noncomputable def fX10_isNeighbour_b55  : Option Int32 :=
  fX10_isNeighbour_b56 (0 : Int32)
set_option maxRecDepth 100000 in
theorem wX10_isNeighbour_b55 {E : PE} {p : Program} {l : Launch} {e : Env} {s : State} {m : MethodId} {args : Array Value} {below : List Frame} {meth : Method} {c : Code} (X : Cx E p l e (rmv 1 0 0) s m args below meth c RX10 cX10_isNeighbour 4 (some .boolean)) (hG : Gs E l) (hnm : meth.name = yX10_isNeighbour.name)  {h : PH} {r : Int32} (hf : fX10_isNeighbour_b55  = some r)  : PW E p l e (rmv 1 0 0) s m args below meth c 4 0 0 (MQ below (QG E (fun v u => v = some (.int r) ∧ u = h)) args s 0 0 (pA E)) h 55 [] [] := by
  unfold fX10_isNeighbour_b55 at hf
  refine p_iconst (v := 0) X (dcg dc_X10_isNeighbour 35 rfl) (by decide) ?_
  refine p_pick [] ?_
  exact wX10_isNeighbour_b56 X hG hnm hf 
noncomputable def fX10_isNeighbour (v0 : Int32) (v1 : Int32) : Option Int32 :=
  bd (fX10_lettersOf v0) (fun z1 =>
  bd (fX10_lettersOf v1) (fun z2 =>
  if (¬ (z1 - z2) = 0) then (if (¬ (z1 - z2) = (1 : Int32)) then (if (¬ (z1 - z2) = (-1 : Int32)) then (fX10_isNeighbour_b55 ) else
  bd (fX10_isOneLeftOut v1 v0 (z1 + (1 : Int32))) (fun z4 =>
  if (z4 = 0) then (fX10_isNeighbour_b55 ) else
  fX10_isNeighbour_b56 (1 : Int32))) else
  bd (fX10_isOneLeftOut v0 v1 z1) (fun z5 =>
  gd (z5 &&& 1 = z5) (some (z5)))) else
  bd (fX10_isOneChanged v0 v1 z1) (fun z7 =>
  gd (z7 &&& 1 = z7) (some (z7)))))
set_option maxRecDepth 100000 in
theorem wX10_isNeighbour {E : PE} {l : Launch} (hG : Gs E l) {v0 : Int32} {v1 : Int32} {h : PH} {r : Int32} (hf : fX10_isNeighbour v0 v1 = some r) : Ct E l 1 0 0 yX10_isNeighbour cX10_isNeighbour 4 (some .boolean) [.int v0, .int v1] h (fun v u => v = some (.int r) ∧ u = h) := by
  refine ct_of hG (by decide) (Nat.le_of_ble_eq_true rfl) ?_
  intro p e s m args below meth c X hnm
  show PW E p l e _ s m args below meth c _ 0 0 _ h 0 [(0, some (.int v0)), (1, some (.int v1))] []
  unfold fX10_isNeighbour at hf
  refine p_iload_n X (dcg dc_X10_isNeighbour 0 rfl) rfl rfl ?_
  obtain ⟨z1, hz1, hf⟩ := bd_some hf
  refine p_callS (As := [_]) X ml_X10_27 (dcg dc_X10_isNeighbour 1 rfl) rfl rfl  (wX10_lettersOf hG hz1) (by decide) (room4 (Nat.le_of_ble_eq_true rfl)) (Nat.le_refl _) (Nat.le_refl _) ?_
  rintro _ u9 ⟨rfl, e9⟩; have e9 := e9.symm; subst e9
  refine p_istore_n X (dcg dc_X10_isNeighbour 2 rfl) rfl (by decide) rfl ?_
  refine p_iload_n X (dcg dc_X10_isNeighbour 3 rfl) rfl rfl ?_
  refine p_iload_n X (dcg dc_X10_isNeighbour 4 rfl) rfl rfl ?_
  obtain ⟨z2, hz2, hf⟩ := bd_some hf
  refine p_callS (As := [_]) X ml_X10_27 (dcg dc_X10_isNeighbour 5 rfl) rfl rfl  (wX10_lettersOf hG hz2) (by decide) (room4 (Nat.le_of_ble_eq_true rfl)) (Nat.le_refl _) (Nat.le_refl _) ?_
  rintro _ u9 ⟨rfl, e9⟩; have e9 := e9.symm; subst e9
  refine p_isub X (dcg dc_X10_isNeighbour 6 rfl) ?_
  refine p_istore_n X (dcg dc_X10_isNeighbour 7 rfl) rfl (by decide) rfl ?_
  refine p_iload_n X (dcg dc_X10_isNeighbour 8 rfl) rfl rfl ?_
  refine p_if_ne (tgt := 23) X (dcg dc_X10_isNeighbour 9 rfl) (by decide) (fun q => ?_) (fun q => ?_)
  · have hf := if_t q hf
    refine p_iload_n X (dcg dc_X10_isNeighbour 15 rfl) rfl rfl ?_
    refine p_iconst (v := 1) X (dcg dc_X10_isNeighbour 16 rfl) (by decide) ?_
    refine p_icmp_ne (tgt := 35) X (dcg dc_X10_isNeighbour 17 rfl) (by decide) (fun q => ?_) (fun q => ?_)
    · have hf := if_t q hf
      refine p_iload_n X (dcg dc_X10_isNeighbour 23 rfl) rfl rfl ?_
      refine p_iconst (v := -1) X (dcg dc_X10_isNeighbour 24 rfl) (by decide) ?_
      refine p_icmp_ne (tgt := 55) X (dcg dc_X10_isNeighbour 25 rfl) (by decide) (fun q => ?_) (fun q => ?_)
      · have hf := if_t q hf
        refine p_pick [] ?_
        exact wX10_isNeighbour_b55 X hG hnm hf 
      · have hf := if_f q hf
        refine p_iload_n X (dcg dc_X10_isNeighbour 26 rfl) rfl rfl ?_
        refine p_iload_n X (dcg dc_X10_isNeighbour 27 rfl) rfl rfl ?_
        refine p_iload_n X (dcg dc_X10_isNeighbour 28 rfl) rfl rfl ?_
        refine p_iconst (v := 1) X (dcg dc_X10_isNeighbour 29 rfl) (by decide) ?_
        refine p_iadd X (dcg dc_X10_isNeighbour 30 rfl) ?_
        obtain ⟨z4, hz4, hf⟩ := bd_some hf
        refine p_callS (As := [_, _, _]) X ml_X10_35 (dcg dc_X10_isNeighbour 31 rfl) rfl rfl  (wX10_isOneLeftOut hG hz4) (by decide) (room4 (Nat.le_of_ble_eq_true rfl)) (Nat.le_refl _) (Nat.le_refl _) ?_
        rintro _ u9 ⟨rfl, e9⟩; have e9 := e9.symm; subst e9
        refine p_if_eq (tgt := 55) X (dcg dc_X10_isNeighbour 32 rfl) (by decide) (fun q => ?_) (fun q => ?_)
        · have hf := if_t q hf
          refine p_pick [] ?_
          exact wX10_isNeighbour_b55 X hG hnm hf 
        · have hf := if_f q hf
          refine p_iconst (v := 1) X (dcg dc_X10_isNeighbour 33 rfl) (by decide) ?_
          refine p_goto (tgt := 56) X (dcg dc_X10_isNeighbour 34 rfl) (by decide) ?_
          refine p_pick [] ?_
          exact wX10_isNeighbour_b56 X hG hnm hf 
    · have hf := if_f q hf
      refine p_iload_n X (dcg dc_X10_isNeighbour 18 rfl) rfl rfl ?_
      refine p_iload_n X (dcg dc_X10_isNeighbour 19 rfl) rfl rfl ?_
      refine p_iload_n X (dcg dc_X10_isNeighbour 20 rfl) rfl rfl ?_
      obtain ⟨z5, hz5, hf⟩ := bd_some hf
      refine p_callS (As := [_, _, _]) X ml_X10_35 (dcg dc_X10_isNeighbour 21 rfl) rfl rfl  (wX10_isOneLeftOut hG hz5) (by decide) (room4 (Nat.le_of_ble_eq_true rfl)) (Nat.le_refl _) (Nat.le_refl _) ?_
      rintro _ u9 ⟨rfl, e9⟩; have e9 := e9.symm; subst e9
      obtain ⟨hg6, hf⟩ := gd_some hf
      have er := Option.some.inj hf
      subst er
      exact p_zret X rfl (congrArg Value.int hg6) (dcg dc_X10_isNeighbour 22 rfl) ⟨rfl, rfl⟩ (Nat.le_refl _) (Nat.le_refl _)
  · have hf := if_f q hf
    refine p_iload_n X (dcg dc_X10_isNeighbour 10 rfl) rfl rfl ?_
    refine p_iload_n X (dcg dc_X10_isNeighbour 11 rfl) rfl rfl ?_
    refine p_iload_n X (dcg dc_X10_isNeighbour 12 rfl) rfl rfl ?_
    obtain ⟨z7, hz7, hf⟩ := bd_some hf
    refine p_callS (As := [_, _, _]) X ml_X10_31 (dcg dc_X10_isNeighbour 13 rfl) rfl rfl  (wX10_isOneChanged hG hz7) (by decide) (room4 (Nat.le_of_ble_eq_true rfl)) (Nat.le_refl _) (Nat.le_refl _) ?_
    rintro _ u9 ⟨rfl, e9⟩; have e9 := e9.symm; subst e9
    obtain ⟨hg8, hf⟩ := gd_some hf
    have er := Option.some.inj hf
    subst er
    exact p_zret X rfl (congrArg Value.int hg8) (dcg dc_X10_isNeighbour 14 rfl) ⟨rfl, rfl⟩ (Nat.le_refl _) (Nat.le_refl _)
theorem dc_X9_has : decs cX9_has [(0, .iload_n 1, 1), (1, .ifCond .lt 9, 3), (4, .iload_n 1, 1), (5, .bipush 100, 2), (7, .if_icmp .lt 5, 3), (10, .iconst 0, 1), (11, .ireturn, 1), (12, .iload_n 1, 1), (13, .bipush 64, 2), (15, .if_icmp .ge 10, 3), (18, .aload_n 0, 1), (19, .getfield 11, 3), (22, .goto 7, 3), (25, .aload_n 0, 1), (26, .getfield 15, 3), (29, .lstore_n 2, 1), (30, .lload_n 2, 1), (31, .iload_n 1, 1), (32, .bipush 64, 2), (34, .irem, 1), (35, .lushr, 1), (36, .lconst 1, 1), (37, .land, 1), (38, .lconst 0, 1), (39, .lcmp, 1), (40, .ifCond .eq 7, 3), (43, .iconst 1, 1), (44, .goto 4, 3), (47, .iconst 0, 1), (48, .ireturn, 1)] = true := by decide +kernel
noncomputable def fX9_has_b10  (h : PH) : Option Int32 :=
  some ((0 : Int32))
set_option maxRecDepth 100000 in
theorem wX9_has_b10 {E : PE} {p : Program} {l : Launch} {e : Env} {s : State} {m : MethodId} {args : Array Value} {below : List Frame} {meth : Method} {c : Code} (X : Cx E p l e (rmv 0 0 0) s m args below meth c RX9 cX9_has 4 (some .boolean)) (hG : Gs E l) (hnm : meth.name = yX9_has.name)  {h : PH} {r : Int32} (hf : fX9_has_b10  h = some r)  : PW E p l e (rmv 0 0 0) s m args below meth c 4 0 0 (MQ below (QG E (fun v u => v = some (.int r) ∧ u = h)) args s 0 0 (pA E)) h 10 [] [] := by
  unfold fX9_has_b10 at hf
  refine p_iconst (v := 0) X (dcg dc_X9_has 5 rfl) (by decide) ?_
  have er := Option.some.inj hf
  subst er
  exact p_zret X rfl rfl (dcg dc_X9_has 6 rfl) ⟨rfl, rfl⟩ (Nat.le_refl _) (Nat.le_refl _)
noncomputable def fX9_has_b48 (t0 : Int32) (h : PH) : Option Int32 :=
  gd (t0 &&& 1 = t0) (some (t0))
set_option maxRecDepth 100000 in
theorem wX9_has_b48 {E : PE} {p : Program} {l : Launch} {e : Env} {s : State} {m : MethodId} {args : Array Value} {below : List Frame} {meth : Method} {c : Code} (X : Cx E p l e (rmv 0 0 0) s m args below meth c RX9 cX9_has 4 (some .boolean)) (hG : Gs E l) (hnm : meth.name = yX9_has.name) {t0 : Int32} {h : PH} {r : Int32} (hf : fX9_has_b48 t0 h = some r)  : PW E p l e (rmv 0 0 0) s m args below meth c 4 0 0 (MQ below (QG E (fun v u => v = some (.int r) ∧ u = h)) args s 0 0 (pA E)) h 48 [] [.int t0] := by
  unfold fX9_has_b48 at hf
  obtain ⟨hg2, hf⟩ := gd_some hf
  have er := Option.some.inj hf
  subst er
  exact p_zret X rfl (congrArg Value.int hg2) (dcg dc_X9_has 29 rfl) ⟨rfl, rfl⟩ (Nat.le_refl _) (Nat.le_refl _)
noncomputable def fX9_has_b29 (v1 : Int32) (t0 : Int64) (h : PH) : Option Int32 :=
  if ((lg_cmp ((Int64.toUInt64 t0 >>> ((Int32.toInt64 (v1 - v1 / (64 : Int32) * (64 : Int32))).toUInt64 &&& Int64.toUInt64 63)).toInt64 &&& (1 : Int64)) (0 : Int64)) = 0) then (fX9_has_b48 (0 : Int32) h) else
  fX9_has_b48 (1 : Int32) h
set_option maxRecDepth 100000 in
theorem wX9_has_b29 {E : PE} {p : Program} {l : Launch} {e : Env} {s : State} {m : MethodId} {args : Array Value} {below : List Frame} {meth : Method} {c : Code} (X : Cx E p l e (rmv 0 0 0) s m args below meth c RX9 cX9_has 4 (some .boolean)) (hG : Gs E l) (hnm : meth.name = yX9_has.name) {v1 : Int32} {t0 : Int64} {h : PH} {r : Int32} (hf : fX9_has_b29 v1 t0 h = some r)  : PW E p l e (rmv 0 0 0) s m args below meth c 4 0 0 (MQ below (QG E (fun v u => v = some (.int r) ∧ u = h)) args s 0 0 (pA E)) h 29 [(1, some (.int v1))] [.long t0] := by
  unfold fX9_has_b29 at hf
  refine p_lstore_n X (dcg dc_X9_has 15 rfl) rfl (by decide) rfl ?_
  refine p_lload_n X (dcg dc_X9_has 16 rfl) rfl rfl ?_
  refine p_iload_n X (dcg dc_X9_has 17 rfl) rfl rfl ?_
  refine p_bipush (v := 64) X (dcg dc_X9_has 18 rfl) (by decide) ?_
  refine p_irem X (dcg dc_X9_has 19 rfl) (by decide) ?_
  refine p_lushr X (dcg dc_X9_has 20 rfl) ?_
  refine p_lconst (v := 1) X (dcg dc_X9_has 21 rfl) (by decide) ?_
  refine p_land X (dcg dc_X9_has 22 rfl) ?_
  refine p_lconst (v := 0) X (dcg dc_X9_has 23 rfl) (by decide) ?_
  refine p_lcmp X (dcg dc_X9_has 24 rfl) ?_
  refine p_if_eq (tgt := 47) X (dcg dc_X9_has 25 rfl) (by decide) (fun q => ?_) (fun q => ?_)
  · have hf := if_t q hf
    refine p_iconst (v := 0) X (dcg dc_X9_has 28 rfl) (by decide) ?_
    refine p_pick [] ?_
    exact wX9_has_b48 X hG hnm hf 
  · have hf := if_f q hf
    refine p_iconst (v := 1) X (dcg dc_X9_has 26 rfl) (by decide) ?_
    refine p_goto (tgt := 48) X (dcg dc_X9_has 27 rfl) (by decide) ?_
    refine p_pick [] ?_
    exact wX9_has_b48 X hG hnm hf 
noncomputable def fX9_has (v0 : Nat) (v1 : Int32) (h : PH) : Option Int32 :=
  if (v1 < 0) then (fX9_has_b10  h) else
  if (v1 < (100 : Int32)) then (if ((64 : Int32) ≤ v1) then (gd (hK h v0 = 9) (fX9_has_b29 v1 (hL h 9 v0 1) h)) else
  gd (hK h v0 = 9) (fX9_has_b29 v1 (hL h 9 v0 0) h)) else
  fX9_has_b10  h
set_option maxRecDepth 100000 in
theorem wX9_has {E : PE} {l : Launch} (hG : Gs E l) {v0 : Nat} {v1 : Int32} {h : PH} {r : Int32} (hf : fX9_has v0 v1 h = some r) : Ct E l 0 0 0 yX9_has cX9_has 4 (some .boolean) [.ref v0, .int v1] h (fun v u => v = some (.int r) ∧ u = h) := by
  refine ct_of hG (by decide) (Nat.le_of_ble_eq_true rfl) ?_
  intro p e s m args below meth c X hnm
  show PW E p l e _ s m args below meth c _ 0 0 _ h 0 [(0, some (.ref v0)), (1, some (.int v1))] []
  unfold fX9_has at hf
  refine p_iload_n X (dcg dc_X9_has 0 rfl) rfl rfl ?_
  refine p_if_lt (tgt := 10) X (dcg dc_X9_has 1 rfl) (by decide) (fun q => ?_) (fun q => ?_)
  · have hf := if_t q hf
    refine p_pick [] ?_
    exact wX9_has_b10 X hG hnm hf 
  · have hf := if_f q hf
    refine p_iload_n X (dcg dc_X9_has 2 rfl) rfl rfl ?_
    refine p_bipush (v := 100) X (dcg dc_X9_has 3 rfl) (by decide) ?_
    refine p_icmp_lt (tgt := 12) X (dcg dc_X9_has 4 rfl) (by decide) (fun q => ?_) (fun q => ?_)
    · have hf := if_t q hf
      refine p_iload_n X (dcg dc_X9_has 7 rfl) rfl rfl ?_
      refine p_bipush (v := 64) X (dcg dc_X9_has 8 rfl) (by decide) ?_
      refine p_icmp_ge (tgt := 25) X (dcg dc_X9_has 9 rfl) (by decide) (fun q => ?_) (fun q => ?_)
      · have hf := if_t q hf
        refine p_aload_n X (dcg dc_X9_has 13 rfl) rfl rfl ?_
        obtain ⟨hk1, hf⟩ := gd_some hf
        refine p_getL X fl_X9_15 rfl (by decide) (dcg dc_X9_has 14 rfl) hk1 ?_
        refine p_pick [1] ?_
        exact wX9_has_b29 X hG hnm hf 
      · have hf := if_f q hf
        refine p_aload_n X (dcg dc_X9_has 10 rfl) rfl rfl ?_
        obtain ⟨hk3, hf⟩ := gd_some hf
        refine p_getL X fl_X9_11 rfl (by decide) (dcg dc_X9_has 11 rfl) hk3 ?_
        refine p_goto (tgt := 29) X (dcg dc_X9_has 12 rfl) (by decide) ?_
        refine p_pick [1] ?_
        exact wX9_has_b29 X hG hnm hf 
    · have hf := if_f q hf
      refine p_pick [] ?_
      exact wX9_has_b10 X hG hnm hf 
theorem dc_X10_letterOf : decs cX10_letterOf [(0, .iload_n 0, 1), (1, .invokestatic 27, 3), (4, .iconst 1, 1), (5, .isub, 1), (6, .iload_n 1, 1), (7, .isub, 1), (8, .istore_n 2, 1), (9, .iload_n 2, 1), (10, .ifCond .lt 9, 3), (13, .iload_n 2, 1), (14, .bipush 6, 2), (16, .if_icmp .lt 6, 3), (19, .bipush 32, 2), (21, .ireturn, 1), (22, .bipush 96, 2), (24, .iload_n 0, 1), (25, .getstatic 23, 3), (28, .iload_n 2, 1), (29, .iaload, 1), (30, .idiv, 1), (31, .bipush 27, 2), (33, .irem, 1), (34, .iadd, 1), (35, .i2c, 1), (36, .ireturn, 1)] = true := by decide +kernel
noncomputable def fX10_letterOf_b19  : Option Int32 :=
  gd ((((Int32.toUInt32 (32 : Int32)).toUInt16).toUInt32).toInt32 = (32 : Int32)) (some ((32 : Int32)))
set_option maxRecDepth 100000 in
theorem wX10_letterOf_b19 {E : PE} {p : Program} {l : Launch} {e : Env} {s : State} {m : MethodId} {args : Array Value} {below : List Frame} {meth : Method} {c : Code} (X : Cx E p l e (rmv 1 0 0) s m args below meth c RX10 cX10_letterOf 3 (some .char)) (hG : Gs E l) (hnm : meth.name = yX10_letterOf.name)  {h : PH} {r : Int32} (hf : fX10_letterOf_b19  = some r)  : PW E p l e (rmv 1 0 0) s m args below meth c 3 0 0 (MQ below (QG E (fun v u => v = some (.int r) ∧ u = h)) args s 0 0 (pA E)) h 19 [] [] := by
  unfold fX10_letterOf_b19 at hf
  refine p_bipush (v := 32) X (dcg dc_X10_letterOf 12 rfl) (by decide) ?_
  obtain ⟨hg2, hf⟩ := gd_some hf
  have er := Option.some.inj hf
  subst er
  exact p_zret X rfl (congrArg Value.int hg2) (dcg dc_X10_letterOf 13 rfl) ⟨rfl, rfl⟩ (Nat.le_refl _) (Nat.le_refl _)
noncomputable def fX10_letterOf (v0 : Int32) (v1 : Int32) : Option Int32 :=
  bd (fX10_lettersOf v0) (fun z1 =>
  if (((z1 - (1 : Int32)) - v1) < 0) then (fX10_letterOf_b19 ) else
  if (((z1 - (1 : Int32)) - v1) < (6 : Int32)) then (gd (inb ((z1 - (1 : Int32)) - v1) 7) (gd (¬ (pwv (Int32.toNatClampNeg ((z1 - (1 : Int32)) - v1))) = 0) (gd ((((Int32.toUInt32 (((Int32.toUInt32 ((96 : Int32) + ((v0 / (pwv (Int32.toNatClampNeg ((z1 - (1 : Int32)) - v1)))) - (v0 / (pwv (Int32.toNatClampNeg ((z1 - (1 : Int32)) - v1)))) / (27 : Int32) * (27 : Int32)))) % 65536).toInt32)).toUInt16).toUInt32).toInt32 = (((Int32.toUInt32 ((96 : Int32) + ((v0 / (pwv (Int32.toNatClampNeg ((z1 - (1 : Int32)) - v1)))) - (v0 / (pwv (Int32.toNatClampNeg ((z1 - (1 : Int32)) - v1)))) / (27 : Int32) * (27 : Int32)))) % 65536).toInt32)) (some ((((Int32.toUInt32 ((96 : Int32) + ((v0 / (pwv (Int32.toNatClampNeg ((z1 - (1 : Int32)) - v1)))) - (v0 / (pwv (Int32.toNatClampNeg ((z1 - (1 : Int32)) - v1)))) / (27 : Int32) * (27 : Int32)))) % 65536).toInt32)))))) else
  fX10_letterOf_b19 )
set_option maxRecDepth 100000 in
theorem wX10_letterOf {E : PE} {l : Launch} (hG : Gs E l) {v0 : Int32} {v1 : Int32} {h : PH} {r : Int32} (hf : fX10_letterOf v0 v1 = some r) : Ct E l 1 0 0 yX10_letterOf cX10_letterOf 3 (some .char) [.int v0, .int v1] h (fun v u => v = some (.int r) ∧ u = h) := by
  refine ct_of hG (by decide) (Nat.le_of_ble_eq_true rfl) ?_
  intro p e s m args below meth c X hnm
  show PW E p l e _ s m args below meth c _ 0 0 _ h 0 [(0, some (.int v0)), (1, some (.int v1))] []
  unfold fX10_letterOf at hf
  refine p_iload_n X (dcg dc_X10_letterOf 0 rfl) rfl rfl ?_
  obtain ⟨z1, hz1, hf⟩ := bd_some hf
  refine p_callS (As := [_]) X ml_X10_27 (dcg dc_X10_letterOf 1 rfl) rfl rfl  (wX10_lettersOf hG hz1) (by decide) (room4 (Nat.le_of_ble_eq_true rfl)) (Nat.le_refl _) (Nat.le_refl _) ?_
  rintro _ u9 ⟨rfl, e9⟩; have e9 := e9.symm; subst e9
  refine p_iconst (v := 1) X (dcg dc_X10_letterOf 2 rfl) (by decide) ?_
  refine p_isub X (dcg dc_X10_letterOf 3 rfl) ?_
  refine p_iload_n X (dcg dc_X10_letterOf 4 rfl) rfl rfl ?_
  refine p_isub X (dcg dc_X10_letterOf 5 rfl) ?_
  refine p_istore_n X (dcg dc_X10_letterOf 6 rfl) rfl (by decide) rfl ?_
  refine p_iload_n X (dcg dc_X10_letterOf 7 rfl) rfl rfl ?_
  refine p_if_lt (tgt := 19) X (dcg dc_X10_letterOf 8 rfl) (by decide) (fun q => ?_) (fun q => ?_)
  · have hf := if_t q hf
    refine p_pick [] ?_
    exact wX10_letterOf_b19 X hG hnm hf 
  · have hf := if_f q hf
    refine p_iload_n X (dcg dc_X10_letterOf 9 rfl) rfl rfl ?_
    refine p_bipush (v := 6) X (dcg dc_X10_letterOf 10 rfl) (by decide) ?_
    refine p_icmp_lt (tgt := 22) X (dcg dc_X10_letterOf 11 rfl) (by decide) (fun q => ?_) (fun q => ?_)
    · have hf := if_t q hf
      refine p_bipush (v := 96) X (dcg dc_X10_letterOf 14 rfl) (by decide) ?_
      refine p_iload_n X (dcg dc_X10_letterOf 15 rfl) rfl rfl ?_
      refine p_gets (v := .ref 1) X (gz_pow hG) tw_478 (dcg dc_X10_letterOf 16 rfl) ?_
      refine p_iload_n X (dcg dc_X10_letterOf 17 rfl) rfl rfl ?_
      obtain ⟨hg3, hf⟩ := gd_some hf
      refine p_powers X (dcg dc_X10_letterOf 18 rfl) (vp_of_inb hg3) ?_
      obtain ⟨hg4, hf⟩ := gd_some hf
      refine p_idiv X (dcg dc_X10_letterOf 19 rfl) hg4 ?_
      refine p_bipush (v := 27) X (dcg dc_X10_letterOf 20 rfl) (by decide) ?_
      refine p_irem X (dcg dc_X10_letterOf 21 rfl) (by decide) ?_
      refine p_iadd X (dcg dc_X10_letterOf 22 rfl) ?_
      refine p_i2c X (dcg dc_X10_letterOf 23 rfl) ?_
      obtain ⟨hg5, hf⟩ := gd_some hf
      have er := Option.some.inj hf
      subst er
      exact p_zret X rfl (congrArg Value.int hg5) (dcg dc_X10_letterOf 24 rfl) ⟨rfl, rfl⟩ (Nat.le_refl _) (Nat.le_refl _)
    · have hf := if_f q hf
      refine p_pick [] ?_
      exact wX10_letterOf_b19 X hG hnm hf 
theorem dc_X4_needsBrackets : decs cX4_needsBrackets [(0, .iload_n 1, 1), (1, .bipush 6, 2), (3, .if_icmp .eq 14, 3), (6, .iload_n 1, 1), (7, .iconst 5, 1), (8, .if_icmp .ne 13, 3), (11, .iload_n 0, 1), (12, .bipush 6, 2), (14, .if_icmp .eq 7, 3), (17, .iconst 1, 1), (18, .goto 4, 3), (21, .iconst 0, 1), (22, .ireturn, 1)] = true := by decide +kernel
noncomputable def fX4_needsBrackets_b22 (t0 : Int32) : Option Int32 :=
  gd (t0 &&& 1 = t0) (some (t0))
set_option maxRecDepth 100000 in
theorem wX4_needsBrackets_b22 {E : PE} {p : Program} {l : Launch} {e : Env} {s : State} {m : MethodId} {args : Array Value} {below : List Frame} {meth : Method} {c : Code} (X : Cx E p l e (rmv 0 0 0) s m args below meth c RX4 cX4_needsBrackets 2 (some .boolean)) (hG : Gs E l) (hnm : meth.name = yX4_needsBrackets.name) {t0 : Int32} {h : PH} {r : Int32} (hf : fX4_needsBrackets_b22 t0 = some r)  : PW E p l e (rmv 0 0 0) s m args below meth c 2 0 0 (MQ below (QG E (fun v u => v = some (.int r) ∧ u = h)) args s 0 0 (pA E)) h 22 [] [.int t0] := by
  unfold fX4_needsBrackets_b22 at hf
  obtain ⟨hg1, hf⟩ := gd_some hf
  have er := Option.some.inj hf
  subst er
  exact p_zret X rfl (congrArg Value.int hg1) (dcg dc_X4_needsBrackets 12 rfl) ⟨rfl, rfl⟩ (Nat.le_refl _) (Nat.le_refl _)
noncomputable def fX4_needsBrackets_b17  : Option Int32 :=
  fX4_needsBrackets_b22 (1 : Int32)
set_option maxRecDepth 100000 in
theorem wX4_needsBrackets_b17 {E : PE} {p : Program} {l : Launch} {e : Env} {s : State} {m : MethodId} {args : Array Value} {below : List Frame} {meth : Method} {c : Code} (X : Cx E p l e (rmv 0 0 0) s m args below meth c RX4 cX4_needsBrackets 2 (some .boolean)) (hG : Gs E l) (hnm : meth.name = yX4_needsBrackets.name)  {h : PH} {r : Int32} (hf : fX4_needsBrackets_b17  = some r)  : PW E p l e (rmv 0 0 0) s m args below meth c 2 0 0 (MQ below (QG E (fun v u => v = some (.int r) ∧ u = h)) args s 0 0 (pA E)) h 17 [] [] := by
  unfold fX4_needsBrackets_b17 at hf
  refine p_iconst (v := 1) X (dcg dc_X4_needsBrackets 9 rfl) (by decide) ?_
  refine p_goto (tgt := 22) X (dcg dc_X4_needsBrackets 10 rfl) (by decide) ?_
  refine p_pick [] ?_
  exact wX4_needsBrackets_b22 X hG hnm hf 
noncomputable def fX4_needsBrackets_b21  : Option Int32 :=
  fX4_needsBrackets_b22 (0 : Int32)
set_option maxRecDepth 100000 in
theorem wX4_needsBrackets_b21 {E : PE} {p : Program} {l : Launch} {e : Env} {s : State} {m : MethodId} {args : Array Value} {below : List Frame} {meth : Method} {c : Code} (X : Cx E p l e (rmv 0 0 0) s m args below meth c RX4 cX4_needsBrackets 2 (some .boolean)) (hG : Gs E l) (hnm : meth.name = yX4_needsBrackets.name)  {h : PH} {r : Int32} (hf : fX4_needsBrackets_b21  = some r)  : PW E p l e (rmv 0 0 0) s m args below meth c 2 0 0 (MQ below (QG E (fun v u => v = some (.int r) ∧ u = h)) args s 0 0 (pA E)) h 21 [] [] := by
  unfold fX4_needsBrackets_b21 at hf
  refine p_iconst (v := 0) X (dcg dc_X4_needsBrackets 11 rfl) (by decide) ?_
  refine p_pick [] ?_
  exact wX4_needsBrackets_b22 X hG hnm hf 
noncomputable def fX4_needsBrackets (v0 : Int32) (v1 : Int32) : Option Int32 :=
  if (v1 = (6 : Int32)) then (fX4_needsBrackets_b17 ) else
  if (¬ v1 = (5 : Int32)) then (fX4_needsBrackets_b21 ) else
  if (v0 = (6 : Int32)) then (fX4_needsBrackets_b21 ) else
  fX4_needsBrackets_b17 
set_option maxRecDepth 100000 in
theorem wX4_needsBrackets {E : PE} {l : Launch} (hG : Gs E l) {v0 : Int32} {v1 : Int32} {h : PH} {r : Int32} (hf : fX4_needsBrackets v0 v1 = some r) : Ct E l 0 0 0 yX4_needsBrackets cX4_needsBrackets 2 (some .boolean) [.int v0, .int v1] h (fun v u => v = some (.int r) ∧ u = h) := by
  refine ct_of hG (by decide) (Nat.le_of_ble_eq_true rfl) ?_
  intro p e s m args below meth c X hnm
  show PW E p l e _ s m args below meth c _ 0 0 _ h 0 [(0, some (.int v0)), (1, some (.int v1))] []
  unfold fX4_needsBrackets at hf
  refine p_iload_n X (dcg dc_X4_needsBrackets 0 rfl) rfl rfl ?_
  refine p_bipush (v := 6) X (dcg dc_X4_needsBrackets 1 rfl) (by decide) ?_
  refine p_icmp_eq (tgt := 17) X (dcg dc_X4_needsBrackets 2 rfl) (by decide) (fun q => ?_) (fun q => ?_)
  · have hf := if_t q hf
    refine p_pick [] ?_
    exact wX4_needsBrackets_b17 X hG hnm hf 
  · have hf := if_f q hf
    refine p_iload_n X (dcg dc_X4_needsBrackets 3 rfl) rfl rfl ?_
    refine p_iconst (v := 5) X (dcg dc_X4_needsBrackets 4 rfl) (by decide) ?_
    refine p_icmp_ne (tgt := 21) X (dcg dc_X4_needsBrackets 5 rfl) (by decide) (fun q => ?_) (fun q => ?_)
    · have hf := if_t q hf
      refine p_pick [] ?_
      exact wX4_needsBrackets_b21 X hG hnm hf 
    · have hf := if_f q hf
      refine p_iload_n X (dcg dc_X4_needsBrackets 6 rfl) rfl rfl ?_
      refine p_bipush (v := 6) X (dcg dc_X4_needsBrackets 7 rfl) (by decide) ?_
      refine p_icmp_eq (tgt := 21) X (dcg dc_X4_needsBrackets 8 rfl) (by decide) (fun q => ?_) (fun q => ?_)
      · have hf := if_t q hf
        refine p_pick [] ?_
        exact wX4_needsBrackets_b21 X hG hnm hf 
      · have hf := if_f q hf
        refine p_pick [] ?_
        exact wX4_needsBrackets_b17 X hG hnm hf 
theorem dc_X5_init : decs cX5_init [(0, .aload_n 0, 1), (1, .invokespecial 1, 3), (4, .aload_n 0, 1), (5, .bipush 20, 2), (7, .newarray .int, 2), (9, .putfield 9, 3), (12, .aload_n 0, 1), (13, .bipush 20, 2), (15, .anewarray 13, 3), (18, .putfield 15, 3), (21, .return_, 1)] = true := by decide +kernel
noncomputable def fX5_init_b18 (t0 : Nat) (t1 : Nat) (h : PH) : Option PH :=
  gd (hK h t0 = 5) (lt (sR h 5 t0 1 (some t1)) (fun h6 =>
  some (h6)))
set_option maxRecDepth 100000 in
theorem mX5_init_b18 {t0 : Nat} {t1 : Nat} {h : PH} {r : PH} (hf : fX5_init_b18 t0 t1 h = some r) : lez h (hX r) (hV r) := by
  unfold fX5_init_b18 at hf
  have hle := lez_rf h
  obtain ⟨hk5, hf⟩ := gd_some hf
  obtain ⟨h6, rfl, hf⟩ := lt_some hf
  have ee := Option.some.inj hf; subst ee; exact hle
set_option maxRecDepth 100000 in
theorem wX5_init_b18 {E : PE} {p : Program} {l : Launch} {e : Env} {s : State} {m : MethodId} {args : Array Value} {below : List Frame} {meth : Method} {c : Code} {X0 V0 MC MS uc us : Nat} (X : Cx E p l e (rmv 1 MC MS) s m args below meth c RX5 cX5_init 1 (none)) (hG : Gs E l) (hnm : meth.name = yX5_init.name) {t0 : Nat} {t1 : Nat} {h : PH} {r : PH} (hM : MC + X0 = (hX r)) (hN : MS + V0 = (hV r)) (hu : uc + X0 = hX h) (hv : us + V0 = hV h) (hf : fX5_init_b18 t0 t1 h = some r)  : PW E p l e (rmv 1 MC MS) s m args below meth c 1 uc us (MQ below (QG E (fun v u => v = none ∧ u = r)) args s MC MS (pA E)) h 18 [] [.ref t1, .ref t0] := by
  have hm1 : lez h (hX r) (hV r) := mX5_init_b18 hf
  have hcm : uc ≤ MC := (by have o0 := hm1.1; have o1 := hM; have o2 := hu; (try simp only [hX_sI, hX_sR, hX_sL, hX_sD, hX_sIa, hX_sRa, hV_sI, hV_sR, hV_sL, hV_sD, hV_sIa, hV_sRa, hX_new, hV_new] at o0 o1 o2 ⊢); omega)
  have hsm : us ≤ MS := (by have o0 := hm1.2; have o1 := hN; have o2 := hv; (try simp only [hX_sI, hX_sR, hX_sL, hX_sD, hX_sIa, hX_sRa, hV_sI, hV_sR, hV_sL, hV_sD, hV_sIa, hV_sRa, hX_new, hV_new] at o0 o1 o2 ⊢); omega)
  clear hm1
  unfold fX5_init_b18 at hf
  obtain ⟨hk5, hf⟩ := gd_some hf
  refine p_putRf (v := some _) X fl_X5_15 rfl (by decide) (fun q hq => by cases hq; exact ⟨rfl, rfl⟩) hnm (nar_rf _ (by decide)) (fit_rf _ (by decide)) (dcg dc_X5_init 9 rfl) hk5 ?_
  obtain ⟨h6, rfl, hf⟩ := lt_some hf
  have er := Option.some.inj hf
  subst er
  exact p_vret X rfl (dcg dc_X5_init 10 rfl) ⟨rfl, rfl⟩ hcm hsm
noncomputable def fX5_init_b9 (v0 : Nat) (t0 : Nat) (t1 : Nat) (h : PH) : Option PH :=
  gd (hK h t0 = 5) (lt (sR h 5 t0 0 (some t1)) (fun h3 =>
  gd (¬ (20 : Int32) < 0 ∧ (Int32.toNatClampNeg (20 : Int32)) ≤ 1000000) (fX5_init_b18 v0 (hX h3) (hnew h3 26 (Int32.toNatClampNeg (20 : Int32))))))
set_option maxRecDepth 100000 in
theorem mX5_init_b9 {v0 : Nat} {t0 : Nat} {t1 : Nat} {h : PH} {r : PH} (hf : fX5_init_b9 v0 t0 t1 h = some r) : lez h (hX r) (hV r) := by
  unfold fX5_init_b9 at hf
  have hle := lez_rf h
  obtain ⟨hk2, hf⟩ := gd_some hf
  obtain ⟨h3, rfl, hf⟩ := lt_some hf
  obtain ⟨hg4, hf⟩ := gd_some hf
  have hle := lez_nw (c := 26) (n := (Int32.toNatClampNeg (20 : Int32))) hle
  exact lez_rt (mX5_init_b18 hf) hle
set_option maxRecDepth 100000 in
theorem wX5_init_b9 {E : PE} {p : Program} {l : Launch} {e : Env} {s : State} {m : MethodId} {args : Array Value} {below : List Frame} {meth : Method} {c : Code} {X0 V0 MC MS uc us : Nat} (X : Cx E p l e (rmv 1 MC MS) s m args below meth c RX5 cX5_init 1 (none)) (hG : Gs E l) (hnm : meth.name = yX5_init.name) {v0 : Nat} {t0 : Nat} {t1 : Nat} {h : PH} {r : PH} (hM : MC + X0 = (hX r)) (hN : MS + V0 = (hV r)) (hu : uc + X0 = hX h) (hv : us + V0 = hV h) (hf : fX5_init_b9 v0 t0 t1 h = some r)  : PW E p l e (rmv 1 MC MS) s m args below meth c 1 uc us (MQ below (QG E (fun v u => v = none ∧ u = r)) args s MC MS (pA E)) h 9 [(0, some (.ref v0))] [.ref t1, .ref t0] := by
  have hm1 : lez h (hX r) (hV r) := mX5_init_b9 hf
  have hcm : uc ≤ MC := (by have o0 := hm1.1; have o1 := hM; have o2 := hu; (try simp only [hX_sI, hX_sR, hX_sL, hX_sD, hX_sIa, hX_sRa, hV_sI, hV_sR, hV_sL, hV_sD, hV_sIa, hV_sRa, hX_new, hV_new] at o0 o1 o2 ⊢); omega)
  have hsm : us ≤ MS := (by have o0 := hm1.2; have o1 := hN; have o2 := hv; (try simp only [hX_sI, hX_sR, hX_sL, hX_sD, hX_sIa, hX_sRa, hV_sI, hV_sR, hV_sL, hV_sD, hV_sIa, hV_sRa, hX_new, hV_new] at o0 o1 o2 ⊢); omega)
  clear hm1
  unfold fX5_init_b9 at hf
  obtain ⟨hk2, hf⟩ := gd_some hf
  refine p_putRf (v := some _) X fl_X5_9 rfl (by decide) (fun q hq => by cases hq; exact ⟨rfl, rfl⟩) hnm (nar_rf _ (by decide)) (fit_rf _ (by decide)) (dcg dc_X5_init 5 rfl) hk2 ?_
  obtain ⟨h3, rfl, hf⟩ := lt_some hf
  refine p_aload_n X (dcg dc_X5_init 6 rfl) rfl rfl ?_
  refine p_bipush (v := 20) X (dcg dc_X5_init 7 rfl) (by decide) ?_
  obtain ⟨hg4, hf⟩ := gd_some hf
  have hm1 : lez _ (hX r) (hV r) := mX5_init_b18 hf
  have hm2 := lez_new hm1
  refine p_newq26 X tw_247 tl_201 (dcg dc_X5_init 8 rfl) hg4.1 hg4.2 (show uc + 1 ≤ MC from (by have o0 := hm2.1; have o1 := hM; have o2 := hu; (try simp only [hX_sI, hX_sR, hX_sL, hX_sD, hX_sIa, hX_sRa, hV_sI, hV_sR, hV_sL, hV_sD, hV_sIa, hV_sRa, hX_new, hV_new] at o0 o1 o2 ⊢); omega)) (show us + (Int32.toNatClampNeg (20 : Int32)) ≤ MS from (by have o0 := hm2.2; have o1 := hN; have o2 := hv; (try simp only [hX_sI, hX_sR, hX_sL, hX_sD, hX_sIa, hX_sRa, hV_sI, hV_sR, hV_sL, hV_sD, hV_sIa, hV_sRa, hX_new, hV_new] at o0 o1 o2 ⊢); omega)) ?_
  refine p_pick [] ?_
  exact wX5_init_b18 X hG hnm hM hN (by have o0 := hu; (try simp only [hX_sI, hX_sR, hX_sL, hX_sD, hX_sIa, hX_sRa, hV_sI, hV_sR, hV_sL, hV_sD, hV_sIa, hV_sRa, hX_new, hV_new] at o0 ⊢); omega) (by have o0 := hv; (try simp only [hX_sI, hX_sR, hX_sL, hX_sD, hX_sIa, hX_sRa, hV_sI, hV_sR, hV_sL, hV_sD, hV_sIa, hV_sRa, hX_new, hV_new] at o0 ⊢); omega) hf 
noncomputable def fX5_init_b0 (v0 : Nat) (h : PH) : Option PH :=
  gd (¬ (20 : Int32) < 0 ∧ (Int32.toNatClampNeg (20 : Int32)) ≤ 1000000) (fX5_init_b9 v0 v0 (hX h) (hnew h 20 (Int32.toNatClampNeg (20 : Int32))))
set_option maxRecDepth 100000 in
theorem mX5_init_b0 {v0 : Nat} {h : PH} {r : PH} (hf : fX5_init_b0 v0 h = some r) : lez h (hX r) (hV r) := by
  unfold fX5_init_b0 at hf
  have hle := lez_rf h
  obtain ⟨hg1, hf⟩ := gd_some hf
  have hle := lez_nw (c := 20) (n := (Int32.toNatClampNeg (20 : Int32))) hle
  exact lez_rt (mX5_init_b9 hf) hle
set_option maxRecDepth 100000 in
theorem wX5_init_b0 {E : PE} {p : Program} {l : Launch} {e : Env} {s : State} {m : MethodId} {args : Array Value} {below : List Frame} {meth : Method} {c : Code} {X0 V0 MC MS uc us : Nat} (X : Cx E p l e (rmv 1 MC MS) s m args below meth c RX5 cX5_init 1 (none)) (hG : Gs E l) (hnm : meth.name = yX5_init.name) {v0 : Nat} {h : PH} {r : PH} (hM : MC + X0 = (hX r)) (hN : MS + V0 = (hV r)) (hu : uc + X0 = hX h) (hv : us + V0 = hV h) (hf : fX5_init_b0 v0 h = some r)  : PW E p l e (rmv 1 MC MS) s m args below meth c 1 uc us (MQ below (QG E (fun v u => v = none ∧ u = r)) args s MC MS (pA E)) h 0 [(0, some (.ref v0))] [] := by
  have hm1 : lez h (hX r) (hV r) := mX5_init_b0 hf
  have hcm : uc ≤ MC := (by have o0 := hm1.1; have o1 := hM; have o2 := hu; (try simp only [hX_sI, hX_sR, hX_sL, hX_sD, hX_sIa, hX_sRa, hV_sI, hV_sR, hV_sL, hV_sD, hV_sIa, hV_sRa, hX_new, hV_new] at o0 o1 o2 ⊢); omega)
  have hsm : us ≤ MS := (by have o0 := hm1.2; have o1 := hN; have o2 := hv; (try simp only [hX_sI, hX_sR, hX_sL, hX_sD, hX_sIa, hX_sRa, hV_sI, hV_sR, hV_sL, hV_sD, hV_sIa, hV_sRa, hX_new, hV_new] at o0 o1 o2 ⊢); omega)
  clear hm1
  unfold fX5_init_b0 at hf
  refine p_aload_n X (dcg dc_X5_init 0 rfl) rfl rfl ?_
  refine p_objinit X tw_246 tw_146 tw_147 (dcg dc_X5_init 1 rfl) (Nat.le_of_ble_eq_true rfl) (Nat.le_trans (Nat.add_le_add_right (room4 (Nat.le_of_ble_eq_true rfl)) 12) (Nat.le_of_ble_eq_true rfl)) (fun ls hl => hl.1.trans X.2.2.1.symm) ?_
  refine p_aload_n X (dcg dc_X5_init 2 rfl) rfl rfl ?_
  refine p_bipush (v := 20) X (dcg dc_X5_init 3 rfl) (by decide) ?_
  obtain ⟨hg1, hf⟩ := gd_some hf
  have hm1 : lez _ (hX r) (hV r) := mX5_init_b9 hf
  have hm2 := lez_new hm1
  refine p_newa20 X tw_168 (dcg dc_X5_init 4 rfl) hg1.1 hg1.2 (show uc + 1 ≤ MC from (by have o0 := hm2.1; have o1 := hM; have o2 := hu; (try simp only [hX_sI, hX_sR, hX_sL, hX_sD, hX_sIa, hX_sRa, hV_sI, hV_sR, hV_sL, hV_sD, hV_sIa, hV_sRa, hX_new, hV_new] at o0 o1 o2 ⊢); omega)) (show us + (Int32.toNatClampNeg (20 : Int32)) ≤ MS from (by have o0 := hm2.2; have o1 := hN; have o2 := hv; (try simp only [hX_sI, hX_sR, hX_sL, hX_sD, hX_sIa, hX_sRa, hV_sI, hV_sR, hV_sL, hV_sD, hV_sIa, hV_sRa, hX_new, hV_new] at o0 o1 o2 ⊢); omega)) ?_
  refine p_pick [0] ?_
  exact wX5_init_b9 X hG hnm hM hN (by have o0 := hu; (try simp only [hX_sI, hX_sR, hX_sL, hX_sD, hX_sIa, hX_sRa, hV_sI, hV_sR, hV_sL, hV_sD, hV_sIa, hV_sRa, hX_new, hV_new] at o0 ⊢); omega) (by have o0 := hv; (try simp only [hX_sI, hX_sR, hX_sL, hX_sD, hX_sIa, hX_sRa, hV_sI, hV_sR, hV_sL, hV_sD, hV_sIa, hV_sRa, hX_new, hV_new] at o0 ⊢); omega) hf 
noncomputable def fX5_init (v0 : Nat) (h : PH) : Option PH :=
  fX5_init_b0 v0 h
set_option maxRecDepth 100000 in
theorem mX5_init {v0 : Nat} {h : PH} {r : PH} (hf : fX5_init v0 h = some r) : lez h (hX r) (hV r) := by
  unfold fX5_init at hf
  have hle := lez_rf h
  exact lez_rt (mX5_init_b0 hf) hle
set_option maxRecDepth 100000 in
theorem wX5_init {E : PE} {l : Launch} (hG : Gs E l) {v0 : Nat} {h : PH} {r : PH} (hf : fX5_init v0 h = some r) : Ct E l 1 ((hX r) - hX h) ((hV r) - hV h) yX5_init cX5_init 1 (none) [.ref v0] h (fun v u => v = none ∧ u = r) := by
  have hm0 := mX5_init hf
  refine ct_of hG (by decide) (Nat.le_of_ble_eq_true rfl) ?_
  intro p e s m args below meth c X hnm
  show PW E p l e _ s m args below meth c _ 0 0 _ h 0 [(0, some (.ref v0))] []
  unfold fX5_init at hf
  have hM := Nat.sub_add_cancel hm0.1
  have hN := Nat.sub_add_cancel hm0.2
  refine p_pick [0] ?_
  exact wX5_init_b0 X hG hnm hM hN (Nat.zero_add _) (Nat.zero_add _) hf
