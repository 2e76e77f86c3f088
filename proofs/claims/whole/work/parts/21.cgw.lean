/-! methods of the program (by program: wip/whole/gen2.py) -/
theorem dc_X11_scoreAt : decs cX11_scoreAt [(0, .aload_n 0, 1), (1, .getfield 68, 3), (4, .iload_n 1, 1), (5, .invokevirtual 252, 3), (8, .ireturn, 1)] = true := by decide +kernel
noncomputable def fX11_scoreAt (v0 : Nat) (v1 : Int32) (h : PH) : Option Int32 :=
  gd (hK h v0 = 11) (gs (hR h 11 v0 8) (fun a2 =>
  gd (hK h a2 = 2) (bd (fX2_scoreOf a2 v1 h) (fun z5 =>
  some (z5)))))
set_option maxRecDepth 100000 in
theorem wX11_scoreAt {E : PE} {l : Launch} (hG : Gs E l) {v0 : Nat} {v1 : Int32} {h : PH} {r : Int32} (hf : fX11_scoreAt v0 v1 h = some r) : Ct E l 1 0 0 yX11_scoreAt cX11_scoreAt 2 (some .int) [.ref v0, .int v1] h (fun v u => v = some (.int r) ∧ u = h) := by
  refine ct_of hG (by decide) (Nat.le_of_ble_eq_true rfl) ?_
  intro p e s m args below meth c X hnm
  show PW E p l e _ s m args below meth c _ 0 0 _ h 0 [(0, some (.ref v0)), (1, some (.int v1))] []
  unfold fX11_scoreAt at hf
  refine p_aload_n X (dcg dc_X11_scoreAt 0 rfl) rfl rfl ?_
  obtain ⟨hk1, hf⟩ := gd_some hf
  refine p_getR X fl_X11_68 rfl (by decide) (dcg dc_X11_scoreAt 1 rfl) hk1 ?_
  refine p_iload_n X (dcg dc_X11_scoreAt 2 rfl) rfl rfl ?_
  obtain ⟨a2, e3, hf⟩ := gs_some hf
  first | subst e3 | (try rw [e3])
  obtain ⟨hk4, hf⟩ := gd_some hf
  obtain ⟨z5, hz5, hf⟩ := bd_some hf
  refine p_callV (As := [_]) X ml_X11_252 (dcg dc_X11_scoreAt 3 rfl) rfl rfl hk4 (wX2_scoreOf hG hz5) (by decide) (room4 (Nat.le_of_ble_eq_true rfl)) (Nat.le_refl _) (Nat.le_refl _) ?_
  rintro _ u9 ⟨rfl, e9⟩; have e9 := e9.symm; subst e9
  have er := Option.some.inj hf
  subst er
  exact p_iret X rfl (dcg dc_X11_scoreAt 4 rfl) ⟨rfl, rfl⟩ (Nat.le_refl _) (Nat.le_refl _)
theorem dc_X11_keepQuery : decs cX11_keepQuery [(0, .aload_n 0, 1), (1, .getfield 47, 3), (4, .iload_n 1, 1), (5, .aload_n 2, 1), (6, .aastore, 1), (7, .aload_n 0, 1), (8, .getfield 53, 3), (11, .iload_n 1, 1), (12, .aaload, 1), (13, .astore_n 3, 1), (14, .aload_n 3, 1), (15, .invokevirtual 359, 3), (18, .iconst 0, 1), (19, .istore 4, 2), (21, .iload 4, 2), (23, .bipush 100, 2), (25, .if_icmp .ge 25, 3), (28, .aload_n 0, 1), (29, .aload_n 2, 1), (30, .iload 4, 2), (32, .invokevirtual 343, 3), (35, .ifCond .eq 9, 3), (38, .aload_n 3, 1), (39, .iload 4, 2), (41, .invokevirtual 362, 3), (44, .iinc 4 1, 3), (47, .goto (-26), 3), (50, .aload_n 3, 1), (51, .invokevirtual 202, 3), (54, .ireturn, 1)] = true := by decide +kernel
noncomputable def fX11_keepQuery_b44 (v0 : Nat) (v2 : Option Nat) (v3 : Option Nat) (v4 : Int32) (h : PH) : Option ((Int32 × PH) ⊕ (Int32 × PH)) :=
  some (.inl ((v4 + 1), h))
set_option maxRecDepth 100000 in
theorem mX11_keepQuery_b44 {v0 : Nat} {v2 : Option Nat} {v3 : Option Nat} {v4 : Int32} {h : PH} {x : ((Int32 × PH) ⊕ (Int32 × PH))} (hf : fX11_keepQuery_b44 v0 v2 v3 v4 h = some x) : (∀ w9 : (Int32 × PH), x = .inl w9 → eqz h (hX (w9.2)) (hV (w9.2))) ∧ (∀ w9 : (Int32 × PH), x = .inr w9 → eqz h (hX w9.2) (hV w9.2)) := by
  unfold fX11_keepQuery_b44 at hf
  have hle := eqz_rf h
  have ee := Option.some.inj hf; subst ee
  exact ⟨(fun z e => by have ee := Sum.inl.inj (e); subst ee; exact hle), (fun z e => nomatch e)⟩
set_option maxRecDepth 100000 in
theorem wX11_keepQuery_b44 {E : PE} {p : Program} {l : Launch} {e : Env} {s : State} {m : MethodId} {args : Array Value} {below : List Frame} {meth : Method} {c : Code} (X : Cx E p l e (rmv 49 0 0) s m args below meth c RX11 cX11_keepQuery 5 (some .int)) (hG : Gs E l) (hnm : meth.name = yX11_keepQuery.name) {v0 : Nat} {v2 : Option Nat} {v3 : Option Nat} {v4 : Int32} {h : PH} {r : (Int32 × PH)} {x : ((Int32 × PH) ⊕ (Int32 × PH))} (hf : fX11_keepQuery_b44 v0 v2 v3 v4 h = some x) (k0 : ∀ z : (Int32 × PH), x = .inl z → PW E p l e (rmv 49 0 0) s m args below meth c 5 0 0 (MQ below (QG E (fun v u => v = some (.int r.1) ∧ u = r.2)) args s 0 0 (pA E)) (z.2) 21 [(0, some (.ref v0)), (2, some (va_rf v2)), (3, some (va_rf v3)), (4, some (.int (z.1)))] []) (kf : ∀ z : (Int32 × PH), x = .inr z → z = r) : PW E p l e (rmv 49 0 0) s m args below meth c 5 0 0 (MQ below (QG E (fun v u => v = some (.int r.1) ∧ u = r.2)) args s 0 0 (pA E)) h 44 [(0, some (.ref v0)), (2, some (va_rf v2)), (3, some (va_rf v3)), (4, some (.int v4))] [] := by
  unfold fX11_keepQuery_b44 at hf
  refine p_iinc (v := 1) X (dcg dc_X11_keepQuery 25 rfl) rfl (by decide) (by decide) (nwq (k := 3) rfl) ?_
  refine p_goto (tgt := 21) X (dcg dc_X11_keepQuery 26 rfl) (by decide) ?_
  refine p_pick [0, 2, 3, 4] ?_
  exact k0 _ (Option.some.inj hf).symm
noncomputable def fX11_keepQuery_c21 (v0 : Nat) (v2 : Option Nat) (v3 : Option Nat) (v4 : Int32) (h : PH) : Option ((Int32 × PH) ⊕ (Int32 × PH)) :=
  if ((100 : Int32) ≤ v4) then (mr (gs v3 (fun a18 =>
  gd (hK h a18 = 9) (bd (fX9_size a18 h) (fun z21 =>
  some ((z21, h))))))) else
  gd (hK h v0 = 11) (bd (fX11_isSatisfied v0 v2 v4 h) (fun z23 =>
  if (z23 = 0) then (fX11_keepQuery_b44 v0 v2 v3 v4 h) else
  gs v3 (fun a24 =>
  gd (hK h a24 = 9) (bd (fX9_put a24 v4 h) (fun z27 =>
  fX11_keepQuery_b44 v0 v2 (some a24) v4 z27)))))
set_option maxRecDepth 100000 in
theorem mX11_keepQuery_c21 {v0 : Nat} {v2 : Option Nat} {v3 : Option Nat} {v4 : Int32} {h : PH} {x : ((Int32 × PH) ⊕ (Int32 × PH))} (hf : fX11_keepQuery_c21 v0 v2 v3 v4 h = some x) : (∀ w9 : (Int32 × PH), x = .inl w9 → eqz h (hX (w9.2)) (hV (w9.2))) ∧ (∀ w9 : (Int32 × PH), x = .inr w9 → eqz h (hX w9.2) (hV w9.2)) := by
  unfold fX11_keepQuery_c21 at hf
  have hle := eqz_rf h
  rcases ite_or hf with ⟨q, hf⟩ | ⟨q, hf⟩
  · have hf := if_t q hf
    obtain ⟨y16, hfm, rfl⟩ := mr_some hf; have hf := hfm; clear hfm
    obtain ⟨a18, e19, hf⟩ := gs_some hf
    obtain ⟨hk20, hf⟩ := gd_some hf
    obtain ⟨z21, hz21, hf⟩ := bd_some hf
    have ee := Option.some.inj hf; subst ee
    exact ⟨(fun z e => nomatch e), (fun z e => by have ee := Sum.inr.inj (e); subst ee; exact hle)⟩
  · have hf := if_f q hf
    obtain ⟨hk22, hf⟩ := gd_some hf
    obtain ⟨z23, hz23, hf⟩ := bd_some hf
    rcases ite_or hf with ⟨q, hf⟩ | ⟨q, hf⟩
    · have hf := if_t q hf
      obtain ⟨c0, cf⟩ := mX11_keepQuery_b44 hf
      exact ⟨fun z e => eqz_rt (c0 z (e)) hle, fun z e => eqz_rt (cf z (e)) hle⟩
    · have hf := if_f q hf
      obtain ⟨a24, e25, hf⟩ := gs_some hf
      obtain ⟨hk26, hf⟩ := gd_some hf
      obtain ⟨z27, hz27, hf⟩ := bd_some hf
      have hle := eqz_rt (mX9_put hz27) hle
      obtain ⟨c0, cf⟩ := mX11_keepQuery_b44 hf
      exact ⟨fun z e => eqz_rt (c0 z (e)) hle, fun z e => eqz_rt (cf z (e)) hle⟩
set_option maxRecDepth 100000 in
theorem wX11_keepQuery_c21 {E : PE} {p : Program} {l : Launch} {e : Env} {s : State} {m : MethodId} {args : Array Value} {below : List Frame} {meth : Method} {c : Code} (X : Cx E p l e (rmv 49 0 0) s m args below meth c RX11 cX11_keepQuery 5 (some .int)) (hG : Gs E l) (hnm : meth.name = yX11_keepQuery.name) {v0 : Nat} {v2 : Option Nat} {v3 : Option Nat} {v4 : Int32} {h : PH} {r : (Int32 × PH)} {x : ((Int32 × PH) ⊕ (Int32 × PH))} (hf : fX11_keepQuery_c21 v0 v2 v3 v4 h = some x) (k0 : ∀ z : (Int32 × PH), x = .inl z → PW E p l e (rmv 49 0 0) s m args below meth c 5 0 0 (MQ below (QG E (fun v u => v = some (.int r.1) ∧ u = r.2)) args s 0 0 (pA E)) (z.2) 21 [(0, some (.ref v0)), (2, some (va_rf v2)), (3, some (va_rf v3)), (4, some (.int (z.1)))] []) (kf : ∀ z : (Int32 × PH), x = .inr z → z = r) : PW E p l e (rmv 49 0 0) s m args below meth c 5 0 0 (MQ below (QG E (fun v u => v = some (.int r.1) ∧ u = r.2)) args s 0 0 (pA E)) h 21 [(0, some (.ref v0)), (2, some (va_rf v2)), (3, some (va_rf v3)), (4, some (.int v4))] [] := by
  unfold fX11_keepQuery_c21 at hf
  refine p_iload X (dcg dc_X11_keepQuery 14 rfl) rfl ?_
  refine p_bipush (v := 100) X (dcg dc_X11_keepQuery 15 rfl) (by decide) ?_
  refine p_icmp_ge (tgt := 50) X (dcg dc_X11_keepQuery 16 rfl) (by decide) (fun q => ?_) (fun q => ?_)
  · have hf := if_t q hf
    obtain ⟨y16, hf, hy17⟩ := mr_some hf
    have hy17f := kf y16 hy17
    subst hy17f
    refine p_aloadq_n X (dcg dc_X11_keepQuery 27 rfl) rfl rfl ?_
    obtain ⟨a18, e19, hf⟩ := gs_some hf
    first | subst e19 | (try rw [e19])
    obtain ⟨hk20, hf⟩ := gd_some hf
    obtain ⟨z21, hz21, hf⟩ := bd_some hf
    refine p_callV (As := []) X ml_X11_202 (dcg dc_X11_keepQuery 28 rfl) rfl rfl hk20 (wX9_size hG hz21) (by decide) (room4 (Nat.le_of_ble_eq_true rfl)) (Nat.le_refl _) (Nat.le_refl _) ?_
    rintro _ u9 ⟨rfl, e9⟩; have e9 := e9.symm; subst e9
    have er := Option.some.inj hf
    subst er
    exact p_iret X rfl (dcg dc_X11_keepQuery 29 rfl) ⟨rfl, rfl⟩ (Nat.le_refl _) (Nat.le_refl _)
  · have hf := if_f q hf
    refine p_aload_n X (dcg dc_X11_keepQuery 17 rfl) rfl rfl ?_
    refine p_aloadq_n X (dcg dc_X11_keepQuery 18 rfl) rfl rfl ?_
    refine p_iload X (dcg dc_X11_keepQuery 19 rfl) rfl ?_
    obtain ⟨hk22, hf⟩ := gd_some hf
    obtain ⟨z23, hz23, hf⟩ := bd_some hf
    refine p_callV (As := [va_rf _, _]) X ml_X11_343 (dcg dc_X11_keepQuery 20 rfl) rfl rfl hk22 (wX11_isSatisfied hG hz23) (by decide) (room4 (Nat.le_of_ble_eq_true rfl)) (Nat.le_refl _) (Nat.le_refl _) ?_
    rintro _ u9 ⟨rfl, e9⟩; have e9 := e9.symm; subst e9
    refine p_if_eq (tgt := 44) X (dcg dc_X11_keepQuery 21 rfl) (by decide) (fun q => ?_) (fun q => ?_)
    · have hf := if_t q hf
      refine p_pick [0, 2, 3, 4] ?_
      exact wX11_keepQuery_b44 X hG hnm hf k0 kf
    · have hf := if_f q hf
      refine p_aloadq_n X (dcg dc_X11_keepQuery 22 rfl) rfl rfl ?_
      refine p_iload X (dcg dc_X11_keepQuery 23 rfl) rfl ?_
      obtain ⟨a24, e25, hf⟩ := gs_some hf
      first | subst e25 | (try rw [e25])
      obtain ⟨hk26, hf⟩ := gd_some hf
      obtain ⟨z27, hz27, hf⟩ := bd_some hf
      refine p_callV (As := [_]) X ml_X11_362 (dcg dc_X11_keepQuery 24 rfl) rfl rfl hk26 (wX9_put hG hz27) (by decide) (room4 (Nat.le_of_ble_eq_true rfl)) (Nat.le_refl _) (Nat.le_refl _) ?_
      rintro _ u9 ⟨rfl, e9⟩; have e9 := e9.symm; subst e9
      refine p_pick [0, 2, 3, 4] ?_
      exact wX11_keepQuery_b44 X hG hnm hf k0 kf
noncomputable def fX11_keepQuery_l21 (v0 : Nat) (v2 : Option Nat) (v3 : Option Nat) (v4 : Int32) (h : PH) : Option (Int32 × PH) := wh (fun z : (Int32 × PH) => fX11_keepQuery_c21 v0 v2 v3 (z.1) (z.2)) (v4, h)
set_option maxRecDepth 100000 in
theorem mX11_keepQuery_l21 {v0 : Nat} {v2 : Option Nat} {v3 : Option Nat} {v4 : Int32} {h : PH} {r : (Int32 × PH)} (hf : fX11_keepQuery_l21 v0 v2 v3 v4 h = some r) : eqz h (hX r.2) (hV r.2) := by
  unfold fX11_keepQuery_l21 at hf
  refine wh_ind (P := fun z => eqz (z.2) (hX r.2) (hV r.2)) (fun z x0 hs i1 i2 => ?_) _ hf
  obtain ⟨c0, cf⟩ := mX11_keepQuery_c21 (v0 := v0) (v2 := v2) (v3 := v3) (v4 := z.1) (h := z.2) hs
  rcases hxx : x0 with zz | zz
  · exact eqz_tr (c0 zz hxx) (i1 zz hxx)
  · have ee := i2 zz hxx; subst ee; exact cf zz hxx
set_option maxRecDepth 100000 in
theorem wX11_keepQuery_l21 {E : PE} {p : Program} {l : Launch} {e : Env} {s : State} {m : MethodId} {args : Array Value} {below : List Frame} {meth : Method} {c : Code} (X : Cx E p l e (rmv 49 0 0) s m args below meth c RX11 cX11_keepQuery 5 (some .int)) (hG : Gs E l) (hnm : meth.name = yX11_keepQuery.name) {v0 : Nat} {v2 : Option Nat} {v3 : Option Nat} {v4 : Int32} {h : PH} {r : (Int32 × PH)} (hf : fX11_keepQuery_l21 v0 v2 v3 v4 h = some r)  : PW E p l e (rmv 49 0 0) s m args below meth c 5 0 0 (MQ below (QG E (fun v u => v = some (.int r.1) ∧ u = r.2)) args s 0 0 (pA E)) h 21 [(0, some (.ref v0)), (2, some (va_rf v2)), (3, some (va_rf v3)), (4, some (.int v4))] [] := by
  unfold fX11_keepQuery_l21 at hf
  refine wh_ind (P := fun z => PW E p l e (rmv 49 0 0) s m args below meth c 5 0 0 (MQ below (QG E (fun v u => v = some (.int r.1) ∧ u = r.2)) args s 0 0 (pA E)) (z.2) 21 [(0, some (.ref v0)), (2, some (va_rf v2)), (3, some (va_rf v3)), (4, some (.int (z.1)))] []) (fun z x0 hs i1 i2 => ?_) _ hf
  exact wX11_keepQuery_c21 (r := r) (v0 := v0) (v2 := v2) (v3 := v3) (v4 := z.1) (h := z.2) X hG hnm hs i1  i2
noncomputable def fX11_keepQuery (v0 : Nat) (v1 : Int32) (v2 : Option Nat) (h : PH) : Option (Int32 × PH) :=
  gd (hK h v0 = 11) (gs (hR h 11 v0 5) (fun a2 =>
  gd (hK h a2 = 25 ∧ inb v1 (hN h a2)) (gd (okq h 4 v2 = true) (lt (sR h 25 a2 (Int32.toNatClampNeg v1) v2) (fun h6 =>
  gs (hR h6 11 v0 6) (fun a8 =>
  gd (hK h6 a8 = 27 ∧ inb v1 (hN h6 a8)) (gs (hR h6 27 a8 (Int32.toNatClampNeg v1)) (fun a12 =>
  gd (hK h6 a12 = 9) (bd (fX9_clear a12 h6) (fun z15 =>
  fX11_keepQuery_l21 v0 v2 (some a12) (0 : Int32) z15))))))))))
set_option maxRecDepth 100000 in
theorem mX11_keepQuery {v0 : Nat} {v1 : Int32} {v2 : Option Nat} {h : PH} {r : (Int32 × PH)} (hf : fX11_keepQuery v0 v1 v2 h = some r) : eqz h (hX r.2) (hV r.2) := by
  unfold fX11_keepQuery at hf
  have hle := eqz_rf h
  obtain ⟨hk1, hf⟩ := gd_some hf
  obtain ⟨a2, e3, hf⟩ := gs_some hf
  obtain ⟨⟨hk5, hb4⟩, hf⟩ := gd_some hf
  obtain ⟨hg7, hf⟩ := gd_some hf
  obtain ⟨h6, rfl, hf⟩ := lt_some hf
  obtain ⟨a8, e9, hf⟩ := gs_some hf
  obtain ⟨⟨hk11, hb10⟩, hf⟩ := gd_some hf
  obtain ⟨a12, e13, hf⟩ := gs_some hf
  obtain ⟨hk14, hf⟩ := gd_some hf
  obtain ⟨z15, hz15, hf⟩ := bd_some hf
  have hle := eqz_rt (mX9_clear hz15) hle
  exact eqz_rt (mX11_keepQuery_l21 hf) hle
set_option maxRecDepth 100000 in
theorem wX11_keepQuery {E : PE} {l : Launch} (hG : Gs E l) {v0 : Nat} {v1 : Int32} {v2 : Option Nat} {h : PH} {r : (Int32 × PH)} (hf : fX11_keepQuery v0 v1 v2 h = some r) : Ct E l 49 0 0 yX11_keepQuery cX11_keepQuery 5 (some .int) [.ref v0, .int v1, va_rf v2] h (fun v u => v = some (.int r.1) ∧ u = r.2) := by
  refine ct_of hG (by decide) (by simp [lg_sl, cat_rf, cat_r, cat_i, cat_l, cat_d, cat_f]) ?_
  intro p e s m args below meth c X hnm
  rw [show pargs 0 [.ref v0, .int v1, va_rf v2] = [(0, some (.ref v0)), (1, some (.int v1)), (2, some (va_rf v2))] from by simp [pargs, cat_rf, cat_r, cat_i, cat_l, cat_d, cat_f]]
  unfold fX11_keepQuery at hf
  refine p_aload_n X (dcg dc_X11_keepQuery 0 rfl) rfl rfl ?_
  obtain ⟨hk1, hf⟩ := gd_some hf
  refine p_getR X fl_X11_47 rfl (by decide) (dcg dc_X11_keepQuery 1 rfl) hk1 ?_
  refine p_iload_n X (dcg dc_X11_keepQuery 2 rfl) rfl rfl ?_
  refine p_aloadq_n X (dcg dc_X11_keepQuery 3 rfl) rfl rfl ?_
  obtain ⟨a2, e3, hf⟩ := gs_some hf
  first | subst e3 | (try rw [e3])
  obtain ⟨⟨hk5, hb4⟩, hf⟩ := gd_some hf
  obtain ⟨hg7, hf⟩ := gd_some hf
  refine p_aast25 X (dcg dc_X11_keepQuery 4 rfl) hk5 (vp_of_inb hb4) (okq_of hg7) ?_
  obtain ⟨h6, rfl, hf⟩ := lt_some hf
  refine p_aload_n X (dcg dc_X11_keepQuery 5 rfl) rfl rfl ?_
  refine p_getR X fl_X11_53 rfl (by decide) (dcg dc_X11_keepQuery 6 rfl) hk1 ?_
  refine p_iload_n X (dcg dc_X11_keepQuery 7 rfl) rfl rfl ?_
  obtain ⟨a8, e9, hf⟩ := gs_some hf
  first | subst e9 | (try rw [e9])
  obtain ⟨⟨hk11, hb10⟩, hf⟩ := gd_some hf
  refine p_aald27 X (dcg dc_X11_keepQuery 8 rfl) hk11 (vp_of_inb hb10) ?_
  refine p_astoreq_n X (dcg dc_X11_keepQuery 9 rfl) rfl (by decide) (nwq (k := 2) rfl) ?_
  refine p_aloadq_n X (dcg dc_X11_keepQuery 10 rfl) rfl rfl ?_
  obtain ⟨a12, e13, hf⟩ := gs_some hf
  first | subst e13 | (try rw [e13])
  obtain ⟨hk14, hf⟩ := gd_some hf
  obtain ⟨z15, hz15, hf⟩ := bd_some hf
  refine p_callV (As := []) X ml_X11_359 (dcg dc_X11_keepQuery 11 rfl) rfl rfl hk14 (wX9_clear hG hz15) (by decide) (room4 (Nat.le_of_ble_eq_true rfl)) (Nat.le_refl _) (Nat.le_refl _) ?_
  rintro _ u9 ⟨rfl, e9⟩; have e9 := e9.symm; subst e9
  refine p_iconst (v := 0) X (dcg dc_X11_keepQuery 12 rfl) (by decide) ?_
  refine p_istore X (dcg dc_X11_keepQuery 13 rfl) (by decide) rfl ?_
  refine p_pick [0, 2, 3, 4] ?_
  exact wX11_keepQuery_l21 X hG hnm hf 
theorem dc_X11_drop : decs cX11_drop [(0, .iload_n 1, 1), (1, .invokestatic 241, 3), (4, .aload_n 0, 1), (5, .getfield 47, 3), (8, .iload_n 1, 1), (9, .aaload, 1), (10, .ifnull 7, 3), (13, .iconst 1, 1), (14, .goto 4, 3), (17, .iconst 0, 1), (18, .istore_n 2, 1), (19, .aload_n 0, 1), (20, .getfield 47, 3), (23, .iload_n 1, 1), (24, .aconst_null, 1), (25, .aastore, 1), (26, .iload_n 2, 1), (27, .ireturn, 1)] = true := by decide +kernel
noncomputable def fX11_drop_b18 (v0 : Nat) (v1 : Int32) (t0 : Int32) (h : PH) : Option ((Int32 × PH) ⊕ (Nat × PH)) :=
  gd (hK h v0 = 11) (gs (hR h 11 v0 5) (fun a10 =>
  gd (hK h a10 = 25 ∧ inb v1 (hN h a10)) (gd (okq h 4 none = true) (lt (sR h 25 a10 (Int32.toNatClampNeg v1) none) (fun h14 =>
  gd (t0 &&& 1 = t0) (some (.inl ((t0, h14)))))))))
set_option maxRecDepth 100000 in
theorem mX11_drop_b18 {v0 : Nat} {v1 : Int32} {t0 : Int32} {h : PH} {r : ((Int32 × PH) ⊕ (Nat × PH))} (hf : fX11_drop_b18 v0 v1 t0 h = some r) : lez h (xT2 r) (vT2 r) := by
  unfold fX11_drop_b18 at hf
  have hle := lez_rf h
  obtain ⟨hk9, hf⟩ := gd_some hf
  obtain ⟨a10, e11, hf⟩ := gs_some hf
  obtain ⟨⟨hk13, hb12⟩, hf⟩ := gd_some hf
  obtain ⟨hg15, hf⟩ := gd_some hf
  obtain ⟨h14, rfl, hf⟩ := lt_some hf
  obtain ⟨hg16, hf⟩ := gd_some hf
  have ee := Option.some.inj hf; subst ee; exact hle
set_option maxRecDepth 100000 in
theorem wX11_drop_b18 {E : PE} {p : Program} {l : Launch} {e : Env} {s : State} {m : MethodId} {args : Array Value} {below : List Frame} {meth : Method} {c : Code} {X0 V0 MC MS uc us : Nat} (X : Cx E p l e (rmv 9 MC MS) s m args below meth c RX11 cX11_drop 3 (some .boolean)) (hG : Gs E l) (hex : ∀ x ∈ c.exceptionTable.toList, False) {v0 : Nat} {v1 : Int32} {t0 : Int32} {h : PH} {r : ((Int32 × PH) ⊕ (Nat × PH))} (hM : MC + X0 = (xT2 r)) (hN : MS + V0 = (vT2 r)) (hu : uc + X0 = hX h) (hv : us + V0 = hV h) (hf : fX11_drop_b18 v0 v1 t0 h = some r)  : PW E p l e (rmv 9 MC MS) s m args below meth c 3 uc us (vx_MQ below (QG E (fun v u => ∃ z, r = .inl z ∧ v = some (.int z.1) ∧ u = z.2)) (XG E (fun En u => ∃ (z : Nat × PH) (n : Nat), r = .inr z ∧ En = exn z.1 ∧ hX z.2 ≤ n ∧ u = hbump z.2 n)) args s MC MS (pA E)) h 18 [(0, some (.ref v0)), (1, some (.int v1))] [.int t0] := by
  have hm1 : lez h (xT2 r) (vT2 r) := mX11_drop_b18 hf
  have hcm : uc ≤ MC := (by have o0 := hm1.1; have o1 := hM; have o2 := hu; (try simp only [hX_sI, hX_sR, hX_sL, hX_sD, hX_sIa, hX_sRa, hV_sI, hV_sR, hV_sL, hV_sD, hV_sIa, hV_sRa, hX_new, hV_new] at o0 o1 o2 ⊢); omega)
  have hsm : us ≤ MS := (by have o0 := hm1.2; have o1 := hN; have o2 := hv; (try simp only [hX_sI, hX_sR, hX_sL, hX_sD, hX_sIa, hX_sRa, hV_sI, hV_sR, hV_sL, hV_sD, hV_sIa, hV_sRa, hX_new, hV_new] at o0 o1 o2 ⊢); omega)
  clear hm1
  unfold fX11_drop_b18 at hf
  refine p_istore_n X (dcg dc_X11_drop 10 rfl) rfl (by decide) rfl ?_
  refine p_aload_n X (dcg dc_X11_drop 11 rfl) rfl rfl ?_
  obtain ⟨hk9, hf⟩ := gd_some hf
  refine p_getR X fl_X11_47 rfl (by decide) (dcg dc_X11_drop 12 rfl) hk9 ?_
  refine p_iload_n X (dcg dc_X11_drop 13 rfl) rfl rfl ?_
  refine p_null X (dcg dc_X11_drop 14 rfl) ?_
  obtain ⟨a10, e11, hf⟩ := gs_some hf
  first | subst e11 | (try rw [e11])
  obtain ⟨⟨hk13, hb12⟩, hf⟩ := gd_some hf
  obtain ⟨hg15, hf⟩ := gd_some hf
  refine p_aast25 X (dcg dc_X11_drop 15 rfl) hk13 (vp_of_inb hb12) (okq_of hg15) ?_
  obtain ⟨h14, rfl, hf⟩ := lt_some hf
  refine p_iload_n X (dcg dc_X11_drop 16 rfl) rfl rfl ?_
  obtain ⟨hg16, hf⟩ := gd_some hf
  have er := Option.some.inj hf
  subst er
  refine p_vx ?_
  exact p_zret X rfl (congrArg Value.int hg16) (dcg dc_X11_drop 17 rfl) ⟨_, rfl, rfl, rfl⟩ hcm hsm
noncomputable def fX11_drop_b4 (v0 : Nat) (v1 : Int32) (h : PH) : Option ((Int32 × PH) ⊕ (Nat × PH)) :=
  gd (hK h v0 = 11) (gs (hR h 11 v0 5) (fun a4 =>
  gd (hK h a4 = 25 ∧ inb v1 (hN h a4)) (mq (hR h 25 a4 (Int32.toNatClampNeg v1)) (fX11_drop_b18 v0 v1 (0 : Int32) h) (fun a8 =>
  fX11_drop_b18 v0 v1 (1 : Int32) h))))
set_option maxRecDepth 100000 in
theorem mX11_drop_b4 {v0 : Nat} {v1 : Int32} {h : PH} {r : ((Int32 × PH) ⊕ (Nat × PH))} (hf : fX11_drop_b4 v0 v1 h = some r) : lez h (xT2 r) (vT2 r) := by
  unfold fX11_drop_b4 at hf
  have hle := lez_rf h
  obtain ⟨hk3, hf⟩ := gd_some hf
  obtain ⟨a4, e5, hf⟩ := gs_some hf
  obtain ⟨⟨hk7, hb6⟩, hf⟩ := gd_some hf
  rcases mq_or hf with ⟨q, hf⟩ | ⟨a8, q, hf⟩
  · have hf := mq_n q hf
    exact lez_rt (mX11_drop_b18 hf) hle
  · have hf := mq_s q hf
    first | subst q | skip
    exact lez_rt (mX11_drop_b18 hf) hle
set_option maxRecDepth 100000 in
theorem wX11_drop_b4 {E : PE} {p : Program} {l : Launch} {e : Env} {s : State} {m : MethodId} {args : Array Value} {below : List Frame} {meth : Method} {c : Code} {X0 V0 MC MS uc us : Nat} (X : Cx E p l e (rmv 9 MC MS) s m args below meth c RX11 cX11_drop 3 (some .boolean)) (hG : Gs E l) (hex : ∀ x ∈ c.exceptionTable.toList, False) {v0 : Nat} {v1 : Int32} {h : PH} {r : ((Int32 × PH) ⊕ (Nat × PH))} (hM : MC + X0 = (xT2 r)) (hN : MS + V0 = (vT2 r)) (hu : uc + X0 = hX h) (hv : us + V0 = hV h) (hf : fX11_drop_b4 v0 v1 h = some r)  : PW E p l e (rmv 9 MC MS) s m args below meth c 3 uc us (vx_MQ below (QG E (fun v u => ∃ z, r = .inl z ∧ v = some (.int z.1) ∧ u = z.2)) (XG E (fun En u => ∃ (z : Nat × PH) (n : Nat), r = .inr z ∧ En = exn z.1 ∧ hX z.2 ≤ n ∧ u = hbump z.2 n)) args s MC MS (pA E)) h 4 [(0, some (.ref v0)), (1, some (.int v1))] [] := by
  have hm1 : lez h (xT2 r) (vT2 r) := mX11_drop_b4 hf
  have hcm : uc ≤ MC := (by have o0 := hm1.1; have o1 := hM; have o2 := hu; (try simp only [hX_sI, hX_sR, hX_sL, hX_sD, hX_sIa, hX_sRa, hV_sI, hV_sR, hV_sL, hV_sD, hV_sIa, hV_sRa, hX_new, hV_new] at o0 o1 o2 ⊢); omega)
  have hsm : us ≤ MS := (by have o0 := hm1.2; have o1 := hN; have o2 := hv; (try simp only [hX_sI, hX_sR, hX_sL, hX_sD, hX_sIa, hX_sRa, hV_sI, hV_sR, hV_sL, hV_sD, hV_sIa, hV_sRa, hX_new, hV_new] at o0 o1 o2 ⊢); omega)
  clear hm1
  unfold fX11_drop_b4 at hf
  refine p_aload_n X (dcg dc_X11_drop 2 rfl) rfl rfl ?_
  obtain ⟨hk3, hf⟩ := gd_some hf
  refine p_getR X fl_X11_47 rfl (by decide) (dcg dc_X11_drop 3 rfl) hk3 ?_
  refine p_iload_n X (dcg dc_X11_drop 4 rfl) rfl rfl ?_
  obtain ⟨a4, e5, hf⟩ := gs_some hf
  first | subst e5 | (try rw [e5])
  obtain ⟨⟨hk7, hb6⟩, hf⟩ := gd_some hf
  refine p_aald25 X (dcg dc_X11_drop 5 rfl) hk7 (vp_of_inb hb6) ?_
  refine p_ifnull (tgt := 17) X (dcg dc_X11_drop 6 rfl) (by decide) (fun q => ?_) (fun a8 q => ?_)
  · have hf := mq_n q hf
    first | subst q | (try rw [q])
    refine p_iconst (v := 0) X (dcg dc_X11_drop 9 rfl) (by decide) ?_
    refine p_pick [0, 1] ?_
    exact wX11_drop_b18 X hG hex hM hN hu hv hf 
  · have hf := mq_s q hf
    first | subst q | (try rw [q])
    refine p_iconst (v := 1) X (dcg dc_X11_drop 7 rfl) (by decide) ?_
    refine p_goto (tgt := 18) X (dcg dc_X11_drop 8 rfl) (by decide) ?_
    refine p_pick [0, 1] ?_
    exact wX11_drop_b18 X hG hex hM hN hu hv hf 
noncomputable def fX11_drop_b0 (v0 : Nat) (v1 : Int32) (h : PH) : Option ((Int32 × PH) ⊕ (Nat × PH)) :=
  bx (fX11_demandKeptPlace v1 h) (fun z1 =>
  fX11_drop_b4 v0 v1 z1)
set_option maxRecDepth 100000 in
theorem mX11_drop_b0 {v0 : Nat} {v1 : Int32} {h : PH} {r : ((Int32 × PH) ⊕ (Nat × PH))} (hf : fX11_drop_b0 v0 v1 h = some r) : lez h (xT2 r) (vT2 r) := by
  unfold fX11_drop_b0 at hf
  have hle := lez_rf h
  obtain ⟨y2, hy2, h1y2, h2y2⟩ := bx_some hf
  have hc1 := mX11_demandKeptPlace hy2
  rcases y2 with z1 | z1
  · have hf := h1y2 z1 rfl
    have hle : lez h (hX z1) (hV z1) := lez_rt hc1 hle
    exact lez_rt (mX11_drop_b4 hf) hle
  · have hr9 := h2y2 z1 rfl
    subst hr9
    exact lez_rt hc1 hle
set_option maxRecDepth 100000 in
theorem wX11_drop_b0 {E : PE} {p : Program} {l : Launch} {e : Env} {s : State} {m : MethodId} {args : Array Value} {below : List Frame} {meth : Method} {c : Code} {X0 V0 MC MS uc us : Nat} (X : Cx E p l e (rmv 9 MC MS) s m args below meth c RX11 cX11_drop 3 (some .boolean)) (hG : Gs E l) (hex : ∀ x ∈ c.exceptionTable.toList, False) {v0 : Nat} {v1 : Int32} {h : PH} {r : ((Int32 × PH) ⊕ (Nat × PH))} (hM : MC + X0 = (xT2 r)) (hN : MS + V0 = (vT2 r)) (hu : uc + X0 = hX h) (hv : us + V0 = hV h) (hf : fX11_drop_b0 v0 v1 h = some r)  : PW E p l e (rmv 9 MC MS) s m args below meth c 3 uc us (vx_MQ below (QG E (fun v u => ∃ z, r = .inl z ∧ v = some (.int z.1) ∧ u = z.2)) (XG E (fun En u => ∃ (z : Nat × PH) (n : Nat), r = .inr z ∧ En = exn z.1 ∧ hX z.2 ≤ n ∧ u = hbump z.2 n)) args s MC MS (pA E)) h 0 [(0, some (.ref v0)), (1, some (.int v1))] [] := by
  have hm1 : lez h (xT2 r) (vT2 r) := mX11_drop_b0 hf
  have hcm : uc ≤ MC := (by have o0 := hm1.1; have o1 := hM; have o2 := hu; (try simp only [hX_sI, hX_sR, hX_sL, hX_sD, hX_sIa, hX_sRa, hV_sI, hV_sR, hV_sL, hV_sD, hV_sIa, hV_sRa, hX_new, hV_new] at o0 o1 o2 ⊢); omega)
  have hsm : us ≤ MS := (by have o0 := hm1.2; have o1 := hN; have o2 := hv; (try simp only [hX_sI, hX_sR, hX_sL, hX_sD, hX_sIa, hX_sRa, hV_sI, hV_sR, hV_sL, hV_sD, hV_sIa, hV_sRa, hX_new, hV_new] at o0 o1 o2 ⊢); omega)
  clear hm1
  unfold fX11_drop_b0 at hf
  refine p_iload_n X (dcg dc_X11_drop 0 rfl) rfl rfl ?_
  obtain ⟨y2, hy2, h1y2, h2y2⟩ := bx_some hf
  have hc1 := mX11_demandKeptPlace hy2
  rcases y2 with z1 | z1
  · have hf := h1y2 z1 rfl
    have hm1 : lez _ (xT2 r) (vT2 r) := mX11_drop_b4 hf
    refine p_callSX (As := [_]) X hex ml_X11_241 (dcg dc_X11_drop 1 rfl) rfl rfl  (wX11_demandKeptPlace hG hy2) (by decide) (room4 (Nat.le_of_ble_eq_true rfl)) (show uc + (hX z1 - hX h) ≤ MC from (by have o0 := hm1.1; have o1 := (show lez h (hX z1) (hV z1) from hc1).1; have o2 := hM; have o3 := hu; (try simp only [hX_sI, hX_sR, hX_sL, hX_sD, hX_sIa, hX_sRa, hV_sI, hV_sR, hV_sL, hV_sD, hV_sIa, hV_sRa, hX_new, hV_new] at o0 o1 o2 o3 ⊢); omega)) (show us + (hV z1 - hV h) ≤ MS from (by have o0 := hm1.2; have o1 := (show lez h (hX z1) (hV z1) from hc1).2; have o2 := hN; have o3 := hv; (try simp only [hX_sI, hX_sR, hX_sL, hX_sD, hX_sIa, hX_sRa, hV_sI, hV_sR, hV_sL, hV_sD, hV_sIa, hV_sRa, hX_new, hV_new] at o0 o1 o2 o3 ⊢); omega)) (show uc + (hX z1 - hX h) ≤ MC from (by have o0 := hm1.1; have o1 := (show lez h (hX z1) (hV z1) from hc1).1; have o2 := hM; have o3 := hu; (try simp only [hX_sI, hX_sR, hX_sL, hX_sD, hX_sIa, hX_sRa, hV_sI, hV_sR, hV_sL, hV_sD, hV_sIa, hV_sRa, hX_new, hV_new] at o0 o1 o2 o3 ⊢); omega)) (show us + (hV z1 - hV h) ≤ MS from (by have o0 := hm1.2; have o1 := (show lez h (hX z1) (hV z1) from hc1).2; have o2 := hN; have o3 := hv; (try simp only [hX_sI, hX_sR, hX_sL, hX_sD, hX_sIa, hX_sRa, hV_sI, hV_sR, hV_sL, hV_sD, hV_sIa, hV_sRa, hX_new, hV_new] at o0 o1 o2 o3 ⊢); omega)) (fun En u q => by obtain ⟨z9, n9, q9, _⟩ := q; cases q9) ?_
    rintro _ _ ⟨z9, hz9, rfl, rfl⟩
    cases hz9
    refine p_pick [0, 1] ?_
    exact wX11_drop_b4 X hG hex hM hN (show uc + (hX z1 - hX h) + X0 = hX z1 from (by have o0 := (show lez h (hX z1) (hV z1) from hc1).1; have o1 := hu; (try simp only [hX_sI, hX_sR, hX_sL, hX_sD, hX_sIa, hX_sRa, hV_sI, hV_sR, hV_sL, hV_sD, hV_sIa, hV_sRa, hX_new, hV_new] at o0 o1 ⊢); omega)) (show us + (hV z1 - hV h) + V0 = hV z1 from (by have o0 := (show lez h (hX z1) (hV z1) from hc1).2; have o1 := hv; (try simp only [hX_sI, hX_sR, hX_sL, hX_sD, hX_sIa, hX_sRa, hV_sI, hV_sR, hV_sL, hV_sD, hV_sIa, hV_sRa, hX_new, hV_new] at o0 o1 ⊢); omega)) hf 
  · have hr9 := h2y2 z1 rfl
    subst hr9
    refine p_callSX (As := [_]) X hex ml_X11_241 (dcg dc_X11_drop 1 rfl) rfl rfl  (wX11_demandKeptPlace hG hy2) (by decide) (room4 (Nat.le_of_ble_eq_true rfl)) (show uc + (hX z1.2 + 1 - hX h) ≤ MC from (by have o0 := (show lez h (hX z1.2 + 1) (hV z1.2 + 6) from hc1).1; have o1 := (show MC + X0 = hX z1.2 + 1 from hM); have o2 := hu; (try simp only [hX_sI, hX_sR, hX_sL, hX_sD, hX_sIa, hX_sRa, hV_sI, hV_sR, hV_sL, hV_sD, hV_sIa, hV_sRa, hX_new, hV_new] at o0 o1 o2 ⊢); omega)) (show us + (hV z1.2 + 6 - hV h) ≤ MS from (by have o0 := (show lez h (hX z1.2 + 1) (hV z1.2 + 6) from hc1).2; have o1 := (show MS + V0 = hV z1.2 + 6 from hN); have o2 := hv; (try simp only [hX_sI, hX_sR, hX_sL, hX_sD, hX_sIa, hX_sRa, hV_sI, hV_sR, hV_sL, hV_sD, hV_sIa, hV_sRa, hX_new, hV_new] at o0 o1 o2 ⊢); omega)) (show uc + (hX z1.2 + 1 - hX h) ≤ MC from (by have o0 := (show lez h (hX z1.2 + 1) (hV z1.2 + 6) from hc1).1; have o1 := (show MC + X0 = hX z1.2 + 1 from hM); have o2 := hu; (try simp only [hX_sI, hX_sR, hX_sL, hX_sD, hX_sIa, hX_sRa, hV_sI, hV_sR, hV_sL, hV_sD, hV_sIa, hV_sRa, hX_new, hV_new] at o0 o1 o2 ⊢); omega)) (show us + (hV z1.2 + 6 - hV h) ≤ MS from (by have o0 := (show lez h (hX z1.2 + 1) (hV z1.2 + 6) from hc1).2; have o1 := (show MS + V0 = hV z1.2 + 6 from hN); have o2 := hv; (try simp only [hX_sI, hX_sR, hX_sL, hX_sD, hX_sIa, hX_sRa, hV_sI, hV_sR, hV_sL, hV_sD, hV_sIa, hV_sRa, hX_new, hV_new] at o0 o1 o2 ⊢); omega)) (fun En u q => by obtain ⟨z9, n9, q9, q8⟩ := q; cases q9; exact ⟨_, n9, rfl, q8⟩) ?_
    rintro _ _ ⟨z9, hz9, _⟩
    cases hz9
noncomputable def fX11_drop (v0 : Nat) (v1 : Int32) (h : PH) : Option ((Int32 × PH) ⊕ (Nat × PH)) :=
  fX11_drop_b0 v0 v1 h
set_option maxRecDepth 100000 in
theorem mX11_drop {v0 : Nat} {v1 : Int32} {h : PH} {r : ((Int32 × PH) ⊕ (Nat × PH))} (hf : fX11_drop v0 v1 h = some r) : lez h (xT2 r) (vT2 r) := by
  unfold fX11_drop at hf
  have hle := lez_rf h
  exact lez_rt (mX11_drop_b0 hf) hle
set_option maxRecDepth 100000 in
theorem wX11_drop {E : PE} {l : Launch} (hG : Gs E l) {v0 : Nat} {v1 : Int32} {h : PH} {r : ((Int32 × PH) ⊕ (Nat × PH))} (hf : fX11_drop v0 v1 h = some r) : CtX E l 9 ((xT2 r) - hX h) ((vT2 r) - hV h) yX11_drop cX11_drop 3 (some .boolean) [.ref v0, .int v1] h (fun v u => ∃ z, r = .inl z ∧ v = some (.int z.1) ∧ u = z.2) (fun En u => ∃ (z : Nat × PH) (n : Nat), r = .inr z ∧ En = exn z.1 ∧ hX z.2 ≤ n ∧ u = hbump z.2 n) := by
  have hmm := mX11_drop hf
  refine ctx_of hG (by decide) (Nat.le_of_ble_eq_true rfl) ?_
  intro p e s m args below meth c X hex
  show PW E p l e _ s m args below meth c _ 0 0 _ h 0 [(0, some (.ref v0)), (1, some (.int v1))] []
  unfold fX11_drop at hf
  have hM := Nat.sub_add_cancel hmm.1
  have hN := Nat.sub_add_cancel hmm.2
  refine p_pick [0, 1] ?_
  exact wX11_drop_b0 X hG hex hM hN (Nat.zero_add _) (Nat.zero_add _) hf
theorem dc_X11_countFound : decs cX11_countFound [(0, .iconst 0, 1), (1, .istore_n 2, 1), (2, .iconst 0, 1), (3, .istore_n 3, 1), (4, .iload_n 3, 1), (5, .bipush 100, 2), (7, .if_icmp .ge 21, 3), (10, .aload_n 0, 1), (11, .aload_n 1, 1), (12, .iload_n 3, 1), (13, .invokevirtual 343, 3), (16, .ifCond .eq 6, 3), (19, .iinc 2 1, 3), (22, .iinc 3 1, 3), (25, .goto (-21), 3), (28, .iload_n 2, 1), (29, .ireturn, 1)] = true := by decide +kernel
noncomputable def fX11_countFound_b22 (v0 : Nat) (v1 : Option Nat) (v2 : Int32) (v3 : Int32) (h : PH) : Option ((Int32 × Int32) ⊕ Int32) :=
  some (.inl (v2, (v3 + 1)))
set_option maxRecDepth 100000 in
theorem wX11_countFound_b22 {E : PE} {p : Program} {l : Launch} {e : Env} {s : State} {m : MethodId} {args : Array Value} {below : List Frame} {meth : Method} {c : Code} (X : Cx E p l e (rmv 49 0 0) s m args below meth c RX11 cX11_countFound 4 (some .int)) (hG : Gs E l) (hnm : meth.name = yX11_countFound.name) {v0 : Nat} {v1 : Option Nat} {v2 : Int32} {v3 : Int32} {h : PH} {r : Int32} {x : ((Int32 × Int32) ⊕ Int32)} (hf : fX11_countFound_b22 v0 v1 v2 v3 h = some x) (k0 : ∀ z : (Int32 × Int32), x = .inl z → PW E p l e (rmv 49 0 0) s m args below meth c 4 0 0 (MQ below (QG E (fun v u => v = some (.int r) ∧ u = h)) args s 0 0 (pA E)) h 4 [(0, some (.ref v0)), (1, some (va_rf v1)), (2, some (.int (z.1))), (3, some (.int (z.2)))] []) (kf : ∀ z : Int32, x = .inr z → z = r) : PW E p l e (rmv 49 0 0) s m args below meth c 4 0 0 (MQ below (QG E (fun v u => v = some (.int r) ∧ u = h)) args s 0 0 (pA E)) h 22 [(0, some (.ref v0)), (1, some (va_rf v1)), (2, some (.int v2)), (3, some (.int v3))] [] := by
  unfold fX11_countFound_b22 at hf
  refine p_iinc (v := 1) X (dcg dc_X11_countFound 13 rfl) rfl (by decide) (by decide) rfl ?_
  refine p_goto (tgt := 4) X (dcg dc_X11_countFound 14 rfl) (by decide) ?_
  refine p_pick [0, 1, 2, 3] ?_
  exact k0 _ (Option.some.inj hf).symm
noncomputable def fX11_countFound_c4 (v0 : Nat) (v1 : Option Nat) (v2 : Int32) (v3 : Int32) (h : PH) : Option ((Int32 × Int32) ⊕ Int32) :=
  if ((100 : Int32) ≤ v3) then (mr (some (v2))) else
  gd (hK h v0 = 11) (bd (fX11_isSatisfied v0 v1 v3 h) (fun z4 =>
  if (z4 = 0) then (fX11_countFound_b22 v0 v1 v2 v3 h) else
  fX11_countFound_b22 v0 v1 (v2 + 1) v3 h))
set_option maxRecDepth 100000 in
theorem wX11_countFound_c4 {E : PE} {p : Program} {l : Launch} {e : Env} {s : State} {m : MethodId} {args : Array Value} {below : List Frame} {meth : Method} {c : Code} (X : Cx E p l e (rmv 49 0 0) s m args below meth c RX11 cX11_countFound 4 (some .int)) (hG : Gs E l) (hnm : meth.name = yX11_countFound.name) {v0 : Nat} {v1 : Option Nat} {v2 : Int32} {v3 : Int32} {h : PH} {r : Int32} {x : ((Int32 × Int32) ⊕ Int32)} (hf : fX11_countFound_c4 v0 v1 v2 v3 h = some x) (k0 : ∀ z : (Int32 × Int32), x = .inl z → PW E p l e (rmv 49 0 0) s m args below meth c 4 0 0 (MQ below (QG E (fun v u => v = some (.int r) ∧ u = h)) args s 0 0 (pA E)) h 4 [(0, some (.ref v0)), (1, some (va_rf v1)), (2, some (.int (z.1))), (3, some (.int (z.2)))] []) (kf : ∀ z : Int32, x = .inr z → z = r) : PW E p l e (rmv 49 0 0) s m args below meth c 4 0 0 (MQ below (QG E (fun v u => v = some (.int r) ∧ u = h)) args s 0 0 (pA E)) h 4 [(0, some (.ref v0)), (1, some (va_rf v1)), (2, some (.int v2)), (3, some (.int v3))] [] := by
  unfold fX11_countFound_c4 at hf
  refine p_iload_n X (dcg dc_X11_countFound 4 rfl) rfl rfl ?_
  refine p_bipush (v := 100) X (dcg dc_X11_countFound 5 rfl) (by decide) ?_
  refine p_icmp_ge (tgt := 28) X (dcg dc_X11_countFound 6 rfl) (by decide) (fun q => ?_) (fun q => ?_)
  · have hf := if_t q hf
    obtain ⟨y1, hf, hy2⟩ := mr_some hf
    have hy2f := kf y1 hy2
    subst hy2f
    refine p_iload_n X (dcg dc_X11_countFound 15 rfl) rfl rfl ?_
    have er := Option.some.inj hf
    subst er
    exact p_iret X rfl (dcg dc_X11_countFound 16 rfl) ⟨rfl, rfl⟩ (Nat.le_refl _) (Nat.le_refl _)
  · have hf := if_f q hf
    refine p_aload_n X (dcg dc_X11_countFound 7 rfl) rfl rfl ?_
    refine p_aloadq_n X (dcg dc_X11_countFound 8 rfl) rfl rfl ?_
    refine p_iload_n X (dcg dc_X11_countFound 9 rfl) rfl rfl ?_
    obtain ⟨hk3, hf⟩ := gd_some hf
    obtain ⟨z4, hz4, hf⟩ := bd_some hf
    refine p_callV (As := [va_rf _, _]) X ml_X11_343 (dcg dc_X11_countFound 10 rfl) rfl rfl hk3 (wX11_isSatisfied hG hz4) (by decide) (room4 (Nat.le_of_ble_eq_true rfl)) (Nat.le_refl _) (Nat.le_refl _) ?_
    rintro _ u9 ⟨rfl, e9⟩; have e9 := e9.symm; subst e9
    refine p_if_eq (tgt := 22) X (dcg dc_X11_countFound 11 rfl) (by decide) (fun q => ?_) (fun q => ?_)
    · have hf := if_t q hf
      refine p_pick [0, 1, 2, 3] ?_
      exact wX11_countFound_b22 X hG hnm hf k0 kf
    · have hf := if_f q hf
      refine p_iinc (v := 1) X (dcg dc_X11_countFound 12 rfl) rfl (by decide) (by decide) (nwq (k := 1) rfl) ?_
      refine p_pick [0, 1, 2, 3] ?_
      exact wX11_countFound_b22 X hG hnm hf k0 kf
noncomputable def fX11_countFound_l4 (v0 : Nat) (v1 : Option Nat) (v2 : Int32) (v3 : Int32) (h : PH) : Option Int32 := wh (fun z : (Int32 × Int32) => fX11_countFound_c4 v0 v1 (z.1) (z.2) h) (v2, v3)
set_option maxRecDepth 100000 in
theorem wX11_countFound_l4 {E : PE} {p : Program} {l : Launch} {e : Env} {s : State} {m : MethodId} {args : Array Value} {below : List Frame} {meth : Method} {c : Code} (X : Cx E p l e (rmv 49 0 0) s m args below meth c RX11 cX11_countFound 4 (some .int)) (hG : Gs E l) (hnm : meth.name = yX11_countFound.name) {v0 : Nat} {v1 : Option Nat} {v2 : Int32} {v3 : Int32} {h : PH} {r : Int32} (hf : fX11_countFound_l4 v0 v1 v2 v3 h = some r)  : PW E p l e (rmv 49 0 0) s m args below meth c 4 0 0 (MQ below (QG E (fun v u => v = some (.int r) ∧ u = h)) args s 0 0 (pA E)) h 4 [(0, some (.ref v0)), (1, some (va_rf v1)), (2, some (.int v2)), (3, some (.int v3))] [] := by
  unfold fX11_countFound_l4 at hf
  refine wh_ind (P := fun z => PW E p l e (rmv 49 0 0) s m args below meth c 4 0 0 (MQ below (QG E (fun v u => v = some (.int r) ∧ u = h)) args s 0 0 (pA E)) h 4 [(0, some (.ref v0)), (1, some (va_rf v1)), (2, some (.int (z.1))), (3, some (.int (z.2)))] []) (fun z x0 hs i1 i2 => ?_) _ hf
  exact wX11_countFound_c4 (r := r) (v0 := v0) (v1 := v1) (v2 := z.1) (v3 := z.2) (h := h) X hG hnm hs i1  i2
noncomputable def fX11_countFound (v0 : Nat) (v1 : Option Nat) (h : PH) : Option Int32 :=
  fX11_countFound_l4 v0 v1 (0 : Int32) (0 : Int32) h
set_option maxRecDepth 100000 in
theorem wX11_countFound {E : PE} {l : Launch} (hG : Gs E l) {v0 : Nat} {v1 : Option Nat} {h : PH} {r : Int32} (hf : fX11_countFound v0 v1 h = some r) : Ct E l 49 0 0 yX11_countFound cX11_countFound 4 (some .int) [.ref v0, va_rf v1] h (fun v u => v = some (.int r) ∧ u = h) := by
  refine ct_of hG (by decide) (by simp [lg_sl, cat_rf, cat_r, cat_i, cat_l, cat_d, cat_f]) ?_
  intro p e s m args below meth c X hnm
  rw [show pargs 0 [.ref v0, va_rf v1] = [(0, some (.ref v0)), (1, some (va_rf v1))] from by simp [pargs, cat_rf, cat_r, cat_i, cat_l, cat_d, cat_f]]
  unfold fX11_countFound at hf
  refine p_iconst (v := 0) X (dcg dc_X11_countFound 0 rfl) (by decide) ?_
  refine p_istore_n X (dcg dc_X11_countFound 1 rfl) rfl (by decide) (nwq (k := 1) rfl) ?_
  refine p_iconst (v := 0) X (dcg dc_X11_countFound 2 rfl) (by decide) ?_
  refine p_istore_n X (dcg dc_X11_countFound 3 rfl) rfl (by decide) rfl ?_
  refine p_pick [0, 1, 2, 3] ?_
  exact wX11_countFound_l4 X hG hnm hf 
theorem dc_X11_events : decs cX11_events [(0, .aload_n 0, 1), (1, .getfield 61, 3), (4, .getfield 292, 3), (7, .ireturn, 1)] = true := by decide +kernel
noncomputable def fX11_events (v0 : Nat) (h : PH) : Option Int32 :=
  gd (hK h v0 = 11) (gs (hR h 11 v0 7) (fun a2 =>
  gd (hK h a2 = 1) (some ((hI h 1 a2 4)))))
set_option maxRecDepth 100000 in
theorem wX11_events {E : PE} {l : Launch} (hG : Gs E l) {v0 : Nat} {h : PH} {r : Int32} (hf : fX11_events v0 h = some r) : Ct E l 0 0 0 yX11_events cX11_events 1 (some .int) [.ref v0] h (fun v u => v = some (.int r) ∧ u = h) := by
  refine ct_of hG (by decide) (Nat.le_of_ble_eq_true rfl) ?_
  intro p e s m args below meth c X hnm
  show PW E p l e _ s m args below meth c _ 0 0 _ h 0 [(0, some (.ref v0))] []
  unfold fX11_events at hf
  refine p_aload_n X (dcg dc_X11_events 0 rfl) rfl rfl ?_
  obtain ⟨hk1, hf⟩ := gd_some hf
  refine p_getR X fl_X11_61 rfl (by decide) (dcg dc_X11_events 1 rfl) hk1 ?_
  obtain ⟨a2, e3, hf⟩ := gs_some hf
  first | subst e3 | (try rw [e3])
  obtain ⟨hk4, hf⟩ := gd_some hf
  refine p_getIn X fl_X11_292 rfl (by decide) (dcg dc_X11_events 2 rfl) hk4 ?_
  have er := Option.some.inj hf
  subst er
  exact p_iret X rfl (dcg dc_X11_events 3 rfl) ⟨rfl, rfl⟩ (Nat.le_refl _) (Nat.le_refl _)
theorem dc_X11_eventOf : decs cX11_eventOf [(0, .iload_n 1, 1), (1, .ifCond .lt 14, 3), (4, .iload_n 1, 1), (5, .aload_n 0, 1), (6, .getfield 61, 3), (9, .getfield 292, 3), (12, .if_icmp .lt 11, 3), (15, .new 125, 3), (18, .dup, 1), (19, .invokespecial 127, 3), (22, .athrow, 1), (23, .iload_n 2, 1), (24, .ifCond .lt 8, 3), (27, .iload_n 2, 1), (28, .iconst 2, 1), (29, .if_icmp .le 11, 3), (32, .new 112, 3), (35, .dup, 1), (36, .invokespecial 114, 3), (39, .athrow, 1), (40, .aload_n 0, 1), (41, .getfield 61, 3), (44, .iload_n 1, 1), (45, .iload_n 2, 1), (46, .invokevirtual 293, 3), (49, .ireturn, 1)] = true := by decide +kernel
noncomputable def fX11_eventOf_b15  (h : PH) : Option ((Int32 × PH) ⊕ (Nat × PH)) :=
  some (.inr (2, h))
set_option maxRecDepth 100000 in
theorem mX11_eventOf_b15  {h : PH} {r : ((Int32 × PH) ⊕ (Nat × PH))} (hf : fX11_eventOf_b15  h = some r) : lez h (xT2 r) (vT2 r) := by
  unfold fX11_eventOf_b15 at hf
  have hle := lez_rf h
  cases hf; exact lez_up hle
set_option maxRecDepth 100000 in
theorem wX11_eventOf_b15 {E : PE} {p : Program} {l : Launch} {e : Env} {s : State} {m : MethodId} {args : Array Value} {below : List Frame} {meth : Method} {c : Code} {X0 V0 MC MS uc us : Nat} (X : Cx E p l e (rmv 8 MC MS) s m args below meth c RX11 cX11_eventOf 3 (some .int)) (hG : Gs E l) (hex : ∀ x ∈ c.exceptionTable.toList, False)  {h : PH} {r : ((Int32 × PH) ⊕ (Nat × PH))} (hM : MC + X0 = (xT2 r)) (hN : MS + V0 = (vT2 r)) (hu : uc + X0 = hX h) (hv : us + V0 = hV h) (hf : fX11_eventOf_b15  h = some r)  : PW E p l e (rmv 8 MC MS) s m args below meth c 3 uc us (vx_MQ below (QG E (fun v u => ∃ z, r = .inl z ∧ v = some (.int z.1) ∧ u = z.2)) (XG E (fun En u => ∃ (z : Nat × PH) (n : Nat), r = .inr z ∧ En = exn z.1 ∧ hX z.2 ≤ n ∧ u = hbump z.2 n)) args s MC MS (pA E)) h 15 [] [] := by
  have hm1 : lez h (xT2 r) (vT2 r) := mX11_eventOf_b15 hf
  have hcm : uc ≤ MC := (by have o0 := hm1.1; have o1 := hM; have o2 := hu; (try simp only [hX_sI, hX_sR, hX_sL, hX_sD, hX_sIa, hX_sRa, hV_sI, hV_sR, hV_sL, hV_sD, hV_sIa, hV_sRa, hX_new, hV_new] at o0 o1 o2 ⊢); omega)
  have hsm : us ≤ MS := (by have o0 := hm1.2; have o1 := hN; have o2 := hv; (try simp only [hX_sI, hX_sR, hX_sL, hX_sD, hX_sIa, hX_sRa, hV_sI, hV_sR, hV_sL, hV_sD, hV_sIa, hV_sRa, hX_new, hV_new] at o0 o1 o2 ⊢); omega)
  clear hm1
  unfold fX11_eventOf_b15 at hf
  have er := Option.some.inj hf
  subst er
  exact p_throw0 (cls := "java/lang/IndexOutOfBoundsException") (names := ["java/lang/RuntimeException", "java/lang/Exception"]) X hex (by decide) (by decide) tw_1205 tw_127 th_X11_127a th_X11_127b th_X11_127c th_X11_127d (dcg dc_X11_eventOf 7 rfl) (dcg dc_X11_eventOf 8 rfl) (dcg dc_X11_eventOf 9 rfl) (dcg dc_X11_eventOf 10 rfl) (Nat.le_of_ble_eq_true rfl) (Nat.le_trans (Nat.add_le_add_right (room4 (Nat.le_of_ble_eq_true rfl)) _) (Nat.le_of_ble_eq_true rfl)) (show uc + 1 ≤ MC from (by have o0 := (show MC + X0 = hX h + 1 from hM); have o1 := hu; (try simp only [hX_sI, hX_sR, hX_sL, hX_sD, hX_sIa, hX_sRa, hV_sI, hV_sR, hV_sL, hV_sD, hV_sIa, hV_sRa, hX_new, hV_new] at o0 o1 ⊢); omega)) (show us + 6 ≤ MS from (by have o0 := (show MS + V0 = hV h + 6 from hN); have o1 := hv; (try simp only [hX_sI, hX_sR, hX_sL, hX_sD, hX_sIa, hX_sRa, hV_sI, hV_sR, hV_sL, hV_sD, hV_sIa, hV_sRa, hX_new, hV_new] at o0 o1 ⊢); omega)) (show uc + 1 ≤ MC from (by have o0 := (show MC + X0 = hX h + 1 from hM); have o1 := hu; (try simp only [hX_sI, hX_sR, hX_sL, hX_sD, hX_sIa, hX_sRa, hV_sI, hV_sR, hV_sL, hV_sD, hV_sIa, hV_sRa, hX_new, hV_new] at o0 o1 ⊢); omega)) (show us + 6 ≤ MS from (by have o0 := (show MS + V0 = hV h + 6 from hN); have o1 := hv; (try simp only [hX_sI, hX_sR, hX_sL, hX_sD, hX_sIa, hX_sRa, hV_sI, hV_sR, hV_sL, hV_sD, hV_sIa, hV_sRa, hX_new, hV_new] at o0 o1 ⊢); omega)) (fun n hn => ⟨_, n, rfl, rfl, hn, rfl⟩)
noncomputable def fX11_eventOf_b32  (h : PH) : Option ((Int32 × PH) ⊕ (Nat × PH)) :=
  some (.inr (1, h))
set_option maxRecDepth 100000 in
theorem mX11_eventOf_b32  {h : PH} {r : ((Int32 × PH) ⊕ (Nat × PH))} (hf : fX11_eventOf_b32  h = some r) : lez h (xT2 r) (vT2 r) := by
  unfold fX11_eventOf_b32 at hf
  have hle := lez_rf h
  cases hf; exact lez_up hle
set_option maxRecDepth 100000 in
theorem wX11_eventOf_b32 {E : PE} {p : Program} {l : Launch} {e : Env} {s : State} {m : MethodId} {args : Array Value} {below : List Frame} {meth : Method} {c : Code} {X0 V0 MC MS uc us : Nat} (X : Cx E p l e (rmv 8 MC MS) s m args below meth c RX11 cX11_eventOf 3 (some .int)) (hG : Gs E l) (hex : ∀ x ∈ c.exceptionTable.toList, False)  {h : PH} {r : ((Int32 × PH) ⊕ (Nat × PH))} (hM : MC + X0 = (xT2 r)) (hN : MS + V0 = (vT2 r)) (hu : uc + X0 = hX h) (hv : us + V0 = hV h) (hf : fX11_eventOf_b32  h = some r)  : PW E p l e (rmv 8 MC MS) s m args below meth c 3 uc us (vx_MQ below (QG E (fun v u => ∃ z, r = .inl z ∧ v = some (.int z.1) ∧ u = z.2)) (XG E (fun En u => ∃ (z : Nat × PH) (n : Nat), r = .inr z ∧ En = exn z.1 ∧ hX z.2 ≤ n ∧ u = hbump z.2 n)) args s MC MS (pA E)) h 32 [] [] := by
  have hm1 : lez h (xT2 r) (vT2 r) := mX11_eventOf_b32 hf
  have hcm : uc ≤ MC := (by have o0 := hm1.1; have o1 := hM; have o2 := hu; (try simp only [hX_sI, hX_sR, hX_sL, hX_sD, hX_sIa, hX_sRa, hV_sI, hV_sR, hV_sL, hV_sD, hV_sIa, hV_sRa, hX_new, hV_new] at o0 o1 o2 ⊢); omega)
  have hsm : us ≤ MS := (by have o0 := hm1.2; have o1 := hN; have o2 := hv; (try simp only [hX_sI, hX_sR, hX_sL, hX_sD, hX_sIa, hX_sRa, hV_sI, hV_sR, hV_sL, hV_sD, hV_sIa, hV_sRa, hX_new, hV_new] at o0 o1 o2 ⊢); omega)
  clear hm1
  unfold fX11_eventOf_b32 at hf
  have er := Option.some.inj hf
  subst er
  exact p_throw0 (cls := "java/lang/IllegalArgumentException") (names := ["java/lang/RuntimeException", "java/lang/Exception"]) X hex (by decide) (by decide) tw_1180 tw_122 th_X11_114a th_X11_114b th_X11_114c th_X11_114d (dcg dc_X11_eventOf 16 rfl) (dcg dc_X11_eventOf 17 rfl) (dcg dc_X11_eventOf 18 rfl) (dcg dc_X11_eventOf 19 rfl) (Nat.le_of_ble_eq_true rfl) (Nat.le_trans (Nat.add_le_add_right (room4 (Nat.le_of_ble_eq_true rfl)) _) (Nat.le_of_ble_eq_true rfl)) (show uc + 1 ≤ MC from (by have o0 := (show MC + X0 = hX h + 1 from hM); have o1 := hu; (try simp only [hX_sI, hX_sR, hX_sL, hX_sD, hX_sIa, hX_sRa, hV_sI, hV_sR, hV_sL, hV_sD, hV_sIa, hV_sRa, hX_new, hV_new] at o0 o1 ⊢); omega)) (show us + 6 ≤ MS from (by have o0 := (show MS + V0 = hV h + 6 from hN); have o1 := hv; (try simp only [hX_sI, hX_sR, hX_sL, hX_sD, hX_sIa, hX_sRa, hV_sI, hV_sR, hV_sL, hV_sD, hV_sIa, hV_sRa, hX_new, hV_new] at o0 o1 ⊢); omega)) (show uc + 1 ≤ MC from (by have o0 := (show MC + X0 = hX h + 1 from hM); have o1 := hu; (try simp only [hX_sI, hX_sR, hX_sL, hX_sD, hX_sIa, hX_sRa, hV_sI, hV_sR, hV_sL, hV_sD, hV_sIa, hV_sRa, hX_new, hV_new] at o0 o1 ⊢); omega)) (show us + 6 ≤ MS from (by have o0 := (show MS + V0 = hV h + 6 from hN); have o1 := hv; (try simp only [hX_sI, hX_sR, hX_sL, hX_sD, hX_sIa, hX_sRa, hV_sI, hV_sR, hV_sL, hV_sD, hV_sIa, hV_sRa, hX_new, hV_new] at o0 o1 ⊢); omega)) (fun n hn => ⟨_, n, rfl, rfl, hn, rfl⟩)
noncomputable def fX11_eventOf_b0 (v0 : Nat) (v1 : Int32) (v2 : Int32) (h : PH) : Option ((Int32 × PH) ⊕ (Nat × PH)) :=
  if (v1 < 0) then (fX11_eventOf_b15  h) else
  gd (hK h v0 = 11) (gs (hR h 11 v0 7) (fun a2 =>
  gd (hK h a2 = 1) (if (v1 < (hI h 1 a2 4)) then (if (v2 < 0) then (fX11_eventOf_b32  h) else
  if (v2 ≤ (2 : Int32)) then (gs (hR h 11 v0 7) (fun a5 =>
  gd (hK h a5 = 1) (bd (fX1_figure a5 v1 v2 h) (fun z8 =>
  some (.inl ((z8, h))))))) else
  fX11_eventOf_b32  h) else
  fX11_eventOf_b15  h)))
set_option maxRecDepth 100000 in
theorem mX11_eventOf_b0 {v0 : Nat} {v1 : Int32} {v2 : Int32} {h : PH} {r : ((Int32 × PH) ⊕ (Nat × PH))} (hf : fX11_eventOf_b0 v0 v1 v2 h = some r) : lez h (xT2 r) (vT2 r) := by
  unfold fX11_eventOf_b0 at hf
  have hle := lez_rf h
  rcases ite_or hf with ⟨q, hf⟩ | ⟨q, hf⟩
  · have hf := if_t q hf
    exact lez_rt (mX11_eventOf_b15 hf) hle
  · have hf := if_f q hf
    obtain ⟨hk1, hf⟩ := gd_some hf
    obtain ⟨a2, e3, hf⟩ := gs_some hf
    obtain ⟨hk4, hf⟩ := gd_some hf
    rcases ite_or hf with ⟨q, hf⟩ | ⟨q, hf⟩
    · have hf := if_t q hf
      rcases ite_or hf with ⟨q, hf⟩ | ⟨q, hf⟩
      · have hf := if_t q hf
        exact lez_rt (mX11_eventOf_b32 hf) hle
      · have hf := if_f q hf
        rcases ite_or hf with ⟨q, hf⟩ | ⟨q, hf⟩
        · have hf := if_t q hf
          obtain ⟨a5, e6, hf⟩ := gs_some hf
          obtain ⟨hk7, hf⟩ := gd_some hf
          obtain ⟨z8, hz8, hf⟩ := bd_some hf
          have ee := Option.some.inj hf; subst ee; exact hle
        · have hf := if_f q hf
          exact lez_rt (mX11_eventOf_b32 hf) hle
    · have hf := if_f q hf
      exact lez_rt (mX11_eventOf_b15 hf) hle
set_option maxRecDepth 100000 in
theorem wX11_eventOf_b0 {E : PE} {p : Program} {l : Launch} {e : Env} {s : State} {m : MethodId} {args : Array Value} {below : List Frame} {meth : Method} {c : Code} {X0 V0 MC MS uc us : Nat} (X : Cx E p l e (rmv 8 MC MS) s m args below meth c RX11 cX11_eventOf 3 (some .int)) (hG : Gs E l) (hex : ∀ x ∈ c.exceptionTable.toList, False) {v0 : Nat} {v1 : Int32} {v2 : Int32} {h : PH} {r : ((Int32 × PH) ⊕ (Nat × PH))} (hM : MC + X0 = (xT2 r)) (hN : MS + V0 = (vT2 r)) (hu : uc + X0 = hX h) (hv : us + V0 = hV h) (hf : fX11_eventOf_b0 v0 v1 v2 h = some r)  : PW E p l e (rmv 8 MC MS) s m args below meth c 3 uc us (vx_MQ below (QG E (fun v u => ∃ z, r = .inl z ∧ v = some (.int z.1) ∧ u = z.2)) (XG E (fun En u => ∃ (z : Nat × PH) (n : Nat), r = .inr z ∧ En = exn z.1 ∧ hX z.2 ≤ n ∧ u = hbump z.2 n)) args s MC MS (pA E)) h 0 [(0, some (.ref v0)), (1, some (.int v1)), (2, some (.int v2))] [] := by
  have hm1 : lez h (xT2 r) (vT2 r) := mX11_eventOf_b0 hf
  have hcm : uc ≤ MC := (by have o0 := hm1.1; have o1 := hM; have o2 := hu; (try simp only [hX_sI, hX_sR, hX_sL, hX_sD, hX_sIa, hX_sRa, hV_sI, hV_sR, hV_sL, hV_sD, hV_sIa, hV_sRa, hX_new, hV_new] at o0 o1 o2 ⊢); omega)
  have hsm : us ≤ MS := (by have o0 := hm1.2; have o1 := hN; have o2 := hv; (try simp only [hX_sI, hX_sR, hX_sL, hX_sD, hX_sIa, hX_sRa, hV_sI, hV_sR, hV_sL, hV_sD, hV_sIa, hV_sRa, hX_new, hV_new] at o0 o1 o2 ⊢); omega)
  clear hm1
  unfold fX11_eventOf_b0 at hf
  refine p_iload_n X (dcg dc_X11_eventOf 0 rfl) rfl rfl ?_
  refine p_if_lt (tgt := 15) X (dcg dc_X11_eventOf 1 rfl) (by decide) (fun q => ?_) (fun q => ?_)
  · have hf := if_t q hf
    refine p_pick [] ?_
    exact wX11_eventOf_b15 X hG hex hM hN hu hv hf 
  · have hf := if_f q hf
    refine p_iload_n X (dcg dc_X11_eventOf 2 rfl) rfl rfl ?_
    refine p_aload_n X (dcg dc_X11_eventOf 3 rfl) rfl rfl ?_
    obtain ⟨hk1, hf⟩ := gd_some hf
    refine p_getR X fl_X11_61 rfl (by decide) (dcg dc_X11_eventOf 4 rfl) hk1 ?_
    obtain ⟨a2, e3, hf⟩ := gs_some hf
    first | subst e3 | (try rw [e3])
    obtain ⟨hk4, hf⟩ := gd_some hf
    refine p_getIn X fl_X11_292 rfl (by decide) (dcg dc_X11_eventOf 5 rfl) hk4 ?_
    refine p_icmp_lt (tgt := 23) X (dcg dc_X11_eventOf 6 rfl) (by decide) (fun q => ?_) (fun q => ?_)
    · have hf := if_t q hf
      refine p_iload_n X (dcg dc_X11_eventOf 11 rfl) rfl rfl ?_
      refine p_if_lt (tgt := 32) X (dcg dc_X11_eventOf 12 rfl) (by decide) (fun q => ?_) (fun q => ?_)
      · have hf := if_t q hf
        refine p_pick [] ?_
        exact wX11_eventOf_b32 X hG hex hM hN hu hv hf 
      · have hf := if_f q hf
        refine p_iload_n X (dcg dc_X11_eventOf 13 rfl) rfl rfl ?_
        refine p_iconst (v := 2) X (dcg dc_X11_eventOf 14 rfl) (by decide) ?_
        refine p_icmp_le (tgt := 40) X (dcg dc_X11_eventOf 15 rfl) (by decide) (fun q => ?_) (fun q => ?_)
        · have hf := if_t q hf
          refine p_aload_n X (dcg dc_X11_eventOf 20 rfl) rfl rfl ?_
          refine p_getR X fl_X11_61 rfl (by decide) (dcg dc_X11_eventOf 21 rfl) hk1 ?_
          refine p_iload_n X (dcg dc_X11_eventOf 22 rfl) rfl rfl ?_
          refine p_iload_n X (dcg dc_X11_eventOf 23 rfl) rfl rfl ?_
          obtain ⟨a5, e6, hf⟩ := gs_some hf
          first | subst e6 | (try rw [e6])
          obtain ⟨hk7, hf⟩ := gd_some hf
          obtain ⟨z8, hz8, hf⟩ := bd_some hf
          refine p_callV (As := [_, _]) X ml_X11_293 (dcg dc_X11_eventOf 24 rfl) rfl rfl hk7 (wX1_figure hG hz8) (by decide) (room4 (Nat.le_of_ble_eq_true rfl)) hcm hsm ?_
          rintro _ u9 ⟨rfl, e9⟩; have e9 := e9.symm; subst e9
          have er := Option.some.inj hf
          subst er
          refine p_vx ?_
          exact p_iret X rfl (dcg dc_X11_eventOf 25 rfl) ⟨_, rfl, rfl, rfl⟩ hcm hsm
        · have hf := if_f q hf
          refine p_pick [] ?_
          exact wX11_eventOf_b32 X hG hex hM hN hu hv hf 
    · have hf := if_f q hf
      refine p_pick [] ?_
      exact wX11_eventOf_b15 X hG hex hM hN hu hv hf 
noncomputable def fX11_eventOf (v0 : Nat) (v1 : Int32) (v2 : Int32) (h : PH) : Option ((Int32 × PH) ⊕ (Nat × PH)) :=
  fX11_eventOf_b0 v0 v1 v2 h
set_option maxRecDepth 100000 in
theorem mX11_eventOf {v0 : Nat} {v1 : Int32} {v2 : Int32} {h : PH} {r : ((Int32 × PH) ⊕ (Nat × PH))} (hf : fX11_eventOf v0 v1 v2 h = some r) : lez h (xT2 r) (vT2 r) := by
  unfold fX11_eventOf at hf
  have hle := lez_rf h
  exact lez_rt (mX11_eventOf_b0 hf) hle
set_option maxRecDepth 100000 in
theorem wX11_eventOf {E : PE} {l : Launch} (hG : Gs E l) {v0 : Nat} {v1 : Int32} {v2 : Int32} {h : PH} {r : ((Int32 × PH) ⊕ (Nat × PH))} (hf : fX11_eventOf v0 v1 v2 h = some r) : CtX E l 8 ((xT2 r) - hX h) ((vT2 r) - hV h) yX11_eventOf cX11_eventOf 3 (some .int) [.ref v0, .int v1, .int v2] h (fun v u => ∃ z, r = .inl z ∧ v = some (.int z.1) ∧ u = z.2) (fun En u => ∃ (z : Nat × PH) (n : Nat), r = .inr z ∧ En = exn z.1 ∧ hX z.2 ≤ n ∧ u = hbump z.2 n) := by
  have hmm := mX11_eventOf hf
  refine ctx_of hG (by decide) (Nat.le_of_ble_eq_true rfl) ?_
  intro p e s m args below meth c X hex
  show PW E p l e _ s m args below meth c _ 0 0 _ h 0 [(0, some (.ref v0)), (1, some (.int v1)), (2, some (.int v2))] []
  unfold fX11_eventOf at hf
  have hM := Nat.sub_add_cancel hmm.1
  have hN := Nat.sub_add_cancel hmm.2
  refine p_pick [0, 1, 2] ?_
  exact wX11_eventOf_b0 X hG hex hM hN (Nat.zero_add _) (Nat.zero_add _) hf
theorem dc_X11_differAt : decs cX11_differAt [(0, .aload_n 0, 1), (1, .getfield 75, 3), (4, .iload_n 1, 1), (5, .invokevirtual 310, 3), (8, .ireturn, 1)] = true := by decide +kernel
noncomputable def fX11_differAt (v0 : Nat) (v1 : Int32) (h : PH) : Option Int32 :=
  gd (hK h v0 = 11) (gs (hR h 11 v0 9) (fun a2 =>
  gd (hK h a2 = 0) (bd (fX0_leastAt a2 v1 h) (fun z5 =>
  some (z5)))))
set_option maxRecDepth 100000 in
theorem wX11_differAt {E : PE} {l : Launch} (hG : Gs E l) {v0 : Nat} {v1 : Int32} {h : PH} {r : Int32} (hf : fX11_differAt v0 v1 h = some r) : Ct E l 1 0 0 yX11_differAt cX11_differAt 2 (some .int) [.ref v0, .int v1] h (fun v u => v = some (.int r) ∧ u = h) := by
  refine ct_of hG (by decide) (Nat.le_of_ble_eq_true rfl) ?_
  intro p e s m args below meth c X hnm
  show PW E p l e _ s m args below meth c _ 0 0 _ h 0 [(0, some (.ref v0)), (1, some (.int v1))] []
  unfold fX11_differAt at hf
  refine p_aload_n X (dcg dc_X11_differAt 0 rfl) rfl rfl ?_
  obtain ⟨hk1, hf⟩ := gd_some hf
  refine p_getR X fl_X11_75 rfl (by decide) (dcg dc_X11_differAt 1 rfl) hk1 ?_
  refine p_iload_n X (dcg dc_X11_differAt 2 rfl) rfl rfl ?_
  obtain ⟨a2, e3, hf⟩ := gs_some hf
  first | subst e3 | (try rw [e3])
  obtain ⟨hk4, hf⟩ := gd_some hf
  obtain ⟨z5, hz5, hf⟩ := bd_some hf
  refine p_callV (As := [_]) X ml_X11_310 (dcg dc_X11_differAt 3 rfl) rfl rfl hk4 (wX0_leastAt hG hz5) (by decide) (room4 (Nat.le_of_ble_eq_true rfl)) (Nat.le_refl _) (Nat.le_refl _) ?_
  rintro _ u9 ⟨rfl, e9⟩; have e9 := e9.symm; subst e9
  have er := Option.some.inj hf
  subst er
  exact p_iret X rfl (dcg dc_X11_differAt 4 rfl) ⟨rfl, rfl⟩ (Nat.le_refl _) (Nat.le_refl _)
theorem dc_X11_unlike : decs cX11_unlike [(0, .aload_n 0, 1), (1, .iload_n 1, 1), (2, .invokevirtual 119, 3), (5, .invokevirtual 313, 3), (8, .ireturn, 1)] = true := by decide +kernel
noncomputable def fX11_unlike_b5 (t0 : Option Nat) (h : PH) : Option ((Int32 × PH) ⊕ (Nat × PH)) :=
  gs t0 (fun a4 =>
  gd (hK h a4 = 8) (bd (fX8_countUnlike a4 h) (fun z7 =>
  some (.inl ((z7, h))))))
set_option maxRecDepth 100000 in
theorem mX11_unlike_b5 {t0 : Option Nat} {h : PH} {r : ((Int32 × PH) ⊕ (Nat × PH))} (hf : fX11_unlike_b5 t0 h = some r) : lez h (xT2 r) (vT2 r) := by
  unfold fX11_unlike_b5 at hf
  have hle := lez_rf h
  obtain ⟨a4, e5, hf⟩ := gs_some hf
  obtain ⟨hk6, hf⟩ := gd_some hf
  obtain ⟨z7, hz7, hf⟩ := bd_some hf
  have ee := Option.some.inj hf; subst ee; exact hle
set_option maxRecDepth 100000 in
theorem wX11_unlike_b5 {E : PE} {p : Program} {l : Launch} {e : Env} {s : State} {m : MethodId} {args : Array Value} {below : List Frame} {meth : Method} {c : Code} {X0 V0 MC MS uc us : Nat} (X : Cx E p l e (rmv 9 MC MS) s m args below meth c RX11 cX11_unlike 2 (some .int)) (hG : Gs E l) (hex : ∀ x ∈ c.exceptionTable.toList, False) {t0 : Option Nat} {h : PH} {r : ((Int32 × PH) ⊕ (Nat × PH))} (hM : MC + X0 = (xT2 r)) (hN : MS + V0 = (vT2 r)) (hu : uc + X0 = hX h) (hv : us + V0 = hV h) (hf : fX11_unlike_b5 t0 h = some r)  : PW E p l e (rmv 9 MC MS) s m args below meth c 2 uc us (vx_MQ below (QG E (fun v u => ∃ z, r = .inl z ∧ v = some (.int z.1) ∧ u = z.2)) (XG E (fun En u => ∃ (z : Nat × PH) (n : Nat), r = .inr z ∧ En = exn z.1 ∧ hX z.2 ≤ n ∧ u = hbump z.2 n)) args s MC MS (pA E)) h 5 [] [va_rf t0] := by
  have hm1 : lez h (xT2 r) (vT2 r) := mX11_unlike_b5 hf
  have hcm : uc ≤ MC := (by have o0 := hm1.1; have o1 := hM; have o2 := hu; (try simp only [hX_sI, hX_sR, hX_sL, hX_sD, hX_sIa, hX_sRa, hV_sI, hV_sR, hV_sL, hV_sD, hV_sIa, hV_sRa, hX_new, hV_new] at o0 o1 o2 ⊢); omega)
  have hsm : us ≤ MS := (by have o0 := hm1.2; have o1 := hN; have o2 := hv; (try simp only [hX_sI, hX_sR, hX_sL, hX_sD, hX_sIa, hX_sRa, hV_sI, hV_sR, hV_sL, hV_sD, hV_sIa, hV_sRa, hX_new, hV_new] at o0 o1 o2 ⊢); omega)
  clear hm1
  unfold fX11_unlike_b5 at hf
  obtain ⟨a4, e5, hf⟩ := gs_some hf
  first | subst e5 | (try rw [e5])
  obtain ⟨hk6, hf⟩ := gd_some hf
  obtain ⟨z7, hz7, hf⟩ := bd_some hf
  refine p_callV (As := []) X ml_X11_313 (dcg dc_X11_unlike 3 rfl) rfl rfl hk6 (wX8_countUnlike hG hz7) (by decide) (room4 (Nat.le_of_ble_eq_true rfl)) hcm hsm ?_
  rintro _ u9 ⟨rfl, e9⟩; have e9 := e9.symm; subst e9
  have er := Option.some.inj hf
  subst er
  refine p_vx ?_
  exact p_iret X rfl (dcg dc_X11_unlike 4 rfl) ⟨_, rfl, rfl, rfl⟩ hcm hsm
noncomputable def fX11_unlike_b0 (v0 : Nat) (v1 : Int32) (h : PH) : Option ((Int32 × PH) ⊕ (Nat × PH)) :=
  gd (hK h v0 = 11) (bx (fX11_demandText v0 v1 h) (fun z2 =>
  fX11_unlike_b5 z2.1 z2.2))
set_option maxRecDepth 100000 in
theorem mX11_unlike_b0 {v0 : Nat} {v1 : Int32} {h : PH} {r : ((Int32 × PH) ⊕ (Nat × PH))} (hf : fX11_unlike_b0 v0 v1 h = some r) : lez h (xT2 r) (vT2 r) := by
  unfold fX11_unlike_b0 at hf
  have hle := lez_rf h
  obtain ⟨hk1, hf⟩ := gd_some hf
  obtain ⟨y3, hy3, h1y3, h2y3⟩ := bx_some hf
  have hc1 := mX11_demandText hy3
  rcases y3 with z2 | z2
  · have hf := h1y3 z2 rfl
    have hle : lez h (hX z2.2) (hV z2.2) := lez_rt hc1 hle
    exact lez_rt (mX11_unlike_b5 hf) hle
  · have hr9 := h2y3 z2 rfl
    subst hr9
    exact lez_rt hc1 hle
set_option maxRecDepth 100000 in
theorem wX11_unlike_b0 {E : PE} {p : Program} {l : Launch} {e : Env} {s : State} {m : MethodId} {args : Array Value} {below : List Frame} {meth : Method} {c : Code} {X0 V0 MC MS uc us : Nat} (X : Cx E p l e (rmv 9 MC MS) s m args below meth c RX11 cX11_unlike 2 (some .int)) (hG : Gs E l) (hex : ∀ x ∈ c.exceptionTable.toList, False) {v0 : Nat} {v1 : Int32} {h : PH} {r : ((Int32 × PH) ⊕ (Nat × PH))} (hM : MC + X0 = (xT2 r)) (hN : MS + V0 = (vT2 r)) (hu : uc + X0 = hX h) (hv : us + V0 = hV h) (hf : fX11_unlike_b0 v0 v1 h = some r)  : PW E p l e (rmv 9 MC MS) s m args below meth c 2 uc us (vx_MQ below (QG E (fun v u => ∃ z, r = .inl z ∧ v = some (.int z.1) ∧ u = z.2)) (XG E (fun En u => ∃ (z : Nat × PH) (n : Nat), r = .inr z ∧ En = exn z.1 ∧ hX z.2 ≤ n ∧ u = hbump z.2 n)) args s MC MS (pA E)) h 0 [(0, some (.ref v0)), (1, some (.int v1))] [] := by
  have hm1 : lez h (xT2 r) (vT2 r) := mX11_unlike_b0 hf
  have hcm : uc ≤ MC := (by have o0 := hm1.1; have o1 := hM; have o2 := hu; (try simp only [hX_sI, hX_sR, hX_sL, hX_sD, hX_sIa, hX_sRa, hV_sI, hV_sR, hV_sL, hV_sD, hV_sIa, hV_sRa, hX_new, hV_new] at o0 o1 o2 ⊢); omega)
  have hsm : us ≤ MS := (by have o0 := hm1.2; have o1 := hN; have o2 := hv; (try simp only [hX_sI, hX_sR, hX_sL, hX_sD, hX_sIa, hX_sRa, hV_sI, hV_sR, hV_sL, hV_sD, hV_sIa, hV_sRa, hX_new, hV_new] at o0 o1 o2 ⊢); omega)
  clear hm1
  unfold fX11_unlike_b0 at hf
  refine p_aload_n X (dcg dc_X11_unlike 0 rfl) rfl rfl ?_
  refine p_iload_n X (dcg dc_X11_unlike 1 rfl) rfl rfl ?_
  obtain ⟨hk1, hf⟩ := gd_some hf
  obtain ⟨y3, hy3, h1y3, h2y3⟩ := bx_some hf
  have hc1 := mX11_demandText hy3
  rcases y3 with z2 | z2
  · have hf := h1y3 z2 rfl
    have hm1 : lez _ (xT2 r) (vT2 r) := mX11_unlike_b5 hf
    refine p_callVX (As := [_]) X hex ml_X11_119 (dcg dc_X11_unlike 2 rfl) rfl rfl hk1 (wX11_demandText hG hy3) (by decide) (room4 (Nat.le_of_ble_eq_true rfl)) (show uc + (hX z2.2 - hX h) ≤ MC from (by have o0 := hm1.1; have o1 := (show lez h (hX z2.2) (hV z2.2) from hc1).1; have o2 := hM; have o3 := hu; (try simp only [hX_sI, hX_sR, hX_sL, hX_sD, hX_sIa, hX_sRa, hV_sI, hV_sR, hV_sL, hV_sD, hV_sIa, hV_sRa, hX_new, hV_new] at o0 o1 o2 o3 ⊢); omega)) (show us + (hV z2.2 - hV h) ≤ MS from (by have o0 := hm1.2; have o1 := (show lez h (hX z2.2) (hV z2.2) from hc1).2; have o2 := hN; have o3 := hv; (try simp only [hX_sI, hX_sR, hX_sL, hX_sD, hX_sIa, hX_sRa, hV_sI, hV_sR, hV_sL, hV_sD, hV_sIa, hV_sRa, hX_new, hV_new] at o0 o1 o2 o3 ⊢); omega)) (show uc + (hX z2.2 - hX h) ≤ MC from (by have o0 := hm1.1; have o1 := (show lez h (hX z2.2) (hV z2.2) from hc1).1; have o2 := hM; have o3 := hu; (try simp only [hX_sI, hX_sR, hX_sL, hX_sD, hX_sIa, hX_sRa, hV_sI, hV_sR, hV_sL, hV_sD, hV_sIa, hV_sRa, hX_new, hV_new] at o0 o1 o2 o3 ⊢); omega)) (show us + (hV z2.2 - hV h) ≤ MS from (by have o0 := hm1.2; have o1 := (show lez h (hX z2.2) (hV z2.2) from hc1).2; have o2 := hN; have o3 := hv; (try simp only [hX_sI, hX_sR, hX_sL, hX_sD, hX_sIa, hX_sRa, hV_sI, hV_sR, hV_sL, hV_sD, hV_sIa, hV_sRa, hX_new, hV_new] at o0 o1 o2 o3 ⊢); omega)) (fun En u q => by obtain ⟨z9, n9, q9, _⟩ := q; cases q9) ?_
    rintro _ _ ⟨z9, hz9, rfl, rfl⟩
    cases hz9
    refine p_pick [] ?_
    exact wX11_unlike_b5 X hG hex hM hN (show uc + (hX z2.2 - hX h) + X0 = hX z2.2 from (by have o0 := (show lez h (hX z2.2) (hV z2.2) from hc1).1; have o1 := hu; (try simp only [hX_sI, hX_sR, hX_sL, hX_sD, hX_sIa, hX_sRa, hV_sI, hV_sR, hV_sL, hV_sD, hV_sIa, hV_sRa, hX_new, hV_new] at o0 o1 ⊢); omega)) (show us + (hV z2.2 - hV h) + V0 = hV z2.2 from (by have o0 := (show lez h (hX z2.2) (hV z2.2) from hc1).2; have o1 := hv; (try simp only [hX_sI, hX_sR, hX_sL, hX_sD, hX_sIa, hX_sRa, hV_sI, hV_sR, hV_sL, hV_sD, hV_sIa, hV_sRa, hX_new, hV_new] at o0 o1 ⊢); omega)) hf 
  · have hr9 := h2y3 z2 rfl
    subst hr9
    refine p_callVX (As := [_]) X hex ml_X11_119 (dcg dc_X11_unlike 2 rfl) rfl rfl hk1 (wX11_demandText hG hy3) (by decide) (room4 (Nat.le_of_ble_eq_true rfl)) (show uc + (hX z2.2 + 1 - hX h) ≤ MC from (by have o0 := (show lez h (hX z2.2 + 1) (hV z2.2 + 6) from hc1).1; have o1 := (show MC + X0 = hX z2.2 + 1 from hM); have o2 := hu; (try simp only [hX_sI, hX_sR, hX_sL, hX_sD, hX_sIa, hX_sRa, hV_sI, hV_sR, hV_sL, hV_sD, hV_sIa, hV_sRa, hX_new, hV_new] at o0 o1 o2 ⊢); omega)) (show us + (hV z2.2 + 6 - hV h) ≤ MS from (by have o0 := (show lez h (hX z2.2 + 1) (hV z2.2 + 6) from hc1).2; have o1 := (show MS + V0 = hV z2.2 + 6 from hN); have o2 := hv; (try simp only [hX_sI, hX_sR, hX_sL, hX_sD, hX_sIa, hX_sRa, hV_sI, hV_sR, hV_sL, hV_sD, hV_sIa, hV_sRa, hX_new, hV_new] at o0 o1 o2 ⊢); omega)) (show uc + (hX z2.2 + 1 - hX h) ≤ MC from (by have o0 := (show lez h (hX z2.2 + 1) (hV z2.2 + 6) from hc1).1; have o1 := (show MC + X0 = hX z2.2 + 1 from hM); have o2 := hu; (try simp only [hX_sI, hX_sR, hX_sL, hX_sD, hX_sIa, hX_sRa, hV_sI, hV_sR, hV_sL, hV_sD, hV_sIa, hV_sRa, hX_new, hV_new] at o0 o1 o2 ⊢); omega)) (show us + (hV z2.2 + 6 - hV h) ≤ MS from (by have o0 := (show lez h (hX z2.2 + 1) (hV z2.2 + 6) from hc1).2; have o1 := (show MS + V0 = hV z2.2 + 6 from hN); have o2 := hv; (try simp only [hX_sI, hX_sR, hX_sL, hX_sD, hX_sIa, hX_sRa, hV_sI, hV_sR, hV_sL, hV_sD, hV_sIa, hV_sRa, hX_new, hV_new] at o0 o1 o2 ⊢); omega)) (fun En u q => by obtain ⟨z9, n9, q9, q8⟩ := q; cases q9; exact ⟨_, n9, rfl, q8⟩) ?_
    rintro _ _ ⟨z9, hz9, _⟩
    cases hz9
noncomputable def fX11_unlike (v0 : Nat) (v1 : Int32) (h : PH) : Option ((Int32 × PH) ⊕ (Nat × PH)) :=
  fX11_unlike_b0 v0 v1 h
set_option maxRecDepth 100000 in
theorem mX11_unlike {v0 : Nat} {v1 : Int32} {h : PH} {r : ((Int32 × PH) ⊕ (Nat × PH))} (hf : fX11_unlike v0 v1 h = some r) : lez h (xT2 r) (vT2 r) := by
  unfold fX11_unlike at hf
  have hle := lez_rf h
  exact lez_rt (mX11_unlike_b0 hf) hle
set_option maxRecDepth 100000 in
theorem wX11_unlike {E : PE} {l : Launch} (hG : Gs E l) {v0 : Nat} {v1 : Int32} {h : PH} {r : ((Int32 × PH) ⊕ (Nat × PH))} (hf : fX11_unlike v0 v1 h = some r) : CtX E l 9 ((xT2 r) - hX h) ((vT2 r) - hV h) yX11_unlike cX11_unlike 2 (some .int) [.ref v0, .int v1] h (fun v u => ∃ z, r = .inl z ∧ v = some (.int z.1) ∧ u = z.2) (fun En u => ∃ (z : Nat × PH) (n : Nat), r = .inr z ∧ En = exn z.1 ∧ hX z.2 ≤ n ∧ u = hbump z.2 n) := by
  have hmm := mX11_unlike hf
  refine ctx_of hG (by decide) (Nat.le_of_ble_eq_true rfl) ?_
  intro p e s m args below meth c X hex
  show PW E p l e _ s m args below meth c _ 0 0 _ h 0 [(0, some (.ref v0)), (1, some (.int v1))] []
  unfold fX11_unlike at hf
  have hM := Nat.sub_add_cancel hmm.1
  have hN := Nat.sub_add_cancel hmm.2
  refine p_pick [0, 1] ?_
  exact wX11_unlike_b0 X hG hex hM hN (Nat.zero_add _) (Nat.zero_add _) hf
theorem dc_X11_common : decs cX11_common [(0, .aload_n 0, 1), (1, .iload_n 1, 1), (2, .invokevirtual 119, 3), (5, .astore_n 3, 1), (6, .aload_n 0, 1), (7, .iload_n 2, 1), (8, .invokevirtual 119, 3), (11, .astore 4, 2), (13, .aload_n 3, 1), (14, .aload 4, 2), (16, .invokevirtual 316, 3), (19, .ireturn, 1)] = true := by decide +kernel
noncomputable def fX11_common_b11 (v3 : Option Nat) (t0 : Option Nat) (h : PH) : Option ((Int32 × PH) ⊕ (Nat × PH)) :=
  gs v3 (fun a7 =>
  gd (hK h a7 = 8) (bd (fX8_countCommon a7 t0 h) (fun z10 =>
  some (.inl ((z10, h))))))
set_option maxRecDepth 100000 in
theorem mX11_common_b11 {v3 : Option Nat} {t0 : Option Nat} {h : PH} {r : ((Int32 × PH) ⊕ (Nat × PH))} (hf : fX11_common_b11 v3 t0 h = some r) : lez h (xT2 r) (vT2 r) := by
  unfold fX11_common_b11 at hf
  have hle := lez_rf h
  obtain ⟨a7, e8, hf⟩ := gs_some hf
  obtain ⟨hk9, hf⟩ := gd_some hf
  obtain ⟨z10, hz10, hf⟩ := bd_some hf
  have ee := Option.some.inj hf; subst ee; exact hle
set_option maxRecDepth 100000 in
theorem wX11_common_b11 {E : PE} {p : Program} {l : Launch} {e : Env} {s : State} {m : MethodId} {args : Array Value} {below : List Frame} {meth : Method} {c : Code} {X0 V0 MC MS uc us : Nat} (X : Cx E p l e (rmv 9 MC MS) s m args below meth c RX11 cX11_common 5 (some .int)) (hG : Gs E l) (hex : ∀ x ∈ c.exceptionTable.toList, False) {v3 : Option Nat} {t0 : Option Nat} {h : PH} {r : ((Int32 × PH) ⊕ (Nat × PH))} (hM : MC + X0 = (xT2 r)) (hN : MS + V0 = (vT2 r)) (hu : uc + X0 = hX h) (hv : us + V0 = hV h) (hf : fX11_common_b11 v3 t0 h = some r)  : PW E p l e (rmv 9 MC MS) s m args below meth c 5 uc us (vx_MQ below (QG E (fun v u => ∃ z, r = .inl z ∧ v = some (.int z.1) ∧ u = z.2)) (XG E (fun En u => ∃ (z : Nat × PH) (n : Nat), r = .inr z ∧ En = exn z.1 ∧ hX z.2 ≤ n ∧ u = hbump z.2 n)) args s MC MS (pA E)) h 11 [(3, some (va_rf v3))] [va_rf t0] := by
  have hm1 : lez h (xT2 r) (vT2 r) := mX11_common_b11 hf
  have hcm : uc ≤ MC := (by have o0 := hm1.1; have o1 := hM; have o2 := hu; (try simp only [hX_sI, hX_sR, hX_sL, hX_sD, hX_sIa, hX_sRa, hV_sI, hV_sR, hV_sL, hV_sD, hV_sIa, hV_sRa, hX_new, hV_new] at o0 o1 o2 ⊢); omega)
  have hsm : us ≤ MS := (by have o0 := hm1.2; have o1 := hN; have o2 := hv; (try simp only [hX_sI, hX_sR, hX_sL, hX_sD, hX_sIa, hX_sRa, hV_sI, hV_sR, hV_sL, hV_sD, hV_sIa, hV_sRa, hX_new, hV_new] at o0 o1 o2 ⊢); omega)
  clear hm1
  unfold fX11_common_b11 at hf
  refine p_astoreq X (dcg dc_X11_common 7 rfl) (by decide) (nwq (k := 3) rfl) ?_
  refine p_aloadq_n X (dcg dc_X11_common 8 rfl) rfl rfl ?_
  refine p_aloadq X (dcg dc_X11_common 9 rfl) rfl ?_
  obtain ⟨a7, e8, hf⟩ := gs_some hf
  first | subst e8 | (try rw [e8])
  obtain ⟨hk9, hf⟩ := gd_some hf
  obtain ⟨z10, hz10, hf⟩ := bd_some hf
  refine p_callV (As := [va_rf _]) X ml_X11_316 (dcg dc_X11_common 10 rfl) rfl rfl hk9 (wX8_countCommon hG hz10) (by decide) (room4 (Nat.le_of_ble_eq_true rfl)) hcm hsm ?_
  rintro _ u9 ⟨rfl, e9⟩; have e9 := e9.symm; subst e9
  have er := Option.some.inj hf
  subst er
  refine p_vx ?_
  exact p_iret X rfl (dcg dc_X11_common 11 rfl) ⟨_, rfl, rfl, rfl⟩ hcm hsm
noncomputable def fX11_common_b5 (v0 : Nat) (v2 : Int32) (t0 : Option Nat) (h : PH) : Option ((Int32 × PH) ⊕ (Nat × PH)) :=
  gd (hK h v0 = 11) (bx (fX11_demandText v0 v2 h) (fun z5 =>
  fX11_common_b11 t0 z5.1 z5.2))
set_option maxRecDepth 100000 in
theorem mX11_common_b5 {v0 : Nat} {v2 : Int32} {t0 : Option Nat} {h : PH} {r : ((Int32 × PH) ⊕ (Nat × PH))} (hf : fX11_common_b5 v0 v2 t0 h = some r) : lez h (xT2 r) (vT2 r) := by
  unfold fX11_common_b5 at hf
  have hle := lez_rf h
  obtain ⟨hk4, hf⟩ := gd_some hf
  obtain ⟨y6, hy6, h1y6, h2y6⟩ := bx_some hf
  have hc1 := mX11_demandText hy6
  rcases y6 with z5 | z5
  · have hf := h1y6 z5 rfl
    have hle : lez h (hX z5.2) (hV z5.2) := lez_rt hc1 hle
    exact lez_rt (mX11_common_b11 hf) hle
  · have hr9 := h2y6 z5 rfl
    subst hr9
    exact lez_rt hc1 hle
set_option maxRecDepth 100000 in
theorem wX11_common_b5 {E : PE} {p : Program} {l : Launch} {e : Env} {s : State} {m : MethodId} {args : Array Value} {below : List Frame} {meth : Method} {c : Code} {X0 V0 MC MS uc us : Nat} (X : Cx E p l e (rmv 9 MC MS) s m args below meth c RX11 cX11_common 5 (some .int)) (hG : Gs E l) (hex : ∀ x ∈ c.exceptionTable.toList, False) {v0 : Nat} {v2 : Int32} {t0 : Option Nat} {h : PH} {r : ((Int32 × PH) ⊕ (Nat × PH))} (hM : MC + X0 = (xT2 r)) (hN : MS + V0 = (vT2 r)) (hu : uc + X0 = hX h) (hv : us + V0 = hV h) (hf : fX11_common_b5 v0 v2 t0 h = some r)  : PW E p l e (rmv 9 MC MS) s m args below meth c 5 uc us (vx_MQ below (QG E (fun v u => ∃ z, r = .inl z ∧ v = some (.int z.1) ∧ u = z.2)) (XG E (fun En u => ∃ (z : Nat × PH) (n : Nat), r = .inr z ∧ En = exn z.1 ∧ hX z.2 ≤ n ∧ u = hbump z.2 n)) args s MC MS (pA E)) h 5 [(0, some (.ref v0)), (2, some (.int v2))] [va_rf t0] := by
  have hm1 : lez h (xT2 r) (vT2 r) := mX11_common_b5 hf
  have hcm : uc ≤ MC := (by have o0 := hm1.1; have o1 := hM; have o2 := hu; (try simp only [hX_sI, hX_sR, hX_sL, hX_sD, hX_sIa, hX_sRa, hV_sI, hV_sR, hV_sL, hV_sD, hV_sIa, hV_sRa, hX_new, hV_new] at o0 o1 o2 ⊢); omega)
  have hsm : us ≤ MS := (by have o0 := hm1.2; have o1 := hN; have o2 := hv; (try simp only [hX_sI, hX_sR, hX_sL, hX_sD, hX_sIa, hX_sRa, hV_sI, hV_sR, hV_sL, hV_sD, hV_sIa, hV_sRa, hX_new, hV_new] at o0 o1 o2 ⊢); omega)
  clear hm1
  unfold fX11_common_b5 at hf
  refine p_astoreq_n X (dcg dc_X11_common 3 rfl) rfl (by decide) rfl ?_
  refine p_aload_n X (dcg dc_X11_common 4 rfl) rfl rfl ?_
  refine p_iload_n X (dcg dc_X11_common 5 rfl) rfl rfl ?_
  obtain ⟨hk4, hf⟩ := gd_some hf
  obtain ⟨y6, hy6, h1y6, h2y6⟩ := bx_some hf
  have hc1 := mX11_demandText hy6
  rcases y6 with z5 | z5
  · have hf := h1y6 z5 rfl
    have hm1 : lez _ (xT2 r) (vT2 r) := mX11_common_b11 hf
    refine p_callVX (As := [_]) X hex ml_X11_119 (dcg dc_X11_common 6 rfl) rfl rfl hk4 (wX11_demandText hG hy6) (by decide) (room4 (Nat.le_of_ble_eq_true rfl)) (show uc + (hX z5.2 - hX h) ≤ MC from (by have o0 := hm1.1; have o1 := (show lez h (hX z5.2) (hV z5.2) from hc1).1; have o2 := hM; have o3 := hu; (try simp only [hX_sI, hX_sR, hX_sL, hX_sD, hX_sIa, hX_sRa, hV_sI, hV_sR, hV_sL, hV_sD, hV_sIa, hV_sRa, hX_new, hV_new] at o0 o1 o2 o3 ⊢); omega)) (show us + (hV z5.2 - hV h) ≤ MS from (by have o0 := hm1.2; have o1 := (show lez h (hX z5.2) (hV z5.2) from hc1).2; have o2 := hN; have o3 := hv; (try simp only [hX_sI, hX_sR, hX_sL, hX_sD, hX_sIa, hX_sRa, hV_sI, hV_sR, hV_sL, hV_sD, hV_sIa, hV_sRa, hX_new, hV_new] at o0 o1 o2 o3 ⊢); omega)) (show uc + (hX z5.2 - hX h) ≤ MC from (by have o0 := hm1.1; have o1 := (show lez h (hX z5.2) (hV z5.2) from hc1).1; have o2 := hM; have o3 := hu; (try simp only [hX_sI, hX_sR, hX_sL, hX_sD, hX_sIa, hX_sRa, hV_sI, hV_sR, hV_sL, hV_sD, hV_sIa, hV_sRa, hX_new, hV_new] at o0 o1 o2 o3 ⊢); omega)) (show us + (hV z5.2 - hV h) ≤ MS from (by have o0 := hm1.2; have o1 := (show lez h (hX z5.2) (hV z5.2) from hc1).2; have o2 := hN; have o3 := hv; (try simp only [hX_sI, hX_sR, hX_sL, hX_sD, hX_sIa, hX_sRa, hV_sI, hV_sR, hV_sL, hV_sD, hV_sIa, hV_sRa, hX_new, hV_new] at o0 o1 o2 o3 ⊢); omega)) (fun En u q => by obtain ⟨z9, n9, q9, _⟩ := q; cases q9) ?_
    rintro _ _ ⟨z9, hz9, rfl, rfl⟩
    cases hz9
    refine p_pick [3] ?_
    exact wX11_common_b11 X hG hex hM hN (show uc + (hX z5.2 - hX h) + X0 = hX z5.2 from (by have o0 := (show lez h (hX z5.2) (hV z5.2) from hc1).1; have o1 := hu; (try simp only [hX_sI, hX_sR, hX_sL, hX_sD, hX_sIa, hX_sRa, hV_sI, hV_sR, hV_sL, hV_sD, hV_sIa, hV_sRa, hX_new, hV_new] at o0 o1 ⊢); omega)) (show us + (hV z5.2 - hV h) + V0 = hV z5.2 from (by have o0 := (show lez h (hX z5.2) (hV z5.2) from hc1).2; have o1 := hv; (try simp only [hX_sI, hX_sR, hX_sL, hX_sD, hX_sIa, hX_sRa, hV_sI, hV_sR, hV_sL, hV_sD, hV_sIa, hV_sRa, hX_new, hV_new] at o0 o1 ⊢); omega)) hf 
  · have hr9 := h2y6 z5 rfl
    subst hr9
    refine p_callVX (As := [_]) X hex ml_X11_119 (dcg dc_X11_common 6 rfl) rfl rfl hk4 (wX11_demandText hG hy6) (by decide) (room4 (Nat.le_of_ble_eq_true rfl)) (show uc + (hX z5.2 + 1 - hX h) ≤ MC from (by have o0 := (show lez h (hX z5.2 + 1) (hV z5.2 + 6) from hc1).1; have o1 := (show MC + X0 = hX z5.2 + 1 from hM); have o2 := hu; (try simp only [hX_sI, hX_sR, hX_sL, hX_sD, hX_sIa, hX_sRa, hV_sI, hV_sR, hV_sL, hV_sD, hV_sIa, hV_sRa, hX_new, hV_new] at o0 o1 o2 ⊢); omega)) (show us + (hV z5.2 + 6 - hV h) ≤ MS from (by have o0 := (show lez h (hX z5.2 + 1) (hV z5.2 + 6) from hc1).2; have o1 := (show MS + V0 = hV z5.2 + 6 from hN); have o2 := hv; (try simp only [hX_sI, hX_sR, hX_sL, hX_sD, hX_sIa, hX_sRa, hV_sI, hV_sR, hV_sL, hV_sD, hV_sIa, hV_sRa, hX_new, hV_new] at o0 o1 o2 ⊢); omega)) (show uc + (hX z5.2 + 1 - hX h) ≤ MC from (by have o0 := (show lez h (hX z5.2 + 1) (hV z5.2 + 6) from hc1).1; have o1 := (show MC + X0 = hX z5.2 + 1 from hM); have o2 := hu; (try simp only [hX_sI, hX_sR, hX_sL, hX_sD, hX_sIa, hX_sRa, hV_sI, hV_sR, hV_sL, hV_sD, hV_sIa, hV_sRa, hX_new, hV_new] at o0 o1 o2 ⊢); omega)) (show us + (hV z5.2 + 6 - hV h) ≤ MS from (by have o0 := (show lez h (hX z5.2 + 1) (hV z5.2 + 6) from hc1).2; have o1 := (show MS + V0 = hV z5.2 + 6 from hN); have o2 := hv; (try simp only [hX_sI, hX_sR, hX_sL, hX_sD, hX_sIa, hX_sRa, hV_sI, hV_sR, hV_sL, hV_sD, hV_sIa, hV_sRa, hX_new, hV_new] at o0 o1 o2 ⊢); omega)) (fun En u q => by obtain ⟨z9, n9, q9, q8⟩ := q; cases q9; exact ⟨_, n9, rfl, q8⟩) ?_
    rintro _ _ ⟨z9, hz9, _⟩
    cases hz9
noncomputable def fX11_common_b0 (v0 : Nat) (v1 : Int32) (v2 : Int32) (h : PH) : Option ((Int32 × PH) ⊕ (Nat × PH)) :=
  gd (hK h v0 = 11) (bx (fX11_demandText v0 v1 h) (fun z2 =>
  fX11_common_b5 v0 v2 z2.1 z2.2))
set_option maxRecDepth 100000 in
theorem mX11_common_b0 {v0 : Nat} {v1 : Int32} {v2 : Int32} {h : PH} {r : ((Int32 × PH) ⊕ (Nat × PH))} (hf : fX11_common_b0 v0 v1 v2 h = some r) : lez h (xT2 r) (vT2 r) := by
  unfold fX11_common_b0 at hf
  have hle := lez_rf h
  obtain ⟨hk1, hf⟩ := gd_some hf
  obtain ⟨y3, hy3, h1y3, h2y3⟩ := bx_some hf
  have hc1 := mX11_demandText hy3
  rcases y3 with z2 | z2
  · have hf := h1y3 z2 rfl
    have hle : lez h (hX z2.2) (hV z2.2) := lez_rt hc1 hle
    exact lez_rt (mX11_common_b5 hf) hle
  · have hr9 := h2y3 z2 rfl
    subst hr9
    exact lez_rt hc1 hle
set_option maxRecDepth 100000 in
theorem wX11_common_b0 {E : PE} {p : Program} {l : Launch} {e : Env} {s : State} {m : MethodId} {args : Array Value} {below : List Frame} {meth : Method} {c : Code} {X0 V0 MC MS uc us : Nat} (X : Cx E p l e (rmv 9 MC MS) s m args below meth c RX11 cX11_common 5 (some .int)) (hG : Gs E l) (hex : ∀ x ∈ c.exceptionTable.toList, False) {v0 : Nat} {v1 : Int32} {v2 : Int32} {h : PH} {r : ((Int32 × PH) ⊕ (Nat × PH))} (hM : MC + X0 = (xT2 r)) (hN : MS + V0 = (vT2 r)) (hu : uc + X0 = hX h) (hv : us + V0 = hV h) (hf : fX11_common_b0 v0 v1 v2 h = some r)  : PW E p l e (rmv 9 MC MS) s m args below meth c 5 uc us (vx_MQ below (QG E (fun v u => ∃ z, r = .inl z ∧ v = some (.int z.1) ∧ u = z.2)) (XG E (fun En u => ∃ (z : Nat × PH) (n : Nat), r = .inr z ∧ En = exn z.1 ∧ hX z.2 ≤ n ∧ u = hbump z.2 n)) args s MC MS (pA E)) h 0 [(0, some (.ref v0)), (1, some (.int v1)), (2, some (.int v2))] [] := by
  have hm1 : lez h (xT2 r) (vT2 r) := mX11_common_b0 hf
  have hcm : uc ≤ MC := (by have o0 := hm1.1; have o1 := hM; have o2 := hu; (try simp only [hX_sI, hX_sR, hX_sL, hX_sD, hX_sIa, hX_sRa, hV_sI, hV_sR, hV_sL, hV_sD, hV_sIa, hV_sRa, hX_new, hV_new] at o0 o1 o2 ⊢); omega)
  have hsm : us ≤ MS := (by have o0 := hm1.2; have o1 := hN; have o2 := hv; (try simp only [hX_sI, hX_sR, hX_sL, hX_sD, hX_sIa, hX_sRa, hV_sI, hV_sR, hV_sL, hV_sD, hV_sIa, hV_sRa, hX_new, hV_new] at o0 o1 o2 ⊢); omega)
  clear hm1
  unfold fX11_common_b0 at hf
  refine p_aload_n X (dcg dc_X11_common 0 rfl) rfl rfl ?_
  refine p_iload_n X (dcg dc_X11_common 1 rfl) rfl rfl ?_
  obtain ⟨hk1, hf⟩ := gd_some hf
  obtain ⟨y3, hy3, h1y3, h2y3⟩ := bx_some hf
  have hc1 := mX11_demandText hy3
  rcases y3 with z2 | z2
  · have hf := h1y3 z2 rfl
    have hm1 : lez _ (xT2 r) (vT2 r) := mX11_common_b5 hf
    refine p_callVX (As := [_]) X hex ml_X11_119 (dcg dc_X11_common 2 rfl) rfl rfl hk1 (wX11_demandText hG hy3) (by decide) (room4 (Nat.le_of_ble_eq_true rfl)) (show uc + (hX z2.2 - hX h) ≤ MC from (by have o0 := hm1.1; have o1 := (show lez h (hX z2.2) (hV z2.2) from hc1).1; have o2 := hM; have o3 := hu; (try simp only [hX_sI, hX_sR, hX_sL, hX_sD, hX_sIa, hX_sRa, hV_sI, hV_sR, hV_sL, hV_sD, hV_sIa, hV_sRa, hX_new, hV_new] at o0 o1 o2 o3 ⊢); omega)) (show us + (hV z2.2 - hV h) ≤ MS from (by have o0 := hm1.2; have o1 := (show lez h (hX z2.2) (hV z2.2) from hc1).2; have o2 := hN; have o3 := hv; (try simp only [hX_sI, hX_sR, hX_sL, hX_sD, hX_sIa, hX_sRa, hV_sI, hV_sR, hV_sL, hV_sD, hV_sIa, hV_sRa, hX_new, hV_new] at o0 o1 o2 o3 ⊢); omega)) (show uc + (hX z2.2 - hX h) ≤ MC from (by have o0 := hm1.1; have o1 := (show lez h (hX z2.2) (hV z2.2) from hc1).1; have o2 := hM; have o3 := hu; (try simp only [hX_sI, hX_sR, hX_sL, hX_sD, hX_sIa, hX_sRa, hV_sI, hV_sR, hV_sL, hV_sD, hV_sIa, hV_sRa, hX_new, hV_new] at o0 o1 o2 o3 ⊢); omega)) (show us + (hV z2.2 - hV h) ≤ MS from (by have o0 := hm1.2; have o1 := (show lez h (hX z2.2) (hV z2.2) from hc1).2; have o2 := hN; have o3 := hv; (try simp only [hX_sI, hX_sR, hX_sL, hX_sD, hX_sIa, hX_sRa, hV_sI, hV_sR, hV_sL, hV_sD, hV_sIa, hV_sRa, hX_new, hV_new] at o0 o1 o2 o3 ⊢); omega)) (fun En u q => by obtain ⟨z9, n9, q9, _⟩ := q; cases q9) ?_
    rintro _ _ ⟨z9, hz9, rfl, rfl⟩
    cases hz9
    refine p_pick [0, 2] ?_
    exact wX11_common_b5 X hG hex hM hN (show uc + (hX z2.2 - hX h) + X0 = hX z2.2 from (by have o0 := (show lez h (hX z2.2) (hV z2.2) from hc1).1; have o1 := hu; (try simp only [hX_sI, hX_sR, hX_sL, hX_sD, hX_sIa, hX_sRa, hV_sI, hV_sR, hV_sL, hV_sD, hV_sIa, hV_sRa, hX_new, hV_new] at o0 o1 ⊢); omega)) (show us + (hV z2.2 - hV h) + V0 = hV z2.2 from (by have o0 := (show lez h (hX z2.2) (hV z2.2) from hc1).2; have o1 := hv; (try simp only [hX_sI, hX_sR, hX_sL, hX_sD, hX_sIa, hX_sRa, hV_sI, hV_sR, hV_sL, hV_sD, hV_sIa, hV_sRa, hX_new, hV_new] at o0 o1 ⊢); omega)) hf 
  · have hr9 := h2y3 z2 rfl
    subst hr9
    refine p_callVX (As := [_]) X hex ml_X11_119 (dcg dc_X11_common 2 rfl) rfl rfl hk1 (wX11_demandText hG hy3) (by decide) (room4 (Nat.le_of_ble_eq_true rfl)) (show uc + (hX z2.2 + 1 - hX h) ≤ MC from (by have o0 := (show lez h (hX z2.2 + 1) (hV z2.2 + 6) from hc1).1; have o1 := (show MC + X0 = hX z2.2 + 1 from hM); have o2 := hu; (try simp only [hX_sI, hX_sR, hX_sL, hX_sD, hX_sIa, hX_sRa, hV_sI, hV_sR, hV_sL, hV_sD, hV_sIa, hV_sRa, hX_new, hV_new] at o0 o1 o2 ⊢); omega)) (show us + (hV z2.2 + 6 - hV h) ≤ MS from (by have o0 := (show lez h (hX z2.2 + 1) (hV z2.2 + 6) from hc1).2; have o1 := (show MS + V0 = hV z2.2 + 6 from hN); have o2 := hv; (try simp only [hX_sI, hX_sR, hX_sL, hX_sD, hX_sIa, hX_sRa, hV_sI, hV_sR, hV_sL, hV_sD, hV_sIa, hV_sRa, hX_new, hV_new] at o0 o1 o2 ⊢); omega)) (show uc + (hX z2.2 + 1 - hX h) ≤ MC from (by have o0 := (show lez h (hX z2.2 + 1) (hV z2.2 + 6) from hc1).1; have o1 := (show MC + X0 = hX z2.2 + 1 from hM); have o2 := hu; (try simp only [hX_sI, hX_sR, hX_sL, hX_sD, hX_sIa, hX_sRa, hV_sI, hV_sR, hV_sL, hV_sD, hV_sIa, hV_sRa, hX_new, hV_new] at o0 o1 o2 ⊢); omega)) (show us + (hV z2.2 + 6 - hV h) ≤ MS from (by have o0 := (show lez h (hX z2.2 + 1) (hV z2.2 + 6) from hc1).2; have o1 := (show MS + V0 = hV z2.2 + 6 from hN); have o2 := hv; (try simp only [hX_sI, hX_sR, hX_sL, hX_sD, hX_sIa, hX_sRa, hV_sI, hV_sR, hV_sL, hV_sD, hV_sIa, hV_sRa, hX_new, hV_new] at o0 o1 o2 ⊢); omega)) (fun En u q => by obtain ⟨z9, n9, q9, q8⟩ := q; cases q9; exact ⟨_, n9, rfl, q8⟩) ?_
    rintro _ _ ⟨z9, hz9, _⟩
    cases hz9
noncomputable def fX11_common (v0 : Nat) (v1 : Int32) (v2 : Int32) (h : PH) : Option ((Int32 × PH) ⊕ (Nat × PH)) :=
  fX11_common_b0 v0 v1 v2 h
set_option maxRecDepth 100000 in
theorem mX11_common {v0 : Nat} {v1 : Int32} {v2 : Int32} {h : PH} {r : ((Int32 × PH) ⊕ (Nat × PH))} (hf : fX11_common v0 v1 v2 h = some r) : lez h (xT2 r) (vT2 r) := by
  unfold fX11_common at hf
  have hle := lez_rf h
  exact lez_rt (mX11_common_b0 hf) hle
set_option maxRecDepth 100000 in
theorem wX11_common {E : PE} {l : Launch} (hG : Gs E l) {v0 : Nat} {v1 : Int32} {v2 : Int32} {h : PH} {r : ((Int32 × PH) ⊕ (Nat × PH))} (hf : fX11_common v0 v1 v2 h = some r) : CtX E l 9 ((xT2 r) - hX h) ((vT2 r) - hV h) yX11_common cX11_common 5 (some .int) [.ref v0, .int v1, .int v2] h (fun v u => ∃ z, r = .inl z ∧ v = some (.int z.1) ∧ u = z.2) (fun En u => ∃ (z : Nat × PH) (n : Nat), r = .inr z ∧ En = exn z.1 ∧ hX z.2 ≤ n ∧ u = hbump z.2 n) := by
  have hmm := mX11_common hf
  refine ctx_of hG (by decide) (Nat.le_of_ble_eq_true rfl) ?_
  intro p e s m args below meth c X hex
  show PW E p l e _ s m args below meth c _ 0 0 _ h 0 [(0, some (.ref v0)), (1, some (.int v1)), (2, some (.int v2))] []
  unfold fX11_common at hf
  have hM := Nat.sub_add_cancel hmm.1
  have hN := Nat.sub_add_cancel hmm.2
  refine p_pick [0, 1, 2] ?_
  exact wX11_common_b0 X hG hex hM hN (Nat.zero_add _) (Nat.zero_add _) hf
theorem dc_X11_nearest : decs cX11_nearest [(0, .aload_n 0, 1), (1, .iload_n 1, 1), (2, .invokevirtual 119, 3), (5, .astore_n 2, 1), (6, .aload_n 2, 1), (7, .invokevirtual 313, 3), (10, .istore_n 3, 1), (11, .iconst (-1), 1), (12, .istore 4, 2), (14, .iconst 0, 1), (15, .istore 5, 2), (17, .iconst 1, 1), (18, .istore 6, 2), (20, .iconst 0, 1), (21, .istore 7, 2), (23, .iload 7, 2), (25, .bipush 100, 2), (27, .if_icmp .ge 87, 3), (30, .aload_n 0, 1), (31, .getfield 27, 3), (34, .iload 7, 2), (36, .aaload, 1), (37, .astore 8, 2), (39, .iload 7, 2), (41, .iload_n 1, 1), (42, .if_icmp .eq 66, 3), (45, .aload 8, 2), (47, .ifnonnull 6, 3), (50, .goto 58, 3), (53, .aload_n 2, 1), (54, .aload 8, 2), (56, .invokevirtual 316, 3), (59, .istore 9, 2), (61, .iload_n 3, 1), (62, .aload 8, 2), (64, .invokevirtual 313, 3), (67, .iadd, 1), (68, .iload 9, 2), (70, .isub, 1), (71, .istore 10, 2), (73, .iload 4, 2), (75, .iconst (-1), 1), (76, .if_icmp .eq 16, 3), (79, .iload 9, 2), (81, .iload 6, 2), (83, .imul, 1), (84, .iload 5, 2), (86, .iload 10, 2), (88, .imul, 1), (89, .if_icmp .le 19, 3), (92, .iload 7, 2), (94, .istore 4, 2), (96, .iload 9, 2), (98, .istore 5, 2), (100, .iload 10, 2), (102, .iconst 1, 1), (103, .invokestatic 163, 3), (106, .istore 6, 2), (108, .iinc 7 1, 3), (111, .goto (-88), 3), (114, .iload 4, 2), (116, .ireturn, 1)] = true := by decide +kernel
noncomputable def fX11_nearest_b108 (v0 : Nat) (v1 : Int32) (v2 : Option Nat) (v3 : Int32) (v4 : Int32) (v5 : Int32) (v6 : Int32) (v7 : Int32) (h : PH) : Option ((Int32 × Int32 × Int32 × Int32) ⊕ ((Int32 × PH) ⊕ (Nat × PH))) :=
  some (.inl (v4, v5, v6, (v7 + 1)))
set_option maxRecDepth 100000 in
theorem mX11_nearest_b108 {v0 : Nat} {v1 : Int32} {v2 : Option Nat} {v3 : Int32} {v4 : Int32} {v5 : Int32} {v6 : Int32} {v7 : Int32} {h : PH} {x : ((Int32 × Int32 × Int32 × Int32) ⊕ ((Int32 × PH) ⊕ (Nat × PH)))} (hf : fX11_nearest_b108 v0 v1 v2 v3 v4 v5 v6 v7 h = some x) : (∀ w9 : ((Int32 × PH) ⊕ (Nat × PH)), x = .inr w9 → lez h (xT2 w9) (vT2 w9)) := by
  unfold fX11_nearest_b108 at hf
  have hle := lez_rf h
  have ee := Option.some.inj hf; subst ee
  exact (fun z e => nomatch e)
set_option maxRecDepth 100000 in
theorem wX11_nearest_b108 {E : PE} {p : Program} {l : Launch} {e : Env} {s : State} {m : MethodId} {args : Array Value} {below : List Frame} {meth : Method} {c : Code} {X0 V0 MC MS uc us : Nat} (X : Cx E p l e (rmv 9 MC MS) s m args below meth c RX11 cX11_nearest 11 (some .int)) (hG : Gs E l) (hex : ∀ x ∈ c.exceptionTable.toList, False) {v0 : Nat} {v1 : Int32} {v2 : Option Nat} {v3 : Int32} {v4 : Int32} {v5 : Int32} {v6 : Int32} {v7 : Int32} {h : PH} {r : ((Int32 × PH) ⊕ (Nat × PH))} {x : ((Int32 × Int32 × Int32 × Int32) ⊕ ((Int32 × PH) ⊕ (Nat × PH)))} (hM : MC + X0 = (xT2 r)) (hN : MS + V0 = (vT2 r)) (hu : uc + X0 = hX h) (hv : us + V0 = hV h) (hf : fX11_nearest_b108 v0 v1 v2 v3 v4 v5 v6 v7 h = some x) (k0 : ∀ (z : (Int32 × Int32 × Int32 × Int32)) (uc us : Nat), x = .inl z → uc + X0 = hX h → us + V0 = hV h → PW E p l e (rmv 9 MC MS) s m args below meth c 11 uc us (vx_MQ below (QG E (fun v u => ∃ z, r = .inl z ∧ v = some (.int z.1) ∧ u = z.2)) (XG E (fun En u => ∃ (z : Nat × PH) (n : Nat), r = .inr z ∧ En = exn z.1 ∧ hX z.2 ≤ n ∧ u = hbump z.2 n)) args s MC MS (pA E)) h 23 [(0, some (.ref v0)), (1, some (.int v1)), (2, some (va_rf v2)), (3, some (.int v3)), (4, some (.int (z.1))), (5, some (.int (z.2.1))), (6, some (.int (z.2.2.1))), (7, some (.int (z.2.2.2)))] []) (kl0 : ∀ z : (Int32 × Int32 × Int32 × Int32), x = .inl z → lez h (xT2 r) (vT2 r)) (kf : ∀ z : ((Int32 × PH) ⊕ (Nat × PH)), x = .inr z → z = r) : PW E p l e (rmv 9 MC MS) s m args below meth c 11 uc us (vx_MQ below (QG E (fun v u => ∃ z, r = .inl z ∧ v = some (.int z.1) ∧ u = z.2)) (XG E (fun En u => ∃ (z : Nat × PH) (n : Nat), r = .inr z ∧ En = exn z.1 ∧ hX z.2 ≤ n ∧ u = hbump z.2 n)) args s MC MS (pA E)) h 108 [(0, some (.ref v0)), (1, some (.int v1)), (2, some (va_rf v2)), (3, some (.int v3)), (4, some (.int v4)), (5, some (.int v5)), (6, some (.int v6)), (7, some (.int v7))] [] := by
  have hm1 : lez h (xT2 r) (vT2 r) := by
    obtain cf := mX11_nearest_b108 hf
    rcases hxx : x with zz | zz
    · exact kl0 zz hxx
    · have ee := kf zz hxx; subst ee; exact cf zz hxx
  have hcm : uc ≤ MC := (by have o0 := hm1.1; have o1 := hM; have o2 := hu; (try simp only [hX_sI, hX_sR, hX_sL, hX_sD, hX_sIa, hX_sRa, hV_sI, hV_sR, hV_sL, hV_sD, hV_sIa, hV_sRa, hX_new, hV_new] at o0 o1 o2 ⊢); omega)
  have hsm : us ≤ MS := (by have o0 := hm1.2; have o1 := hN; have o2 := hv; (try simp only [hX_sI, hX_sR, hX_sL, hX_sD, hX_sIa, hX_sRa, hV_sI, hV_sR, hV_sL, hV_sD, hV_sIa, hV_sRa, hX_new, hV_new] at o0 o1 o2 ⊢); omega)
  clear hm1
  unfold fX11_nearest_b108 at hf
  refine p_iinc (v := 1) X (dcg dc_X11_nearest 58 rfl) rfl (by decide) (by decide) rfl ?_
  refine p_goto (tgt := 23) X (dcg dc_X11_nearest 59 rfl) (by decide) ?_
  refine p_pick [0, 1, 2, 3, 4, 5, 6, 7] ?_
  exact k0 _ _ _ (Option.some.inj hf).symm hu hv
noncomputable def fX11_nearest_b92 (v0 : Nat) (v1 : Int32) (v2 : Option Nat) (v3 : Int32) (v7 : Int32) (v9 : Int32) (v10 : Int32) (h : PH) : Option ((Int32 × Int32 × Int32 × Int32) ⊕ ((Int32 × PH) ⊕ (Nat × PH))) :=
  fX11_nearest_b108 v0 v1 v2 v3 v7 v9 (if v10 < (1 : Int32) then (1 : Int32) else v10) v7 h
set_option maxRecDepth 100000 in
theorem mX11_nearest_b92 {v0 : Nat} {v1 : Int32} {v2 : Option Nat} {v3 : Int32} {v7 : Int32} {v9 : Int32} {v10 : Int32} {h : PH} {x : ((Int32 × Int32 × Int32 × Int32) ⊕ ((Int32 × PH) ⊕ (Nat × PH)))} (hf : fX11_nearest_b92 v0 v1 v2 v3 v7 v9 v10 h = some x) : (∀ w9 : ((Int32 × PH) ⊕ (Nat × PH)), x = .inr w9 → lez h (xT2 w9) (vT2 w9)) := by
  unfold fX11_nearest_b92 at hf
  have hle := lez_rf h
  obtain cf := mX11_nearest_b108 hf
  exact fun z e => lez_rt (cf z (e)) hle
set_option maxRecDepth 100000 in
theorem wX11_nearest_b92 {E : PE} {p : Program} {l : Launch} {e : Env} {s : State} {m : MethodId} {args : Array Value} {below : List Frame} {meth : Method} {c : Code} {X0 V0 MC MS uc us : Nat} (X : Cx E p l e (rmv 9 MC MS) s m args below meth c RX11 cX11_nearest 11 (some .int)) (hG : Gs E l) (hex : ∀ x ∈ c.exceptionTable.toList, False) {v0 : Nat} {v1 : Int32} {v2 : Option Nat} {v3 : Int32} {v7 : Int32} {v9 : Int32} {v10 : Int32} {h : PH} {r : ((Int32 × PH) ⊕ (Nat × PH))} {x : ((Int32 × Int32 × Int32 × Int32) ⊕ ((Int32 × PH) ⊕ (Nat × PH)))} (hM : MC + X0 = (xT2 r)) (hN : MS + V0 = (vT2 r)) (hu : uc + X0 = hX h) (hv : us + V0 = hV h) (hf : fX11_nearest_b92 v0 v1 v2 v3 v7 v9 v10 h = some x) (k0 : ∀ (z : (Int32 × Int32 × Int32 × Int32)) (uc us : Nat), x = .inl z → uc + X0 = hX h → us + V0 = hV h → PW E p l e (rmv 9 MC MS) s m args below meth c 11 uc us (vx_MQ below (QG E (fun v u => ∃ z, r = .inl z ∧ v = some (.int z.1) ∧ u = z.2)) (XG E (fun En u => ∃ (z : Nat × PH) (n : Nat), r = .inr z ∧ En = exn z.1 ∧ hX z.2 ≤ n ∧ u = hbump z.2 n)) args s MC MS (pA E)) h 23 [(0, some (.ref v0)), (1, some (.int v1)), (2, some (va_rf v2)), (3, some (.int v3)), (4, some (.int (z.1))), (5, some (.int (z.2.1))), (6, some (.int (z.2.2.1))), (7, some (.int (z.2.2.2)))] []) (kl0 : ∀ z : (Int32 × Int32 × Int32 × Int32), x = .inl z → lez h (xT2 r) (vT2 r)) (kf : ∀ z : ((Int32 × PH) ⊕ (Nat × PH)), x = .inr z → z = r) : PW E p l e (rmv 9 MC MS) s m args below meth c 11 uc us (vx_MQ below (QG E (fun v u => ∃ z, r = .inl z ∧ v = some (.int z.1) ∧ u = z.2)) (XG E (fun En u => ∃ (z : Nat × PH) (n : Nat), r = .inr z ∧ En = exn z.1 ∧ hX z.2 ≤ n ∧ u = hbump z.2 n)) args s MC MS (pA E)) h 92 [(0, some (.ref v0)), (1, some (.int v1)), (2, some (va_rf v2)), (3, some (.int v3)), (7, some (.int v7)), (9, some (.int v9)), (10, some (.int v10))] [] := by
  have hm1 : lez h (xT2 r) (vT2 r) := by
    obtain cf := mX11_nearest_b92 hf
    rcases hxx : x with zz | zz
    · exact kl0 zz hxx
    · have ee := kf zz hxx; subst ee; exact cf zz hxx
  have hcm : uc ≤ MC := (by have o0 := hm1.1; have o1 := hM; have o2 := hu; (try simp only [hX_sI, hX_sR, hX_sL, hX_sD, hX_sIa, hX_sRa, hV_sI, hV_sR, hV_sL, hV_sD, hV_sIa, hV_sRa, hX_new, hV_new] at o0 o1 o2 ⊢); omega)
  have hsm : us ≤ MS := (by have o0 := hm1.2; have o1 := hN; have o2 := hv; (try simp only [hX_sI, hX_sR, hX_sL, hX_sD, hX_sIa, hX_sRa, hV_sI, hV_sR, hV_sL, hV_sD, hV_sIa, hV_sRa, hX_new, hV_new] at o0 o1 o2 ⊢); omega)
  clear hm1
  unfold fX11_nearest_b92 at hf
  refine p_iload X (dcg dc_X11_nearest 50 rfl) rfl ?_
  refine p_istore X (dcg dc_X11_nearest 51 rfl) (by decide) rfl ?_
  refine p_iload X (dcg dc_X11_nearest 52 rfl) rfl ?_
  refine p_istore X (dcg dc_X11_nearest 53 rfl) (by decide) rfl ?_
  refine p_iload X (dcg dc_X11_nearest 54 rfl) rfl ?_
  refine p_iconst (v := 1) X (dcg dc_X11_nearest 55 rfl) (by decide) ?_
  refine p_mmax X tw_999 tw_445 tw_123 tw_446 (dcg dc_X11_nearest 56 rfl) (Nat.le_of_ble_eq_true rfl) (Nat.le_trans (Nat.add_le_add_right (room4 (Nat.le_of_ble_eq_true rfl)) 13) (Nat.le_of_ble_eq_true rfl)) hcm hsm (fun ls hl => X.2.2.1.trans hl.1.symm) ?_
  refine p_istore X (dcg dc_X11_nearest 57 rfl) (by decide) rfl ?_
  refine p_pick [0, 1, 2, 3, 4, 5, 6, 7] ?_
  exact wX11_nearest_b108 X hG hex hM hN hu hv hf k0 kl0 kf
noncomputable def fX11_nearest_c23 (v0 : Nat) (v1 : Int32) (v2 : Option Nat) (v3 : Int32) (v4 : Int32) (v5 : Int32) (v6 : Int32) (v7 : Int32) (h : PH) : Option ((Int32 × Int32 × Int32 × Int32) ⊕ ((Int32 × PH) ⊕ (Nat × PH))) :=
  if ((100 : Int32) ≤ v7) then (mr (some (.inl ((v4, h))))) else
  gd (hK h v0 = 11) (gs (hR h 11 v0 2) (fun a11 =>
  gd (hK h a11 = 26 ∧ inb v7 (hN h a11)) (if (v7 = v1) then (fX11_nearest_b108 v0 v1 v2 v3 v4 v5 v6 v7 h) else
  mq (hR h 26 a11 (Int32.toNatClampNeg v7)) (fX11_nearest_b108 v0 v1 v2 v3 v4 v5 v6 v7 h) (fun a15 =>
  gs v2 (fun a16 =>
  gd (hK h a16 = 8) (bd (fX8_countCommon a16 (some a15) h) (fun z19 =>
  gd (hK h a15 = 8) (bd (fX8_countUnlike a15 h) (fun z21 =>
  if (v4 = (-1 : Int32)) then (fX11_nearest_b92 v0 v1 (some a16) v3 v7 z19 ((v3 + z21) - z19) h) else
  if ((z19 * v6) ≤ (v5 * ((v3 + z21) - z19))) then (fX11_nearest_b108 v0 v1 (some a16) v3 v4 v5 v6 v7 h) else
  fX11_nearest_b92 v0 v1 (some a16) v3 v7 z19 ((v3 + z21) - z19) h)))))))))
set_option maxRecDepth 100000 in
theorem mX11_nearest_c23 {v0 : Nat} {v1 : Int32} {v2 : Option Nat} {v3 : Int32} {v4 : Int32} {v5 : Int32} {v6 : Int32} {v7 : Int32} {h : PH} {x : ((Int32 × Int32 × Int32 × Int32) ⊕ ((Int32 × PH) ⊕ (Nat × PH)))} (hf : fX11_nearest_c23 v0 v1 v2 v3 v4 v5 v6 v7 h = some x) : (∀ w9 : ((Int32 × PH) ⊕ (Nat × PH)), x = .inr w9 → lez h (xT2 w9) (vT2 w9)) := by
  unfold fX11_nearest_c23 at hf
  have hle := lez_rf h
  rcases ite_or hf with ⟨q, hf⟩ | ⟨q, hf⟩
  · have hf := if_t q hf
    obtain ⟨y8, hfm, rfl⟩ := mr_some hf; have hf := hfm; clear hfm
    have ee := Option.some.inj hf; subst ee
    exact (fun z e => by have ee := Sum.inr.inj (e); subst ee; exact hle)
  · have hf := if_f q hf
    obtain ⟨hk10, hf⟩ := gd_some hf
    obtain ⟨a11, e12, hf⟩ := gs_some hf
    obtain ⟨⟨hk14, hb13⟩, hf⟩ := gd_some hf
    rcases ite_or hf with ⟨q, hf⟩ | ⟨q, hf⟩
    · have hf := if_t q hf
      obtain cf := mX11_nearest_b108 hf
      exact fun z e => lez_rt (cf z (e)) hle
    · have hf := if_f q hf
      rcases mq_or hf with ⟨q, hf⟩ | ⟨a15, q, hf⟩
      · have hf := mq_n q hf
        obtain cf := mX11_nearest_b108 hf
        exact fun z e => lez_rt (cf z (e)) hle
      · have hf := mq_s q hf
        first | subst q | skip
        obtain ⟨a16, e17, hf⟩ := gs_some hf
        obtain ⟨hk18, hf⟩ := gd_some hf
        obtain ⟨z19, hz19, hf⟩ := bd_some hf
        obtain ⟨hk20, hf⟩ := gd_some hf
        obtain ⟨z21, hz21, hf⟩ := bd_some hf
        rcases ite_or hf with ⟨q, hf⟩ | ⟨q, hf⟩
        · have hf := if_t q hf
          obtain cf := mX11_nearest_b92 hf
          exact fun z e => lez_rt (cf z (e)) hle
        · have hf := if_f q hf
          rcases ite_or hf with ⟨q, hf⟩ | ⟨q, hf⟩
          · have hf := if_t q hf
            obtain cf := mX11_nearest_b108 hf
            exact fun z e => lez_rt (cf z (e)) hle
          · have hf := if_f q hf
            obtain cf := mX11_nearest_b92 hf
            exact fun z e => lez_rt (cf z (e)) hle
set_option maxRecDepth 100000 in
theorem wX11_nearest_c23 {E : PE} {p : Program} {l : Launch} {e : Env} {s : State} {m : MethodId} {args : Array Value} {below : List Frame} {meth : Method} {c : Code} {X0 V0 MC MS uc us : Nat} (X : Cx E p l e (rmv 9 MC MS) s m args below meth c RX11 cX11_nearest 11 (some .int)) (hG : Gs E l) (hex : ∀ x ∈ c.exceptionTable.toList, False) {v0 : Nat} {v1 : Int32} {v2 : Option Nat} {v3 : Int32} {v4 : Int32} {v5 : Int32} {v6 : Int32} {v7 : Int32} {h : PH} {r : ((Int32 × PH) ⊕ (Nat × PH))} {x : ((Int32 × Int32 × Int32 × Int32) ⊕ ((Int32 × PH) ⊕ (Nat × PH)))} (hM : MC + X0 = (xT2 r)) (hN : MS + V0 = (vT2 r)) (hu : uc + X0 = hX h) (hv : us + V0 = hV h) (hf : fX11_nearest_c23 v0 v1 v2 v3 v4 v5 v6 v7 h = some x) (k0 : ∀ (z : (Int32 × Int32 × Int32 × Int32)) (uc us : Nat), x = .inl z → uc + X0 = hX h → us + V0 = hV h → PW E p l e (rmv 9 MC MS) s m args below meth c 11 uc us (vx_MQ below (QG E (fun v u => ∃ z, r = .inl z ∧ v = some (.int z.1) ∧ u = z.2)) (XG E (fun En u => ∃ (z : Nat × PH) (n : Nat), r = .inr z ∧ En = exn z.1 ∧ hX z.2 ≤ n ∧ u = hbump z.2 n)) args s MC MS (pA E)) h 23 [(0, some (.ref v0)), (1, some (.int v1)), (2, some (va_rf v2)), (3, some (.int v3)), (4, some (.int (z.1))), (5, some (.int (z.2.1))), (6, some (.int (z.2.2.1))), (7, some (.int (z.2.2.2)))] []) (kl0 : ∀ z : (Int32 × Int32 × Int32 × Int32), x = .inl z → lez h (xT2 r) (vT2 r)) (kf : ∀ z : ((Int32 × PH) ⊕ (Nat × PH)), x = .inr z → z = r) : PW E p l e (rmv 9 MC MS) s m args below meth c 11 uc us (vx_MQ below (QG E (fun v u => ∃ z, r = .inl z ∧ v = some (.int z.1) ∧ u = z.2)) (XG E (fun En u => ∃ (z : Nat × PH) (n : Nat), r = .inr z ∧ En = exn z.1 ∧ hX z.2 ≤ n ∧ u = hbump z.2 n)) args s MC MS (pA E)) h 23 [(0, some (.ref v0)), (1, some (.int v1)), (2, some (va_rf v2)), (3, some (.int v3)), (4, some (.int v4)), (5, some (.int v5)), (6, some (.int v6)), (7, some (.int v7))] [] := by
  have hm1 : lez h (xT2 r) (vT2 r) := by
    obtain cf := mX11_nearest_c23 hf
    rcases hxx : x with zz | zz
    · exact kl0 zz hxx
    · have ee := kf zz hxx; subst ee; exact cf zz hxx
  have hcm : uc ≤ MC := (by have o0 := hm1.1; have o1 := hM; have o2 := hu; (try simp only [hX_sI, hX_sR, hX_sL, hX_sD, hX_sIa, hX_sRa, hV_sI, hV_sR, hV_sL, hV_sD, hV_sIa, hV_sRa, hX_new, hV_new] at o0 o1 o2 ⊢); omega)
  have hsm : us ≤ MS := (by have o0 := hm1.2; have o1 := hN; have o2 := hv; (try simp only [hX_sI, hX_sR, hX_sL, hX_sD, hX_sIa, hX_sRa, hV_sI, hV_sR, hV_sL, hV_sD, hV_sIa, hV_sRa, hX_new, hV_new] at o0 o1 o2 ⊢); omega)
  clear hm1
  unfold fX11_nearest_c23 at hf
  refine p_iload X (dcg dc_X11_nearest 15 rfl) rfl ?_
  refine p_bipush (v := 100) X (dcg dc_X11_nearest 16 rfl) (by decide) ?_
  refine p_icmp_ge (tgt := 114) X (dcg dc_X11_nearest 17 rfl) (by decide) (fun q => ?_) (fun q => ?_)
  · have hf := if_t q hf
    obtain ⟨y8, hf, hy9⟩ := mr_some hf
    have hy9f := kf y8 hy9
    subst hy9f
    refine p_iload X (dcg dc_X11_nearest 60 rfl) rfl ?_
    have er := Option.some.inj hf
    subst er
    refine p_vx ?_
    exact p_iret X rfl (dcg dc_X11_nearest 61 rfl) ⟨_, rfl, rfl, rfl⟩ hcm hsm
  · have hf := if_f q hf
    refine p_aload_n X (dcg dc_X11_nearest 18 rfl) rfl rfl ?_
    obtain ⟨hk10, hf⟩ := gd_some hf
    refine p_getR X fl_X11_27 rfl (by decide) (dcg dc_X11_nearest 19 rfl) hk10 ?_
    refine p_iload X (dcg dc_X11_nearest 20 rfl) rfl ?_
    obtain ⟨a11, e12, hf⟩ := gs_some hf
    first | subst e12 | (try rw [e12])
    obtain ⟨⟨hk14, hb13⟩, hf⟩ := gd_some hf
    refine p_aald26 X (dcg dc_X11_nearest 21 rfl) hk14 (vp_of_inb hb13) ?_
    refine p_astoreq X (dcg dc_X11_nearest 22 rfl) (by decide) rfl ?_
    refine p_iload X (dcg dc_X11_nearest 23 rfl) rfl ?_
    refine p_iload_n X (dcg dc_X11_nearest 24 rfl) rfl rfl ?_
    refine p_icmp_eq (tgt := 108) X (dcg dc_X11_nearest 25 rfl) (by decide) (fun q => ?_) (fun q => ?_)
    · have hf := if_t q hf
      refine p_pick [0, 1, 2, 3, 4, 5, 6, 7] ?_
      exact wX11_nearest_b108 X hG hex hM hN hu hv hf k0 kl0 kf
    · have hf := if_f q hf
      refine p_aloadq X (dcg dc_X11_nearest 26 rfl) rfl ?_
      refine p_ifnonnull (tgt := 53) X (dcg dc_X11_nearest 27 rfl) (by decide) (fun a15 q => ?_) (fun q => ?_)
      · have hf := mq_s q hf
        first | subst q | (try rw [q])
        refine p_aloadq_n X (dcg dc_X11_nearest 29 rfl) rfl rfl ?_
        refine p_aload X (dcg dc_X11_nearest 30 rfl) rfl ?_
        obtain ⟨a16, e17, hf⟩ := gs_some hf
        first | subst e17 | (try rw [e17])
        obtain ⟨hk18, hf⟩ := gd_some hf
        obtain ⟨z19, hz19, hf⟩ := bd_some hf
        refine p_callV (As := [va_rf (some _)]) X ml_X11_316 (dcg dc_X11_nearest 31 rfl) rfl rfl hk18 (wX8_countCommon hG hz19) (by decide) (room4 (Nat.le_of_ble_eq_true rfl)) hcm hsm ?_
        rintro _ u9 ⟨rfl, e9⟩; have e9 := e9.symm; subst e9
        refine p_istore X (dcg dc_X11_nearest 32 rfl) (by decide) rfl ?_
        refine p_iload_n X (dcg dc_X11_nearest 33 rfl) rfl rfl ?_
        refine p_aload X (dcg dc_X11_nearest 34 rfl) rfl ?_
        obtain ⟨hk20, hf⟩ := gd_some hf
        obtain ⟨z21, hz21, hf⟩ := bd_some hf
        refine p_callV (As := []) X ml_X11_313 (dcg dc_X11_nearest 35 rfl) rfl rfl hk20 (wX8_countUnlike hG hz21) (by decide) (room4 (Nat.le_of_ble_eq_true rfl)) hcm hsm ?_
        rintro _ u9 ⟨rfl, e9⟩; have e9 := e9.symm; subst e9
        refine p_iadd X (dcg dc_X11_nearest 36 rfl) ?_
        refine p_iload X (dcg dc_X11_nearest 37 rfl) rfl ?_
        refine p_isub X (dcg dc_X11_nearest 38 rfl) ?_
        refine p_istore X (dcg dc_X11_nearest 39 rfl) (by decide) rfl ?_
        refine p_iload X (dcg dc_X11_nearest 40 rfl) rfl ?_
        refine p_iconst (v := -1) X (dcg dc_X11_nearest 41 rfl) (by decide) ?_
        refine p_icmp_eq (tgt := 92) X (dcg dc_X11_nearest 42 rfl) (by decide) (fun q => ?_) (fun q => ?_)
        · have hf := if_t q hf
          refine p_pick [0, 1, 2, 3, 7, 9, 10] ?_
          exact wX11_nearest_b92 X hG hex hM hN hu hv hf k0 kl0 kf
        · have hf := if_f q hf
          refine p_iload X (dcg dc_X11_nearest 43 rfl) rfl ?_
          refine p_iload X (dcg dc_X11_nearest 44 rfl) rfl ?_
          refine p_imul X (dcg dc_X11_nearest 45 rfl) ?_
          refine p_iload X (dcg dc_X11_nearest 46 rfl) rfl ?_
          refine p_iload X (dcg dc_X11_nearest 47 rfl) rfl ?_
          refine p_imul X (dcg dc_X11_nearest 48 rfl) ?_
          refine p_icmp_le (tgt := 108) X (dcg dc_X11_nearest 49 rfl) (by decide) (fun q => ?_) (fun q => ?_)
          · have hf := if_t q hf
            refine p_pick [0, 1, 2, 3, 4, 5, 6, 7] ?_
            exact wX11_nearest_b108 X hG hex hM hN hu hv hf k0 kl0 kf
          · have hf := if_f q hf
            refine p_pick [0, 1, 2, 3, 7, 9, 10] ?_
            exact wX11_nearest_b92 X hG hex hM hN hu hv hf k0 kl0 kf
      · have hf := mq_n q hf
        first | subst q | (try rw [q])
        refine p_goto (tgt := 108) X (dcg dc_X11_nearest 28 rfl) (by decide) ?_
        refine p_pick [0, 1, 2, 3, 4, 5, 6, 7] ?_
        exact wX11_nearest_b108 X hG hex hM hN hu hv hf k0 kl0 kf
noncomputable def fX11_nearest_l23 (v0 : Nat) (v1 : Int32) (v2 : Option Nat) (v3 : Int32) (v4 : Int32) (v5 : Int32) (v6 : Int32) (v7 : Int32) (h : PH) : Option ((Int32 × PH) ⊕ (Nat × PH)) := wh (fun z : (Int32 × Int32 × Int32 × Int32) => fX11_nearest_c23 v0 v1 v2 v3 (z.1) (z.2.1) (z.2.2.1) (z.2.2.2) h) (v4, v5, v6, v7)
set_option maxRecDepth 100000 in
theorem mX11_nearest_l23 {v0 : Nat} {v1 : Int32} {v2 : Option Nat} {v3 : Int32} {v4 : Int32} {v5 : Int32} {v6 : Int32} {v7 : Int32} {h : PH} {r : ((Int32 × PH) ⊕ (Nat × PH))} (hf : fX11_nearest_l23 v0 v1 v2 v3 v4 v5 v6 v7 h = some r) : lez h (xT2 r) (vT2 r) := by
  unfold fX11_nearest_l23 at hf
  refine wh_ind (P := fun z => lez h (xT2 r) (vT2 r)) (fun z x0 hs i1 i2 => ?_) _ hf
  obtain cf := mX11_nearest_c23 (v0 := v0) (v1 := v1) (v2 := v2) (v3 := v3) (v4 := z.1) (v5 := z.2.1) (v6 := z.2.2.1) (v7 := z.2.2.2) (h := h) hs
  rcases hxx : x0 with zz | zz
  · exact (i1 zz hxx)
  · have ee := i2 zz hxx; subst ee; exact cf zz hxx
set_option maxRecDepth 100000 in
theorem wX11_nearest_l23 {E : PE} {p : Program} {l : Launch} {e : Env} {s : State} {m : MethodId} {args : Array Value} {below : List Frame} {meth : Method} {c : Code} {X0 V0 MC MS uc us : Nat} (X : Cx E p l e (rmv 9 MC MS) s m args below meth c RX11 cX11_nearest 11 (some .int)) (hG : Gs E l) (hex : ∀ x ∈ c.exceptionTable.toList, False) {v0 : Nat} {v1 : Int32} {v2 : Option Nat} {v3 : Int32} {v4 : Int32} {v5 : Int32} {v6 : Int32} {v7 : Int32} {h : PH} {r : ((Int32 × PH) ⊕ (Nat × PH))} (hM : MC + X0 = (xT2 r)) (hN : MS + V0 = (vT2 r)) (hu : uc + X0 = hX h) (hv : us + V0 = hV h) (hf : fX11_nearest_l23 v0 v1 v2 v3 v4 v5 v6 v7 h = some r)  : PW E p l e (rmv 9 MC MS) s m args below meth c 11 uc us (vx_MQ below (QG E (fun v u => ∃ z, r = .inl z ∧ v = some (.int z.1) ∧ u = z.2)) (XG E (fun En u => ∃ (z : Nat × PH) (n : Nat), r = .inr z ∧ En = exn z.1 ∧ hX z.2 ≤ n ∧ u = hbump z.2 n)) args s MC MS (pA E)) h 23 [(0, some (.ref v0)), (1, some (.int v1)), (2, some (va_rf v2)), (3, some (.int v3)), (4, some (.int v4)), (5, some (.int v5)), (6, some (.int v6)), (7, some (.int v7))] [] := by
  unfold fX11_nearest_l23 at hf
  refine wh_ind2 (P := fun z => ∀ uc us : Nat, uc + X0 = hX h → us + V0 = hV h → PW E p l e (rmv 9 MC MS) s m args below meth c 11 uc us (vx_MQ below (QG E (fun v u => ∃ z, r = .inl z ∧ v = some (.int z.1) ∧ u = z.2)) (XG E (fun En u => ∃ (z : Nat × PH) (n : Nat), r = .inr z ∧ En = exn z.1 ∧ hX z.2 ≤ n ∧ u = hbump z.2 n)) args s MC MS (pA E)) h 23 [(0, some (.ref v0)), (1, some (.int v1)), (2, some (va_rf v2)), (3, some (.int v3)), (4, some (.int (z.1))), (5, some (.int (z.2.1))), (6, some (.int (z.2.2.1))), (7, some (.int (z.2.2.2)))] []) (fun z x0 hs i1 i2 uc us hu hv => ?_) _ hf uc us hu hv
  exact wX11_nearest_c23 (r := r) (v0 := v0) (v1 := v1) (v2 := v2) (v3 := v3) (v4 := z.1) (v5 := z.2.1) (v6 := z.2.2.1) (v7 := z.2.2.2) (h := h) X hG hex hM hN hu hv hs (fun z1 uc1 us1 e1 e2 e3 => (i1 z1 e1).1 uc1 us1 e2 e3) (fun z1 e1 => mX11_nearest_l23 (v0 := v0) (v1 := v1) (v2 := v2) (v3 := v3) (v4 := z1.1) (v5 := z1.2.1) (v6 := z1.2.2.1) (v7 := z1.2.2.2) (h := h) (by unfold fX11_nearest_l23; exact (i1 z1 e1).2))  i2
noncomputable def fX11_nearest_b5 (v0 : Nat) (v1 : Int32) (t0 : Option Nat) (h : PH) : Option ((Int32 × PH) ⊕ (Nat × PH)) :=
  gs t0 (fun a4 =>
  gd (hK h a4 = 8) (bd (fX8_countUnlike a4 h) (fun z7 =>
  fX11_nearest_l23 v0 v1 (some a4) z7 (-1 : Int32) (0 : Int32) (1 : Int32) (0 : Int32) h)))
set_option maxRecDepth 100000 in
theorem mX11_nearest_b5 {v0 : Nat} {v1 : Int32} {t0 : Option Nat} {h : PH} {r : ((Int32 × PH) ⊕ (Nat × PH))} (hf : fX11_nearest_b5 v0 v1 t0 h = some r) : lez h (xT2 r) (vT2 r) := by
  unfold fX11_nearest_b5 at hf
  have hle := lez_rf h
  obtain ⟨a4, e5, hf⟩ := gs_some hf
  obtain ⟨hk6, hf⟩ := gd_some hf
  obtain ⟨z7, hz7, hf⟩ := bd_some hf
  exact lez_rt (mX11_nearest_l23 hf) hle
set_option maxRecDepth 100000 in
theorem wX11_nearest_b5 {E : PE} {p : Program} {l : Launch} {e : Env} {s : State} {m : MethodId} {args : Array Value} {below : List Frame} {meth : Method} {c : Code} {X0 V0 MC MS uc us : Nat} (X : Cx E p l e (rmv 9 MC MS) s m args below meth c RX11 cX11_nearest 11 (some .int)) (hG : Gs E l) (hex : ∀ x ∈ c.exceptionTable.toList, False) {v0 : Nat} {v1 : Int32} {t0 : Option Nat} {h : PH} {r : ((Int32 × PH) ⊕ (Nat × PH))} (hM : MC + X0 = (xT2 r)) (hN : MS + V0 = (vT2 r)) (hu : uc + X0 = hX h) (hv : us + V0 = hV h) (hf : fX11_nearest_b5 v0 v1 t0 h = some r)  : PW E p l e (rmv 9 MC MS) s m args below meth c 11 uc us (vx_MQ below (QG E (fun v u => ∃ z, r = .inl z ∧ v = some (.int z.1) ∧ u = z.2)) (XG E (fun En u => ∃ (z : Nat × PH) (n : Nat), r = .inr z ∧ En = exn z.1 ∧ hX z.2 ≤ n ∧ u = hbump z.2 n)) args s MC MS (pA E)) h 5 [(0, some (.ref v0)), (1, some (.int v1))] [va_rf t0] := by
  have hm1 : lez h (xT2 r) (vT2 r) := mX11_nearest_b5 hf
  have hcm : uc ≤ MC := (by have o0 := hm1.1; have o1 := hM; have o2 := hu; (try simp only [hX_sI, hX_sR, hX_sL, hX_sD, hX_sIa, hX_sRa, hV_sI, hV_sR, hV_sL, hV_sD, hV_sIa, hV_sRa, hX_new, hV_new] at o0 o1 o2 ⊢); omega)
  have hsm : us ≤ MS := (by have o0 := hm1.2; have o1 := hN; have o2 := hv; (try simp only [hX_sI, hX_sR, hX_sL, hX_sD, hX_sIa, hX_sRa, hV_sI, hV_sR, hV_sL, hV_sD, hV_sIa, hV_sRa, hX_new, hV_new] at o0 o1 o2 ⊢); omega)
  clear hm1
  unfold fX11_nearest_b5 at hf
  refine p_astoreq_n X (dcg dc_X11_nearest 3 rfl) rfl (by decide) rfl ?_
  refine p_aloadq_n X (dcg dc_X11_nearest 4 rfl) rfl rfl ?_
  obtain ⟨a4, e5, hf⟩ := gs_some hf
  first | subst e5 | (try rw [e5])
  obtain ⟨hk6, hf⟩ := gd_some hf
  obtain ⟨z7, hz7, hf⟩ := bd_some hf
  refine p_callV (As := []) X ml_X11_313 (dcg dc_X11_nearest 5 rfl) rfl rfl hk6 (wX8_countUnlike hG hz7) (by decide) (room4 (Nat.le_of_ble_eq_true rfl)) hcm hsm ?_
  rintro _ u9 ⟨rfl, e9⟩; have e9 := e9.symm; subst e9
  refine p_istore_n X (dcg dc_X11_nearest 6 rfl) rfl (by decide) rfl ?_
  refine p_iconst (v := -1) X (dcg dc_X11_nearest 7 rfl) (by decide) ?_
  refine p_istore X (dcg dc_X11_nearest 8 rfl) (by decide) rfl ?_
  refine p_iconst (v := 0) X (dcg dc_X11_nearest 9 rfl) (by decide) ?_
  refine p_istore X (dcg dc_X11_nearest 10 rfl) (by decide) rfl ?_
  refine p_iconst (v := 1) X (dcg dc_X11_nearest 11 rfl) (by decide) ?_
  refine p_istore X (dcg dc_X11_nearest 12 rfl) (by decide) rfl ?_
  refine p_iconst (v := 0) X (dcg dc_X11_nearest 13 rfl) (by decide) ?_
  refine p_istore X (dcg dc_X11_nearest 14 rfl) (by decide) rfl ?_
  refine p_pick [0, 1, 2, 3, 4, 5, 6, 7] ?_
  exact wX11_nearest_l23 X hG hex hM hN hu hv hf 
noncomputable def fX11_nearest_b0 (v0 : Nat) (v1 : Int32) (h : PH) : Option ((Int32 × PH) ⊕ (Nat × PH)) :=
  gd (hK h v0 = 11) (bx (fX11_demandText v0 v1 h) (fun z2 =>
  fX11_nearest_b5 v0 v1 z2.1 z2.2))
set_option maxRecDepth 100000 in
theorem mX11_nearest_b0 {v0 : Nat} {v1 : Int32} {h : PH} {r : ((Int32 × PH) ⊕ (Nat × PH))} (hf : fX11_nearest_b0 v0 v1 h = some r) : lez h (xT2 r) (vT2 r) := by
  unfold fX11_nearest_b0 at hf
  have hle := lez_rf h
  obtain ⟨hk1, hf⟩ := gd_some hf
  obtain ⟨y3, hy3, h1y3, h2y3⟩ := bx_some hf
  have hc1 := mX11_demandText hy3
  rcases y3 with z2 | z2
  · have hf := h1y3 z2 rfl
    have hle : lez h (hX z2.2) (hV z2.2) := lez_rt hc1 hle
    exact lez_rt (mX11_nearest_b5 hf) hle
  · have hr9 := h2y3 z2 rfl
    subst hr9
    exact lez_rt hc1 hle
set_option maxRecDepth 100000 in
theorem wX11_nearest_b0 {E : PE} {p : Program} {l : Launch} {e : Env} {s : State} {m : MethodId} {args : Array Value} {below : List Frame} {meth : Method} {c : Code} {X0 V0 MC MS uc us : Nat} (X : Cx E p l e (rmv 9 MC MS) s m args below meth c RX11 cX11_nearest 11 (some .int)) (hG : Gs E l) (hex : ∀ x ∈ c.exceptionTable.toList, False) {v0 : Nat} {v1 : Int32} {h : PH} {r : ((Int32 × PH) ⊕ (Nat × PH))} (hM : MC + X0 = (xT2 r)) (hN : MS + V0 = (vT2 r)) (hu : uc + X0 = hX h) (hv : us + V0 = hV h) (hf : fX11_nearest_b0 v0 v1 h = some r)  : PW E p l e (rmv 9 MC MS) s m args below meth c 11 uc us (vx_MQ below (QG E (fun v u => ∃ z, r = .inl z ∧ v = some (.int z.1) ∧ u = z.2)) (XG E (fun En u => ∃ (z : Nat × PH) (n : Nat), r = .inr z ∧ En = exn z.1 ∧ hX z.2 ≤ n ∧ u = hbump z.2 n)) args s MC MS (pA E)) h 0 [(0, some (.ref v0)), (1, some (.int v1))] [] := by
  have hm1 : lez h (xT2 r) (vT2 r) := mX11_nearest_b0 hf
  have hcm : uc ≤ MC := (by have o0 := hm1.1; have o1 := hM; have o2 := hu; (try simp only [hX_sI, hX_sR, hX_sL, hX_sD, hX_sIa, hX_sRa, hV_sI, hV_sR, hV_sL, hV_sD, hV_sIa, hV_sRa, hX_new, hV_new] at o0 o1 o2 ⊢); omega)
  have hsm : us ≤ MS := (by have o0 := hm1.2; have o1 := hN; have o2 := hv; (try simp only [hX_sI, hX_sR, hX_sL, hX_sD, hX_sIa, hX_sRa, hV_sI, hV_sR, hV_sL, hV_sD, hV_sIa, hV_sRa, hX_new, hV_new] at o0 o1 o2 ⊢); omega)
  clear hm1
  unfold fX11_nearest_b0 at hf
  refine p_aload_n X (dcg dc_X11_nearest 0 rfl) rfl rfl ?_
  refine p_iload_n X (dcg dc_X11_nearest 1 rfl) rfl rfl ?_
  obtain ⟨hk1, hf⟩ := gd_some hf
  obtain ⟨y3, hy3, h1y3, h2y3⟩ := bx_some hf
  have hc1 := mX11_demandText hy3
  rcases y3 with z2 | z2
  · have hf := h1y3 z2 rfl
    have hm1 : lez _ (xT2 r) (vT2 r) := mX11_nearest_b5 hf
    refine p_callVX (As := [_]) X hex ml_X11_119 (dcg dc_X11_nearest 2 rfl) rfl rfl hk1 (wX11_demandText hG hy3) (by decide) (room4 (Nat.le_of_ble_eq_true rfl)) (show uc + (hX z2.2 - hX h) ≤ MC from (by have o0 := hm1.1; have o1 := (show lez h (hX z2.2) (hV z2.2) from hc1).1; have o2 := hM; have o3 := hu; (try simp only [hX_sI, hX_sR, hX_sL, hX_sD, hX_sIa, hX_sRa, hV_sI, hV_sR, hV_sL, hV_sD, hV_sIa, hV_sRa, hX_new, hV_new] at o0 o1 o2 o3 ⊢); omega)) (show us + (hV z2.2 - hV h) ≤ MS from (by have o0 := hm1.2; have o1 := (show lez h (hX z2.2) (hV z2.2) from hc1).2; have o2 := hN; have o3 := hv; (try simp only [hX_sI, hX_sR, hX_sL, hX_sD, hX_sIa, hX_sRa, hV_sI, hV_sR, hV_sL, hV_sD, hV_sIa, hV_sRa, hX_new, hV_new] at o0 o1 o2 o3 ⊢); omega)) (show uc + (hX z2.2 - hX h) ≤ MC from (by have o0 := hm1.1; have o1 := (show lez h (hX z2.2) (hV z2.2) from hc1).1; have o2 := hM; have o3 := hu; (try simp only [hX_sI, hX_sR, hX_sL, hX_sD, hX_sIa, hX_sRa, hV_sI, hV_sR, hV_sL, hV_sD, hV_sIa, hV_sRa, hX_new, hV_new] at o0 o1 o2 o3 ⊢); omega)) (show us + (hV z2.2 - hV h) ≤ MS from (by have o0 := hm1.2; have o1 := (show lez h (hX z2.2) (hV z2.2) from hc1).2; have o2 := hN; have o3 := hv; (try simp only [hX_sI, hX_sR, hX_sL, hX_sD, hX_sIa, hX_sRa, hV_sI, hV_sR, hV_sL, hV_sD, hV_sIa, hV_sRa, hX_new, hV_new] at o0 o1 o2 o3 ⊢); omega)) (fun En u q => by obtain ⟨z9, n9, q9, _⟩ := q; cases q9) ?_
    rintro _ _ ⟨z9, hz9, rfl, rfl⟩
    cases hz9
    refine p_pick [0, 1] ?_
    exact wX11_nearest_b5 X hG hex hM hN (show uc + (hX z2.2 - hX h) + X0 = hX z2.2 from (by have o0 := (show lez h (hX z2.2) (hV z2.2) from hc1).1; have o1 := hu; (try simp only [hX_sI, hX_sR, hX_sL, hX_sD, hX_sIa, hX_sRa, hV_sI, hV_sR, hV_sL, hV_sD, hV_sIa, hV_sRa, hX_new, hV_new] at o0 o1 ⊢); omega)) (show us + (hV z2.2 - hV h) + V0 = hV z2.2 from (by have o0 := (show lez h (hX z2.2) (hV z2.2) from hc1).2; have o1 := hv; (try simp only [hX_sI, hX_sR, hX_sL, hX_sD, hX_sIa, hX_sRa, hV_sI, hV_sR, hV_sL, hV_sD, hV_sIa, hV_sRa, hX_new, hV_new] at o0 o1 ⊢); omega)) hf 
  · have hr9 := h2y3 z2 rfl
    subst hr9
    refine p_callVX (As := [_]) X hex ml_X11_119 (dcg dc_X11_nearest 2 rfl) rfl rfl hk1 (wX11_demandText hG hy3) (by decide) (room4 (Nat.le_of_ble_eq_true rfl)) (show uc + (hX z2.2 + 1 - hX h) ≤ MC from (by have o0 := (show lez h (hX z2.2 + 1) (hV z2.2 + 6) from hc1).1; have o1 := (show MC + X0 = hX z2.2 + 1 from hM); have o2 := hu; (try simp only [hX_sI, hX_sR, hX_sL, hX_sD, hX_sIa, hX_sRa, hV_sI, hV_sR, hV_sL, hV_sD, hV_sIa, hV_sRa, hX_new, hV_new] at o0 o1 o2 ⊢); omega)) (show us + (hV z2.2 + 6 - hV h) ≤ MS from (by have o0 := (show lez h (hX z2.2 + 1) (hV z2.2 + 6) from hc1).2; have o1 := (show MS + V0 = hV z2.2 + 6 from hN); have o2 := hv; (try simp only [hX_sI, hX_sR, hX_sL, hX_sD, hX_sIa, hX_sRa, hV_sI, hV_sR, hV_sL, hV_sD, hV_sIa, hV_sRa, hX_new, hV_new] at o0 o1 o2 ⊢); omega)) (show uc + (hX z2.2 + 1 - hX h) ≤ MC from (by have o0 := (show lez h (hX z2.2 + 1) (hV z2.2 + 6) from hc1).1; have o1 := (show MC + X0 = hX z2.2 + 1 from hM); have o2 := hu; (try simp only [hX_sI, hX_sR, hX_sL, hX_sD, hX_sIa, hX_sRa, hV_sI, hV_sR, hV_sL, hV_sD, hV_sIa, hV_sRa, hX_new, hV_new] at o0 o1 o2 ⊢); omega)) (show us + (hV z2.2 + 6 - hV h) ≤ MS from (by have o0 := (show lez h (hX z2.2 + 1) (hV z2.2 + 6) from hc1).2; have o1 := (show MS + V0 = hV z2.2 + 6 from hN); have o2 := hv; (try simp only [hX_sI, hX_sR, hX_sL, hX_sD, hX_sIa, hX_sRa, hV_sI, hV_sR, hV_sL, hV_sD, hV_sIa, hV_sRa, hX_new, hV_new] at o0 o1 o2 ⊢); omega)) (fun En u q => by obtain ⟨z9, n9, q9, q8⟩ := q; cases q9; exact ⟨_, n9, rfl, q8⟩) ?_
    rintro _ _ ⟨z9, hz9, _⟩
    cases hz9
noncomputable def fX11_nearest (v0 : Nat) (v1 : Int32) (h : PH) : Option ((Int32 × PH) ⊕ (Nat × PH)) :=
  fX11_nearest_b0 v0 v1 h
set_option maxRecDepth 100000 in
theorem mX11_nearest {v0 : Nat} {v1 : Int32} {h : PH} {r : ((Int32 × PH) ⊕ (Nat × PH))} (hf : fX11_nearest v0 v1 h = some r) : lez h (xT2 r) (vT2 r) := by
  unfold fX11_nearest at hf
  have hle := lez_rf h
  exact lez_rt (mX11_nearest_b0 hf) hle
set_option maxRecDepth 100000 in
theorem wX11_nearest {E : PE} {l : Launch} (hG : Gs E l) {v0 : Nat} {v1 : Int32} {h : PH} {r : ((Int32 × PH) ⊕ (Nat × PH))} (hf : fX11_nearest v0 v1 h = some r) : CtX E l 9 ((xT2 r) - hX h) ((vT2 r) - hV h) yX11_nearest cX11_nearest 11 (some .int) [.ref v0, .int v1] h (fun v u => ∃ z, r = .inl z ∧ v = some (.int z.1) ∧ u = z.2) (fun En u => ∃ (z : Nat × PH) (n : Nat), r = .inr z ∧ En = exn z.1 ∧ hX z.2 ≤ n ∧ u = hbump z.2 n) := by
  have hmm := mX11_nearest hf
  refine ctx_of hG (by decide) (Nat.le_of_ble_eq_true rfl) ?_
  intro p e s m args below meth c X hex
  show PW E p l e _ s m args below meth c _ 0 0 _ h 0 [(0, some (.ref v0)), (1, some (.int v1))] []
  unfold fX11_nearest at hf
  have hM := Nat.sub_add_cancel hmm.1
  have hN := Nat.sub_add_cancel hmm.2
  refine p_pick [0, 1] ?_
  exact wX11_nearest_b0 X hG hex hM hN (Nat.zero_add _) (Nat.zero_add _) hf
theorem dc_X11_meanLength : decs cX11_meanLength [(0, .iconst 0, 1), (1, .istore_n 1, 1), (2, .iconst 0, 1), (3, .istore_n 2, 1), (4, .iconst 0, 1), (5, .istore_n 3, 1), (6, .iload_n 3, 1), (7, .bipush 100, 2), (9, .if_icmp .ge 33, 3), (12, .aload_n 0, 1), (13, .getfield 27, 3), (16, .iload_n 3, 1), (17, .aaload, 1), (18, .ifnull 18, 3), (21, .iload_n 1, 1), (22, .aload_n 0, 1), (23, .getfield 27, 3), (26, .iload_n 3, 1), (27, .aaload, 1), (28, .invokevirtual 123, 3), (31, .iadd, 1), (32, .istore_n 1, 1), (33, .iinc 2 1, 3), (36, .iinc 3 1, 3), (39, .goto (-33), 3), (42, .iload_n 2, 1), (43, .ifCond .ne 7, 3), (46, .dconst 0, 1), (47, .goto 8, 3), (50, .iload_n 1, 1), (51, .i2d, 1), (52, .iload_n 2, 1), (53, .i2d, 1), (54, .ddiv, 1), (55, .dreturn, 1)] = true := by decide +kernel
noncomputable def fX11_meanLength_b55 (t0 : UInt64) (h : PH) : Option UInt64 :=
  some (t0)
set_option maxRecDepth 100000 in
theorem wX11_meanLength_b55 {E : PE} {p : Program} {l : Launch} {e : Env} {s : State} {m : MethodId} {args : Array Value} {below : List Frame} {meth : Method} {c : Code} (X : Cx E p l e (rmv 1 0 0) s m args below meth c RX11 cX11_meanLength 4 (some .double)) (hG : Gs E l) (hnm : meth.name = yX11_meanLength.name) {t0 : UInt64} {h : PH} {r : UInt64} (hf : fX11_meanLength_b55 t0 h = some r)  : PW E p l e (rmv 1 0 0) s m args below meth c 4 0 0 (MQ below (QG E (fun v u => v = some (.double r) ∧ u = h)) args s 0 0 (pA E)) h 55 [] [.double t0] := by
  unfold fX11_meanLength_b55 at hf
  have er := Option.some.inj hf
  subst er
  exact p_dret X rfl (dcg dc_X11_meanLength 34 rfl) ⟨rfl, rfl⟩ (Nat.le_refl _) (Nat.le_refl _)
noncomputable def fX11_meanLength_b36 (v0 : Nat) (v1 : Int32) (v2 : Int32) (v3 : Int32) (h : PH) : Option ((Int32 × Int32 × Int32) ⊕ UInt64) :=
  some (.inl (v1, v2, (v3 + 1)))
set_option maxRecDepth 100000 in
theorem wX11_meanLength_b36 {E : PE} {p : Program} {l : Launch} {e : Env} {s : State} {m : MethodId} {args : Array Value} {below : List Frame} {meth : Method} {c : Code} (X : Cx E p l e (rmv 1 0 0) s m args below meth c RX11 cX11_meanLength 4 (some .double)) (hG : Gs E l) (hnm : meth.name = yX11_meanLength.name) {v0 : Nat} {v1 : Int32} {v2 : Int32} {v3 : Int32} {h : PH} {r : UInt64} {x : ((Int32 × Int32 × Int32) ⊕ UInt64)} (hf : fX11_meanLength_b36 v0 v1 v2 v3 h = some x) (k0 : ∀ z : (Int32 × Int32 × Int32), x = .inl z → PW E p l e (rmv 1 0 0) s m args below meth c 4 0 0 (MQ below (QG E (fun v u => v = some (.double r) ∧ u = h)) args s 0 0 (pA E)) h 6 [(0, some (.ref v0)), (1, some (.int (z.1))), (2, some (.int (z.2.1))), (3, some (.int (z.2.2)))] []) (kf : ∀ z : UInt64, x = .inr z → z = r) : PW E p l e (rmv 1 0 0) s m args below meth c 4 0 0 (MQ below (QG E (fun v u => v = some (.double r) ∧ u = h)) args s 0 0 (pA E)) h 36 [(0, some (.ref v0)), (1, some (.int v1)), (2, some (.int v2)), (3, some (.int v3))] [] := by
  unfold fX11_meanLength_b36 at hf
  refine p_iinc (v := 1) X (dcg dc_X11_meanLength 23 rfl) rfl (by decide) (by decide) rfl ?_
  refine p_goto (tgt := 6) X (dcg dc_X11_meanLength 24 rfl) (by decide) ?_
  refine p_pick [0, 1, 2, 3] ?_
  exact k0 _ (Option.some.inj hf).symm
noncomputable def fX11_meanLength_c6 (v0 : Nat) (v1 : Int32) (v2 : Int32) (v3 : Int32) (h : PH) : Option ((Int32 × Int32 × Int32) ⊕ UInt64) :=
  if ((100 : Int32) ≤ v3) then (mr (if (¬ v2 = 0) then (gd (vf_n64 (FP.ddiv ((FP.i2d v1)) ((FP.i2d v2)))) (fX11_meanLength_b55 (FP.ddiv ((FP.i2d v1)) ((FP.i2d v2))) h)) else
  fX11_meanLength_b55 (dcn 0) h)) else
  gd (hK h v0 = 11) (gs (hR h 11 v0 2) (fun a5 =>
  gd (hK h a5 = 26 ∧ inb v3 (hN h a5)) (mq (hR h 26 a5 (Int32.toNatClampNeg v3)) (fX11_meanLength_b36 v0 v1 v2 v3 h) (fun a9 =>
  gs (hR h 11 v0 2) (fun a10 =>
  gd (hK h a10 = 26 ∧ inb v3 (hN h a10)) (gs (hR h 26 a10 (Int32.toNatClampNeg v3)) (fun a14 =>
  gd (hK h a14 = 8) (bd (fX8_size a14 h) (fun z17 =>
  fX11_meanLength_b36 v0 (v1 + z17) (v2 + 1) v3 h)))))))))
set_option maxRecDepth 100000 in
theorem wX11_meanLength_c6 {E : PE} {p : Program} {l : Launch} {e : Env} {s : State} {m : MethodId} {args : Array Value} {below : List Frame} {meth : Method} {c : Code} (X : Cx E p l e (rmv 1 0 0) s m args below meth c RX11 cX11_meanLength 4 (some .double)) (hG : Gs E l) (hnm : meth.name = yX11_meanLength.name) {v0 : Nat} {v1 : Int32} {v2 : Int32} {v3 : Int32} {h : PH} {r : UInt64} {x : ((Int32 × Int32 × Int32) ⊕ UInt64)} (hf : fX11_meanLength_c6 v0 v1 v2 v3 h = some x) (k0 : ∀ z : (Int32 × Int32 × Int32), x = .inl z → PW E p l e (rmv 1 0 0) s m args below meth c 4 0 0 (MQ below (QG E (fun v u => v = some (.double r) ∧ u = h)) args s 0 0 (pA E)) h 6 [(0, some (.ref v0)), (1, some (.int (z.1))), (2, some (.int (z.2.1))), (3, some (.int (z.2.2)))] []) (kf : ∀ z : UInt64, x = .inr z → z = r) : PW E p l e (rmv 1 0 0) s m args below meth c 4 0 0 (MQ below (QG E (fun v u => v = some (.double r) ∧ u = h)) args s 0 0 (pA E)) h 6 [(0, some (.ref v0)), (1, some (.int v1)), (2, some (.int v2)), (3, some (.int v3))] [] := by
  unfold fX11_meanLength_c6 at hf
  refine p_iload_n X (dcg dc_X11_meanLength 6 rfl) rfl rfl ?_
  refine p_bipush (v := 100) X (dcg dc_X11_meanLength 7 rfl) (by decide) ?_
  refine p_icmp_ge (tgt := 42) X (dcg dc_X11_meanLength 8 rfl) (by decide) (fun q => ?_) (fun q => ?_)
  · have hf := if_t q hf
    obtain ⟨y1, hf, hy2⟩ := mr_some hf
    have hy2f := kf y1 hy2
    subst hy2f
    refine p_iload_n X (dcg dc_X11_meanLength 25 rfl) rfl rfl ?_
    refine p_if_ne (tgt := 50) X (dcg dc_X11_meanLength 26 rfl) (by decide) (fun q => ?_) (fun q => ?_)
    · have hf := if_t q hf
      refine p_iload_n X (dcg dc_X11_meanLength 29 rfl) rfl rfl ?_
      refine p_i2d X (dcg dc_X11_meanLength 30 rfl) ?_
      refine p_iload_n X (dcg dc_X11_meanLength 31 rfl) rfl rfl ?_
      refine p_i2d X (dcg dc_X11_meanLength 32 rfl) ?_
      obtain ⟨hg3, hf⟩ := gd_some hf
      refine p_ddiv X (dcg dc_X11_meanLength 33 rfl) hg3 ?_
      refine p_pick [] ?_
      exact wX11_meanLength_b55 X hG hnm hf 
    · have hf := if_f q hf
      refine p_dconst X (dcg dc_X11_meanLength 27 rfl) ?_
      refine p_goto (tgt := 55) X (dcg dc_X11_meanLength 28 rfl) (by decide) ?_
      refine p_pick [] ?_
      exact wX11_meanLength_b55 X hG hnm hf 
  · have hf := if_f q hf
    refine p_aload_n X (dcg dc_X11_meanLength 9 rfl) rfl rfl ?_
    obtain ⟨hk4, hf⟩ := gd_some hf
    refine p_getR X fl_X11_27 rfl (by decide) (dcg dc_X11_meanLength 10 rfl) hk4 ?_
    refine p_iload_n X (dcg dc_X11_meanLength 11 rfl) rfl rfl ?_
    obtain ⟨a5, e6, hf⟩ := gs_some hf
    first | subst e6 | (try rw [e6])
    obtain ⟨⟨hk8, hb7⟩, hf⟩ := gd_some hf
    refine p_aald26 X (dcg dc_X11_meanLength 12 rfl) hk8 (vp_of_inb hb7) ?_
    refine p_ifnull (tgt := 36) X (dcg dc_X11_meanLength 13 rfl) (by decide) (fun q => ?_) (fun a9 q => ?_)
    · have hf := mq_n q hf
      first | subst q | (try rw [q])
      refine p_pick [0, 1, 2, 3] ?_
      exact wX11_meanLength_b36 X hG hnm hf k0 kf
    · have hf := mq_s q hf
      first | subst q | (try rw [q])
      refine p_iload_n X (dcg dc_X11_meanLength 14 rfl) rfl rfl ?_
      refine p_aload_n X (dcg dc_X11_meanLength 15 rfl) rfl rfl ?_
      refine p_getR X fl_X11_27 rfl (by decide) (dcg dc_X11_meanLength 16 rfl) hk4 ?_
      refine p_iload_n X (dcg dc_X11_meanLength 17 rfl) rfl rfl ?_
      obtain ⟨a10, e11, hf⟩ := gs_some hf
      first | subst e11 | (try rw [e11])
      obtain ⟨⟨hk13, hb12⟩, hf⟩ := gd_some hf
      refine p_aald26 X (dcg dc_X11_meanLength 18 rfl) hk13 (vp_of_inb hb12) ?_
      obtain ⟨a14, e15, hf⟩ := gs_some hf
      first | subst e15 | (try rw [e15])
      obtain ⟨hk16, hf⟩ := gd_some hf
      obtain ⟨z17, hz17, hf⟩ := bd_some hf
      refine p_callV (As := []) X ml_X11_123 (dcg dc_X11_meanLength 19 rfl) rfl rfl hk16 (wX8_size hG hz17) (by decide) (room4 (Nat.le_of_ble_eq_true rfl)) (Nat.le_refl _) (Nat.le_refl _) ?_
      rintro _ u9 ⟨rfl, e9⟩; have e9 := e9.symm; subst e9
      refine p_iadd X (dcg dc_X11_meanLength 20 rfl) ?_
      refine p_istore_n X (dcg dc_X11_meanLength 21 rfl) rfl (by decide) rfl ?_
      refine p_iinc (v := 1) X (dcg dc_X11_meanLength 22 rfl) rfl (by decide) (by decide) rfl ?_
      refine p_pick [0, 1, 2, 3] ?_
      exact wX11_meanLength_b36 X hG hnm hf k0 kf
noncomputable def fX11_meanLength_l6 (v0 : Nat) (v1 : Int32) (v2 : Int32) (v3 : Int32) (h : PH) : Option UInt64 := wh (fun z : (Int32 × Int32 × Int32) => fX11_meanLength_c6 v0 (z.1) (z.2.1) (z.2.2) h) (v1, v2, v3)
set_option maxRecDepth 100000 in
theorem wX11_meanLength_l6 {E : PE} {p : Program} {l : Launch} {e : Env} {s : State} {m : MethodId} {args : Array Value} {below : List Frame} {meth : Method} {c : Code} (X : Cx E p l e (rmv 1 0 0) s m args below meth c RX11 cX11_meanLength 4 (some .double)) (hG : Gs E l) (hnm : meth.name = yX11_meanLength.name) {v0 : Nat} {v1 : Int32} {v2 : Int32} {v3 : Int32} {h : PH} {r : UInt64} (hf : fX11_meanLength_l6 v0 v1 v2 v3 h = some r)  : PW E p l e (rmv 1 0 0) s m args below meth c 4 0 0 (MQ below (QG E (fun v u => v = some (.double r) ∧ u = h)) args s 0 0 (pA E)) h 6 [(0, some (.ref v0)), (1, some (.int v1)), (2, some (.int v2)), (3, some (.int v3))] [] := by
  unfold fX11_meanLength_l6 at hf
  refine wh_ind (P := fun z => PW E p l e (rmv 1 0 0) s m args below meth c 4 0 0 (MQ below (QG E (fun v u => v = some (.double r) ∧ u = h)) args s 0 0 (pA E)) h 6 [(0, some (.ref v0)), (1, some (.int (z.1))), (2, some (.int (z.2.1))), (3, some (.int (z.2.2)))] []) (fun z x0 hs i1 i2 => ?_) _ hf
  exact wX11_meanLength_c6 (r := r) (v0 := v0) (v1 := z.1) (v2 := z.2.1) (v3 := z.2.2) (h := h) X hG hnm hs i1  i2
noncomputable def fX11_meanLength (v0 : Nat) (h : PH) : Option UInt64 :=
  fX11_meanLength_l6 v0 (0 : Int32) (0 : Int32) (0 : Int32) h
set_option maxRecDepth 100000 in
theorem wX11_meanLength {E : PE} {l : Launch} (hG : Gs E l) {v0 : Nat} {h : PH} {r : UInt64} (hf : fX11_meanLength v0 h = some r) : Ct E l 1 0 0 yX11_meanLength cX11_meanLength 4 (some .double) [.ref v0] h (fun v u => v = some (.double r) ∧ u = h) := by
  refine ct_of hG (by decide) (Nat.le_of_ble_eq_true rfl) ?_
  intro p e s m args below meth c X hnm
  show PW E p l e _ s m args below meth c _ 0 0 _ h 0 [(0, some (.ref v0))] []
  unfold fX11_meanLength at hf
  refine p_iconst (v := 0) X (dcg dc_X11_meanLength 0 rfl) (by decide) ?_
  refine p_istore_n X (dcg dc_X11_meanLength 1 rfl) rfl (by decide) rfl ?_
  refine p_iconst (v := 0) X (dcg dc_X11_meanLength 2 rfl) (by decide) ?_
  refine p_istore_n X (dcg dc_X11_meanLength 3 rfl) rfl (by decide) rfl ?_
  refine p_iconst (v := 0) X (dcg dc_X11_meanLength 4 rfl) (by decide) ?_
  refine p_istore_n X (dcg dc_X11_meanLength 5 rfl) rfl (by decide) rfl ?_
  refine p_pick [0, 1, 2, 3] ?_
  exact wX11_meanLength_l6 X hG hnm hf 
theorem dc_X11_share : decs cX11_share [(0, .aload_n 0, 1), (1, .iload_n 1, 1), (2, .invokevirtual 320, 3), (5, .istore_n 2, 1), (6, .aload_n 0, 1), (7, .invokevirtual 323, 3), (10, .istore_n 3, 1), (11, .iload_n 3, 1), (12, .ifCond .ne 7, 3), (15, .fconst 0, 1), (16, .goto 8, 3), (19, .iload_n 2, 1), (20, .i2f, 1), (21, .iload_n 3, 1), (22, .i2f, 1), (23, .fdiv, 1), (24, .freturn, 1)] = true := by decide +kernel
noncomputable def fX11_share_b24 (t0 : UInt32) (h : PH) : Option ((UInt32 × PH) ⊕ (Nat × PH)) :=
  some (.inl ((t0, h)))
set_option maxRecDepth 100000 in
theorem mX11_share_b24 {t0 : UInt32} {h : PH} {r : ((UInt32 × PH) ⊕ (Nat × PH))} (hf : fX11_share_b24 t0 h = some r) : lez h (xT2 r) (vT2 r) := by
  unfold fX11_share_b24 at hf
  have hle := lez_rf h
  have ee := Option.some.inj hf; subst ee; exact hle
set_option maxRecDepth 100000 in
theorem wX11_share_b24 {E : PE} {p : Program} {l : Launch} {e : Env} {s : State} {m : MethodId} {args : Array Value} {below : List Frame} {meth : Method} {c : Code} {X0 V0 MC MS uc us : Nat} (X : Cx E p l e (rmv 10 MC MS) s m args below meth c RX11 cX11_share 4 (some .float)) (hG : Gs E l) (hex : ∀ x ∈ c.exceptionTable.toList, False) {t0 : UInt32} {h : PH} {r : ((UInt32 × PH) ⊕ (Nat × PH))} (hM : MC + X0 = (xT2 r)) (hN : MS + V0 = (vT2 r)) (hu : uc + X0 = hX h) (hv : us + V0 = hV h) (hf : fX11_share_b24 t0 h = some r)  : PW E p l e (rmv 10 MC MS) s m args below meth c 4 uc us (vx_MQ below (QG E (fun v u => ∃ z, r = .inl z ∧ v = some (.float z.1) ∧ u = z.2)) (XG E (fun En u => ∃ (z : Nat × PH) (n : Nat), r = .inr z ∧ En = exn z.1 ∧ hX z.2 ≤ n ∧ u = hbump z.2 n)) args s MC MS (pA E)) h 24 [] [.float t0] := by
  have hm1 : lez h (xT2 r) (vT2 r) := mX11_share_b24 hf
  have hcm : uc ≤ MC := (by have o0 := hm1.1; have o1 := hM; have o2 := hu; (try simp only [hX_sI, hX_sR, hX_sL, hX_sD, hX_sIa, hX_sRa, hV_sI, hV_sR, hV_sL, hV_sD, hV_sIa, hV_sRa, hX_new, hV_new] at o0 o1 o2 ⊢); omega)
  have hsm : us ≤ MS := (by have o0 := hm1.2; have o1 := hN; have o2 := hv; (try simp only [hX_sI, hX_sR, hX_sL, hX_sD, hX_sIa, hX_sRa, hV_sI, hV_sR, hV_sL, hV_sD, hV_sIa, hV_sRa, hX_new, hV_new] at o0 o1 o2 ⊢); omega)
  clear hm1
  unfold fX11_share_b24 at hf
  have er := Option.some.inj hf
  subst er
  refine p_vx ?_
  exact p_fret X rfl (dcg dc_X11_share 16 rfl) ⟨_, rfl, rfl, rfl⟩ hcm hsm
noncomputable def fX11_share_b5 (v0 : Nat) (t0 : Int32) (h : PH) : Option ((UInt32 × PH) ⊕ (Nat × PH)) :=
  gd (hK h v0 = 11) (bd (fX11_texts v0 h) (fun z5 =>
  if (¬ z5 = 0) then (gd (vf_n32 (FP.fdiv ((FP.i2f t0)) ((FP.i2f z5)))) (fX11_share_b24 (FP.fdiv ((FP.i2f t0)) ((FP.i2f z5))) h)) else
  fX11_share_b24 (fcn 0) h))
set_option maxRecDepth 100000 in
theorem mX11_share_b5 {v0 : Nat} {t0 : Int32} {h : PH} {r : ((UInt32 × PH) ⊕ (Nat × PH))} (hf : fX11_share_b5 v0 t0 h = some r) : lez h (xT2 r) (vT2 r) := by
  unfold fX11_share_b5 at hf
  have hle := lez_rf h
  obtain ⟨hk4, hf⟩ := gd_some hf
  obtain ⟨z5, hz5, hf⟩ := bd_some hf
  rcases ite_or hf with ⟨q, hf⟩ | ⟨q, hf⟩
  · have hf := if_t q hf
    obtain ⟨hg6, hf⟩ := gd_some hf
    exact lez_rt (mX11_share_b24 hf) hle
  · have hf := if_f q hf
    exact lez_rt (mX11_share_b24 hf) hle
set_option maxRecDepth 100000 in
theorem wX11_share_b5 {E : PE} {p : Program} {l : Launch} {e : Env} {s : State} {m : MethodId} {args : Array Value} {below : List Frame} {meth : Method} {c : Code} {X0 V0 MC MS uc us : Nat} (X : Cx E p l e (rmv 10 MC MS) s m args below meth c RX11 cX11_share 4 (some .float)) (hG : Gs E l) (hex : ∀ x ∈ c.exceptionTable.toList, False) {v0 : Nat} {t0 : Int32} {h : PH} {r : ((UInt32 × PH) ⊕ (Nat × PH))} (hM : MC + X0 = (xT2 r)) (hN : MS + V0 = (vT2 r)) (hu : uc + X0 = hX h) (hv : us + V0 = hV h) (hf : fX11_share_b5 v0 t0 h = some r)  : PW E p l e (rmv 10 MC MS) s m args below meth c 4 uc us (vx_MQ below (QG E (fun v u => ∃ z, r = .inl z ∧ v = some (.float z.1) ∧ u = z.2)) (XG E (fun En u => ∃ (z : Nat × PH) (n : Nat), r = .inr z ∧ En = exn z.1 ∧ hX z.2 ≤ n ∧ u = hbump z.2 n)) args s MC MS (pA E)) h 5 [(0, some (.ref v0))] [.int t0] := by
  have hm1 : lez h (xT2 r) (vT2 r) := mX11_share_b5 hf
  have hcm : uc ≤ MC := (by have o0 := hm1.1; have o1 := hM; have o2 := hu; (try simp only [hX_sI, hX_sR, hX_sL, hX_sD, hX_sIa, hX_sRa, hV_sI, hV_sR, hV_sL, hV_sD, hV_sIa, hV_sRa, hX_new, hV_new] at o0 o1 o2 ⊢); omega)
  have hsm : us ≤ MS := (by have o0 := hm1.2; have o1 := hN; have o2 := hv; (try simp only [hX_sI, hX_sR, hX_sL, hX_sD, hX_sIa, hX_sRa, hV_sI, hV_sR, hV_sL, hV_sD, hV_sIa, hV_sRa, hX_new, hV_new] at o0 o1 o2 ⊢); omega)
  clear hm1
  unfold fX11_share_b5 at hf
  refine p_istore_n X (dcg dc_X11_share 3 rfl) rfl (by decide) rfl ?_
  refine p_aload_n X (dcg dc_X11_share 4 rfl) rfl rfl ?_
  obtain ⟨hk4, hf⟩ := gd_some hf
  obtain ⟨z5, hz5, hf⟩ := bd_some hf
  refine p_callV (As := []) X ml_X11_323 (dcg dc_X11_share 5 rfl) rfl rfl hk4 (wX11_texts hG hz5) (by decide) (room4 (Nat.le_of_ble_eq_true rfl)) hcm hsm ?_
  rintro _ u9 ⟨rfl, e9⟩; have e9 := e9.symm; subst e9
  refine p_istore_n X (dcg dc_X11_share 6 rfl) rfl (by decide) rfl ?_
  refine p_iload_n X (dcg dc_X11_share 7 rfl) rfl rfl ?_
  refine p_if_ne (tgt := 19) X (dcg dc_X11_share 8 rfl) (by decide) (fun q => ?_) (fun q => ?_)
  · have hf := if_t q hf
    refine p_iload_n X (dcg dc_X11_share 11 rfl) rfl rfl ?_
    refine p_i2f X (dcg dc_X11_share 12 rfl) ?_
    refine p_iload_n X (dcg dc_X11_share 13 rfl) rfl rfl ?_
    refine p_i2f X (dcg dc_X11_share 14 rfl) ?_
    obtain ⟨hg6, hf⟩ := gd_some hf
    refine p_fdiv X (dcg dc_X11_share 15 rfl) hg6 ?_
    refine p_pick [] ?_
    exact wX11_share_b24 X hG hex hM hN hu hv hf 
  · have hf := if_f q hf
    refine p_fconst X (dcg dc_X11_share 9 rfl) ?_
    refine p_goto (tgt := 24) X (dcg dc_X11_share 10 rfl) (by decide) ?_
    refine p_pick [] ?_
    exact wX11_share_b24 X hG hex hM hN hu hv hf 
noncomputable def fX11_share_b0 (v0 : Nat) (v1 : Int32) (h : PH) : Option ((UInt32 × PH) ⊕ (Nat × PH)) :=
  gd (hK h v0 = 11) (bx (fX11_textsWith v0 v1 h) (fun z2 =>
  fX11_share_b5 v0 z2.1 z2.2))
set_option maxRecDepth 100000 in
theorem mX11_share_b0 {v0 : Nat} {v1 : Int32} {h : PH} {r : ((UInt32 × PH) ⊕ (Nat × PH))} (hf : fX11_share_b0 v0 v1 h = some r) : lez h (xT2 r) (vT2 r) := by
  unfold fX11_share_b0 at hf
  have hle := lez_rf h
  obtain ⟨hk1, hf⟩ := gd_some hf
  obtain ⟨y3, hy3, h1y3, h2y3⟩ := bx_some hf
  have hc1 := mX11_textsWith hy3
  rcases y3 with z2 | z2
  · have hf := h1y3 z2 rfl
    have hle : lez h (hX z2.2) (hV z2.2) := lez_rt hc1 hle
    exact lez_rt (mX11_share_b5 hf) hle
  · have hr9 := h2y3 z2 rfl
    subst hr9
    exact lez_rt hc1 hle
set_option maxRecDepth 100000 in
theorem wX11_share_b0 {E : PE} {p : Program} {l : Launch} {e : Env} {s : State} {m : MethodId} {args : Array Value} {below : List Frame} {meth : Method} {c : Code} {X0 V0 MC MS uc us : Nat} (X : Cx E p l e (rmv 10 MC MS) s m args below meth c RX11 cX11_share 4 (some .float)) (hG : Gs E l) (hex : ∀ x ∈ c.exceptionTable.toList, False) {v0 : Nat} {v1 : Int32} {h : PH} {r : ((UInt32 × PH) ⊕ (Nat × PH))} (hM : MC + X0 = (xT2 r)) (hN : MS + V0 = (vT2 r)) (hu : uc + X0 = hX h) (hv : us + V0 = hV h) (hf : fX11_share_b0 v0 v1 h = some r)  : PW E p l e (rmv 10 MC MS) s m args below meth c 4 uc us (vx_MQ below (QG E (fun v u => ∃ z, r = .inl z ∧ v = some (.float z.1) ∧ u = z.2)) (XG E (fun En u => ∃ (z : Nat × PH) (n : Nat), r = .inr z ∧ En = exn z.1 ∧ hX z.2 ≤ n ∧ u = hbump z.2 n)) args s MC MS (pA E)) h 0 [(0, some (.ref v0)), (1, some (.int v1))] [] := by
  have hm1 : lez h (xT2 r) (vT2 r) := mX11_share_b0 hf
  have hcm : uc ≤ MC := (by have o0 := hm1.1; have o1 := hM; have o2 := hu; (try simp only [hX_sI, hX_sR, hX_sL, hX_sD, hX_sIa, hX_sRa, hV_sI, hV_sR, hV_sL, hV_sD, hV_sIa, hV_sRa, hX_new, hV_new] at o0 o1 o2 ⊢); omega)
  have hsm : us ≤ MS := (by have o0 := hm1.2; have o1 := hN; have o2 := hv; (try simp only [hX_sI, hX_sR, hX_sL, hX_sD, hX_sIa, hX_sRa, hV_sI, hV_sR, hV_sL, hV_sD, hV_sIa, hV_sRa, hX_new, hV_new] at o0 o1 o2 ⊢); omega)
  clear hm1
  unfold fX11_share_b0 at hf
  refine p_aload_n X (dcg dc_X11_share 0 rfl) rfl rfl ?_
  refine p_iload_n X (dcg dc_X11_share 1 rfl) rfl rfl ?_
  obtain ⟨hk1, hf⟩ := gd_some hf
  obtain ⟨y3, hy3, h1y3, h2y3⟩ := bx_some hf
  have hc1 := mX11_textsWith hy3
  rcases y3 with z2 | z2
  · have hf := h1y3 z2 rfl
    have hm1 : lez _ (xT2 r) (vT2 r) := mX11_share_b5 hf
    refine p_callVX (As := [_]) X hex ml_X11_320 (dcg dc_X11_share 2 rfl) rfl rfl hk1 (wX11_textsWith hG hy3) (by decide) (room4 (Nat.le_of_ble_eq_true rfl)) (show uc + (hX z2.2 - hX h) ≤ MC from (by have o0 := hm1.1; have o1 := (show lez h (hX z2.2) (hV z2.2) from hc1).1; have o2 := hM; have o3 := hu; (try simp only [hX_sI, hX_sR, hX_sL, hX_sD, hX_sIa, hX_sRa, hV_sI, hV_sR, hV_sL, hV_sD, hV_sIa, hV_sRa, hX_new, hV_new] at o0 o1 o2 o3 ⊢); omega)) (show us + (hV z2.2 - hV h) ≤ MS from (by have o0 := hm1.2; have o1 := (show lez h (hX z2.2) (hV z2.2) from hc1).2; have o2 := hN; have o3 := hv; (try simp only [hX_sI, hX_sR, hX_sL, hX_sD, hX_sIa, hX_sRa, hV_sI, hV_sR, hV_sL, hV_sD, hV_sIa, hV_sRa, hX_new, hV_new] at o0 o1 o2 o3 ⊢); omega)) (show uc + (hX z2.2 - hX h) ≤ MC from (by have o0 := hm1.1; have o1 := (show lez h (hX z2.2) (hV z2.2) from hc1).1; have o2 := hM; have o3 := hu; (try simp only [hX_sI, hX_sR, hX_sL, hX_sD, hX_sIa, hX_sRa, hV_sI, hV_sR, hV_sL, hV_sD, hV_sIa, hV_sRa, hX_new, hV_new] at o0 o1 o2 o3 ⊢); omega)) (show us + (hV z2.2 - hV h) ≤ MS from (by have o0 := hm1.2; have o1 := (show lez h (hX z2.2) (hV z2.2) from hc1).2; have o2 := hN; have o3 := hv; (try simp only [hX_sI, hX_sR, hX_sL, hX_sD, hX_sIa, hX_sRa, hV_sI, hV_sR, hV_sL, hV_sD, hV_sIa, hV_sRa, hX_new, hV_new] at o0 o1 o2 o3 ⊢); omega)) (fun En u q => by obtain ⟨z9, n9, q9, _⟩ := q; cases q9) ?_
    rintro _ _ ⟨z9, hz9, rfl, rfl⟩
    cases hz9
    refine p_pick [0] ?_
    exact wX11_share_b5 X hG hex hM hN (show uc + (hX z2.2 - hX h) + X0 = hX z2.2 from (by have o0 := (show lez h (hX z2.2) (hV z2.2) from hc1).1; have o1 := hu; (try simp only [hX_sI, hX_sR, hX_sL, hX_sD, hX_sIa, hX_sRa, hV_sI, hV_sR, hV_sL, hV_sD, hV_sIa, hV_sRa, hX_new, hV_new] at o0 o1 ⊢); omega)) (show us + (hV z2.2 - hV h) + V0 = hV z2.2 from (by have o0 := (show lez h (hX z2.2) (hV z2.2) from hc1).2; have o1 := hv; (try simp only [hX_sI, hX_sR, hX_sL, hX_sD, hX_sIa, hX_sRa, hV_sI, hV_sR, hV_sL, hV_sD, hV_sIa, hV_sRa, hX_new, hV_new] at o0 o1 ⊢); omega)) hf 
  · have hr9 := h2y3 z2 rfl
    subst hr9
    refine p_callVX (As := [_]) X hex ml_X11_320 (dcg dc_X11_share 2 rfl) rfl rfl hk1 (wX11_textsWith hG hy3) (by decide) (room4 (Nat.le_of_ble_eq_true rfl)) (show uc + (hX z2.2 + 1 - hX h) ≤ MC from (by have o0 := (show lez h (hX z2.2 + 1) (hV z2.2 + 6) from hc1).1; have o1 := (show MC + X0 = hX z2.2 + 1 from hM); have o2 := hu; (try simp only [hX_sI, hX_sR, hX_sL, hX_sD, hX_sIa, hX_sRa, hV_sI, hV_sR, hV_sL, hV_sD, hV_sIa, hV_sRa, hX_new, hV_new] at o0 o1 o2 ⊢); omega)) (show us + (hV z2.2 + 6 - hV h) ≤ MS from (by have o0 := (show lez h (hX z2.2 + 1) (hV z2.2 + 6) from hc1).2; have o1 := (show MS + V0 = hV z2.2 + 6 from hN); have o2 := hv; (try simp only [hX_sI, hX_sR, hX_sL, hX_sD, hX_sIa, hX_sRa, hV_sI, hV_sR, hV_sL, hV_sD, hV_sIa, hV_sRa, hX_new, hV_new] at o0 o1 o2 ⊢); omega)) (show uc + (hX z2.2 + 1 - hX h) ≤ MC from (by have o0 := (show lez h (hX z2.2 + 1) (hV z2.2 + 6) from hc1).1; have o1 := (show MC + X0 = hX z2.2 + 1 from hM); have o2 := hu; (try simp only [hX_sI, hX_sR, hX_sL, hX_sD, hX_sIa, hX_sRa, hV_sI, hV_sR, hV_sL, hV_sD, hV_sIa, hV_sRa, hX_new, hV_new] at o0 o1 o2 ⊢); omega)) (show us + (hV z2.2 + 6 - hV h) ≤ MS from (by have o0 := (show lez h (hX z2.2 + 1) (hV z2.2 + 6) from hc1).2; have o1 := (show MS + V0 = hV z2.2 + 6 from hN); have o2 := hv; (try simp only [hX_sI, hX_sR, hX_sL, hX_sD, hX_sIa, hX_sRa, hV_sI, hV_sR, hV_sL, hV_sD, hV_sIa, hV_sRa, hX_new, hV_new] at o0 o1 o2 ⊢); omega)) (fun En u q => by obtain ⟨z9, n9, q9, q8⟩ := q; cases q9; exact ⟨_, n9, rfl, q8⟩) ?_
    rintro _ _ ⟨z9, hz9, _⟩
    cases hz9
noncomputable def fX11_share (v0 : Nat) (v1 : Int32) (h : PH) : Option ((UInt32 × PH) ⊕ (Nat × PH)) :=
  fX11_share_b0 v0 v1 h
set_option maxRecDepth 100000 in
theorem mX11_share {v0 : Nat} {v1 : Int32} {h : PH} {r : ((UInt32 × PH) ⊕ (Nat × PH))} (hf : fX11_share v0 v1 h = some r) : lez h (xT2 r) (vT2 r) := by
  unfold fX11_share at hf
  have hle := lez_rf h
  exact lez_rt (mX11_share_b0 hf) hle
set_option maxRecDepth 100000 in
theorem wX11_share {E : PE} {l : Launch} (hG : Gs E l) {v0 : Nat} {v1 : Int32} {h : PH} {r : ((UInt32 × PH) ⊕ (Nat × PH))} (hf : fX11_share v0 v1 h = some r) : CtX E l 10 ((xT2 r) - hX h) ((vT2 r) - hV h) yX11_share cX11_share 4 (some .float) [.ref v0, .int v1] h (fun v u => ∃ z, r = .inl z ∧ v = some (.float z.1) ∧ u = z.2) (fun En u => ∃ (z : Nat × PH) (n : Nat), r = .inr z ∧ En = exn z.1 ∧ hX z.2 ≤ n ∧ u = hbump z.2 n) := by
  have hmm := mX11_share hf
  refine ctx_of hG (by decide) (Nat.le_of_ble_eq_true rfl) ?_
  intro p e s m args below meth c X hex
  show PW E p l e _ s m args below meth c _ 0 0 _ h 0 [(0, some (.ref v0)), (1, some (.int v1))] []
  unfold fX11_share at hf
  have hM := Nat.sub_add_cancel hmm.1
  have hN := Nat.sub_add_cancel hmm.2
  refine p_pick [0, 1] ?_
  exact wX11_share_b0 X hG hex hM hN (Nat.zero_add _) (Nat.zero_add _) hf
theorem dc_X11_isFoundWrongly : decs cX11_isFoundWrongly [(0, .iconst 0, 1), (1, .istore_n 2, 1), (2, .iload_n 2, 1), (3, .bipush 100, 2), (5, .if_icmp .ge 35, 3), (8, .aload_n 0, 1), (9, .getfield 53, 3), (12, .iload_n 1, 1), (13, .aaload, 1), (14, .iload_n 2, 1), (15, .invokevirtual 203, 3), (18, .aload_n 0, 1), (19, .aload_n 0, 1), (20, .getfield 47, 3), (23, .iload_n 1, 1), (24, .aaload, 1), (25, .iload_n 2, 1), (26, .invokevirtual 343, 3), (29, .if_icmp .eq 5, 3), (32, .iconst 1, 1), (33, .ireturn, 1), (34, .iinc 2 1, 3), (37, .goto (-35), 3), (40, .iconst 0, 1), (41, .ireturn, 1)] = true := by decide +kernel
noncomputable def fX11_isFoundWrongly_c2 (v0 : Nat) (v1 : Int32) (v2 : Int32) (h : PH) : Option ((Int32) ⊕ Int32) :=
  if ((100 : Int32) ≤ v2) then (mr (some ((0 : Int32)))) else
  gd (hK h v0 = 11) (gs (hR h 11 v0 6) (fun a4 =>
  gd (hK h a4 = 27 ∧ inb v1 (hN h a4)) (gs (hR h 27 a4 (Int32.toNatClampNeg v1)) (fun a8 =>
  gd (hK h a8 = 9) (bd (fX9_has a8 v2 h) (fun z11 =>
  gs (hR h 11 v0 5) (fun a12 =>
  gd (hK h a12 = 25 ∧ inb v1 (hN h a12)) (bd (fX11_isSatisfied v0 (hR h 25 a12 (Int32.toNatClampNeg v1)) v2 h) (fun z16 =>
  if (z11 = z16) then (some (.inl ((v2 + 1)))) else
  mr (some ((1 : Int32))))))))))))
set_option maxRecDepth 100000 in
theorem wX11_isFoundWrongly_c2 {E : PE} {p : Program} {l : Launch} {e : Env} {s : State} {m : MethodId} {args : Array Value} {below : List Frame} {meth : Method} {c : Code} (X : Cx E p l e (rmv 49 0 0) s m args below meth c RX11 cX11_isFoundWrongly 3 (some .boolean)) (hG : Gs E l) (hnm : meth.name = yX11_isFoundWrongly.name) {v0 : Nat} {v1 : Int32} {v2 : Int32} {h : PH} {r : Int32} {x : ((Int32) ⊕ Int32)} (hf : fX11_isFoundWrongly_c2 v0 v1 v2 h = some x) (k0 : ∀ z : (Int32), x = .inl z → PW E p l e (rmv 49 0 0) s m args below meth c 3 0 0 (MQ below (QG E (fun v u => v = some (.int r) ∧ u = h)) args s 0 0 (pA E)) h 2 [(0, some (.ref v0)), (1, some (.int v1)), (2, some (.int (z)))] []) (kf : ∀ z : Int32, x = .inr z → z = r) : PW E p l e (rmv 49 0 0) s m args below meth c 3 0 0 (MQ below (QG E (fun v u => v = some (.int r) ∧ u = h)) args s 0 0 (pA E)) h 2 [(0, some (.ref v0)), (1, some (.int v1)), (2, some (.int v2))] [] := by
  unfold fX11_isFoundWrongly_c2 at hf
  refine p_iload_n X (dcg dc_X11_isFoundWrongly 2 rfl) rfl rfl ?_
  refine p_bipush (v := 100) X (dcg dc_X11_isFoundWrongly 3 rfl) (by decide) ?_
  refine p_icmp_ge (tgt := 40) X (dcg dc_X11_isFoundWrongly 4 rfl) (by decide) (fun q => ?_) (fun q => ?_)
  · have hf := if_t q hf
    obtain ⟨y1, hf, hy2⟩ := mr_some hf
    have hy2f := kf y1 hy2
    subst hy2f
    refine p_iconst (v := 0) X (dcg dc_X11_isFoundWrongly 23 rfl) (by decide) ?_
    have er := Option.some.inj hf
    subst er
    exact p_zret X rfl rfl (dcg dc_X11_isFoundWrongly 24 rfl) ⟨rfl, rfl⟩ (Nat.le_refl _) (Nat.le_refl _)
  · have hf := if_f q hf
    refine p_aload_n X (dcg dc_X11_isFoundWrongly 5 rfl) rfl rfl ?_
    obtain ⟨hk3, hf⟩ := gd_some hf
    refine p_getR X fl_X11_53 rfl (by decide) (dcg dc_X11_isFoundWrongly 6 rfl) hk3 ?_
    refine p_iload_n X (dcg dc_X11_isFoundWrongly 7 rfl) rfl rfl ?_
    obtain ⟨a4, e5, hf⟩ := gs_some hf
    first | subst e5 | (try rw [e5])
    obtain ⟨⟨hk7, hb6⟩, hf⟩ := gd_some hf
    refine p_aald27 X (dcg dc_X11_isFoundWrongly 8 rfl) hk7 (vp_of_inb hb6) ?_
    refine p_iload_n X (dcg dc_X11_isFoundWrongly 9 rfl) rfl rfl ?_
    obtain ⟨a8, e9, hf⟩ := gs_some hf
    first | subst e9 | (try rw [e9])
    obtain ⟨hk10, hf⟩ := gd_some hf
    obtain ⟨z11, hz11, hf⟩ := bd_some hf
    refine p_callV (As := [_]) X ml_X11_203 (dcg dc_X11_isFoundWrongly 10 rfl) rfl rfl hk10 (wX9_has hG hz11) (by decide) (room4 (Nat.le_of_ble_eq_true rfl)) (Nat.le_refl _) (Nat.le_refl _) ?_
    rintro _ u9 ⟨rfl, e9⟩; have e9 := e9.symm; subst e9
    refine p_aload_n X (dcg dc_X11_isFoundWrongly 11 rfl) rfl rfl ?_
    refine p_aload_n X (dcg dc_X11_isFoundWrongly 12 rfl) rfl rfl ?_
    refine p_getR X fl_X11_47 rfl (by decide) (dcg dc_X11_isFoundWrongly 13 rfl) hk3 ?_
    refine p_iload_n X (dcg dc_X11_isFoundWrongly 14 rfl) rfl rfl ?_
    obtain ⟨a12, e13, hf⟩ := gs_some hf
    first | subst e13 | (try rw [e13])
    obtain ⟨⟨hk15, hb14⟩, hf⟩ := gd_some hf
    refine p_aald25 X (dcg dc_X11_isFoundWrongly 15 rfl) hk15 (vp_of_inb hb14) ?_
    refine p_iload_n X (dcg dc_X11_isFoundWrongly 16 rfl) rfl rfl ?_
    obtain ⟨z16, hz16, hf⟩ := bd_some hf
    refine p_callV (As := [va_rf _, _]) X ml_X11_343 (dcg dc_X11_isFoundWrongly 17 rfl) rfl rfl hk3 (wX11_isSatisfied hG hz16) (by decide) (room4 (Nat.le_of_ble_eq_true rfl)) (Nat.le_refl _) (Nat.le_refl _) ?_
    rintro _ u9 ⟨rfl, e9⟩; have e9 := e9.symm; subst e9
    refine p_icmp_eq (tgt := 34) X (dcg dc_X11_isFoundWrongly 18 rfl) (by decide) (fun q => ?_) (fun q => ?_)
    · have hf := if_t q hf
      refine p_iinc (v := 1) X (dcg dc_X11_isFoundWrongly 21 rfl) rfl (by decide) (by decide) rfl ?_
      refine p_goto (tgt := 2) X (dcg dc_X11_isFoundWrongly 22 rfl) (by decide) ?_
      refine p_pick [0, 1, 2] ?_
      exact k0 _ (Option.some.inj hf).symm
    · have hf := if_f q hf
      obtain ⟨y17, hf, hy18⟩ := mr_some hf
      have hy18f := kf y17 hy18
      subst hy18f
      refine p_iconst (v := 1) X (dcg dc_X11_isFoundWrongly 19 rfl) (by decide) ?_
      have er := Option.some.inj hf
      subst er
      exact p_zret X rfl rfl (dcg dc_X11_isFoundWrongly 20 rfl) ⟨rfl, rfl⟩ (Nat.le_refl _) (Nat.le_refl _)
noncomputable def fX11_isFoundWrongly_l2 (v0 : Nat) (v1 : Int32) (v2 : Int32) (h : PH) : Option Int32 := wh (fun z : (Int32) => fX11_isFoundWrongly_c2 v0 v1 (z) h) (v2)
set_option maxRecDepth 100000 in
theorem wX11_isFoundWrongly_l2 {E : PE} {p : Program} {l : Launch} {e : Env} {s : State} {m : MethodId} {args : Array Value} {below : List Frame} {meth : Method} {c : Code} (X : Cx E p l e (rmv 49 0 0) s m args below meth c RX11 cX11_isFoundWrongly 3 (some .boolean)) (hG : Gs E l) (hnm : meth.name = yX11_isFoundWrongly.name) {v0 : Nat} {v1 : Int32} {v2 : Int32} {h : PH} {r : Int32} (hf : fX11_isFoundWrongly_l2 v0 v1 v2 h = some r)  : PW E p l e (rmv 49 0 0) s m args below meth c 3 0 0 (MQ below (QG E (fun v u => v = some (.int r) ∧ u = h)) args s 0 0 (pA E)) h 2 [(0, some (.ref v0)), (1, some (.int v1)), (2, some (.int v2))] [] := by
  unfold fX11_isFoundWrongly_l2 at hf
  refine wh_ind (P := fun z => PW E p l e (rmv 49 0 0) s m args below meth c 3 0 0 (MQ below (QG E (fun v u => v = some (.int r) ∧ u = h)) args s 0 0 (pA E)) h 2 [(0, some (.ref v0)), (1, some (.int v1)), (2, some (.int (z)))] []) (fun z x0 hs i1 i2 => ?_) _ hf
  exact wX11_isFoundWrongly_c2 (r := r) (v0 := v0) (v1 := v1) (v2 := z) (h := h) X hG hnm hs i1  i2
noncomputable def fX11_isFoundWrongly (v0 : Nat) (v1 : Int32) (h : PH) : Option Int32 :=
  fX11_isFoundWrongly_l2 v0 v1 (0 : Int32) h
set_option maxRecDepth 100000 in
theorem wX11_isFoundWrongly {E : PE} {l : Launch} (hG : Gs E l) {v0 : Nat} {v1 : Int32} {h : PH} {r : Int32} (hf : fX11_isFoundWrongly v0 v1 h = some r) : Ct E l 49 0 0 yX11_isFoundWrongly cX11_isFoundWrongly 3 (some .boolean) [.ref v0, .int v1] h (fun v u => v = some (.int r) ∧ u = h) := by
  refine ct_of hG (by decide) (Nat.le_of_ble_eq_true rfl) ?_
  intro p e s m args below meth c X hnm
  show PW E p l e _ s m args below meth c _ 0 0 _ h 0 [(0, some (.ref v0)), (1, some (.int v1))] []
  unfold fX11_isFoundWrongly at hf
  refine p_iconst (v := 0) X (dcg dc_X11_isFoundWrongly 0 rfl) (by decide) ?_
  refine p_istore_n X (dcg dc_X11_isFoundWrongly 1 rfl) rfl (by decide) rfl ?_
  refine p_pick [0, 1, 2] ?_
  exact wX11_isFoundWrongly_l2 X hG hnm hf 
