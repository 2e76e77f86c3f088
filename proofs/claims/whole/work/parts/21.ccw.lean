/-! methods of the program (by program: wip/whole/gen2.py) -/
theorem dc_X5_latestSlot : decs cX5_latestSlot [(0, .aload_n 0, 1), (1, .getfield 23, 3), (4, .aload_n 0, 1), (5, .getfield 19, 3), (8, .iconst 1, 1), (9, .invokestatic 30, 3), (12, .iadd, 1), (13, .iconst 1, 1), (14, .isub, 1), (15, .bipush 20, 2), (17, .irem, 1), (18, .ireturn, 1)] = true := by decide +kernel
noncomputable def fX5_latestSlot (v0 : Nat) (h : PH) : Option Int32 :=
  gd (hK h v0 = 5) (some (((((hI h 5 v0 2) + (if (hI h 5 v0 3) < (1 : Int32) then (1 : Int32) else (hI h 5 v0 3))) - (1 : Int32)) - (((hI h 5 v0 2) + (if (hI h 5 v0 3) < (1 : Int32) then (1 : Int32) else (hI h 5 v0 3))) - (1 : Int32)) / (20 : Int32) * (20 : Int32))))
set_option maxRecDepth 100000 in
theorem wX5_latestSlot {E : PE} {l : Launch} (hG : Gs E l) {v0 : Nat} {h : PH} {r : Int32} (hf : fX5_latestSlot v0 h = some r) : Ct E l 1 0 0 yX5_latestSlot cX5_latestSlot 1 (some .int) [.ref v0] h (fun v u => v = some (.int r) ∧ u = h) := by
  refine ct_of hG (by decide) (Nat.le_of_ble_eq_true rfl) ?_
  intro p e s m args below meth c X hnm
  show PW E p l e _ s m args below meth c _ 0 0 _ h 0 [(0, some (.ref v0))] []
  unfold fX5_latestSlot at hf
  refine p_aload_n X (dcg dc_X5_latestSlot 0 rfl) rfl rfl ?_
  obtain ⟨hk1, hf⟩ := gd_some hf
  refine p_getI X fl_X5_23 rfl (by decide) (dcg dc_X5_latestSlot 1 rfl) hk1 ?_
  refine p_aload_n X (dcg dc_X5_latestSlot 2 rfl) rfl rfl ?_
  refine p_getI X fl_X5_19 rfl (by decide) (dcg dc_X5_latestSlot 3 rfl) hk1 ?_
  refine p_iconst (v := 1) X (dcg dc_X5_latestSlot 4 rfl) (by decide) ?_
  refine p_mmax X tw_444 tw_445 tw_123 tw_446 (dcg dc_X5_latestSlot 5 rfl) (Nat.le_of_ble_eq_true rfl) (Nat.le_trans (Nat.add_le_add_right (room4 (Nat.le_of_ble_eq_true rfl)) 13) (Nat.le_of_ble_eq_true rfl)) (Nat.le_refl _) (Nat.le_refl _) (fun ls hl => X.2.2.1.trans hl.1.symm) ?_
  refine p_iadd X (dcg dc_X5_latestSlot 6 rfl) ?_
  refine p_iconst (v := 1) X (dcg dc_X5_latestSlot 7 rfl) (by decide) ?_
  refine p_isub X (dcg dc_X5_latestSlot 8 rfl) ?_
  refine p_bipush (v := 20) X (dcg dc_X5_latestSlot 9 rfl) (by decide) ?_
  refine p_irem X (dcg dc_X5_latestSlot 10 rfl) (by decide) ?_
  have er := Option.some.inj hf
  subst er
  exact p_iret X rfl (dcg dc_X5_latestSlot 11 rfl) ⟨rfl, rfl⟩ (Nat.le_refl _) (Nat.le_refl _)
theorem dc_X5_remember : decs cX5_remember [(0, .aload_n 0, 1), (1, .getfield 19, 3), (4, .bipush 20, 2), (6, .if_icmp .ne 26, 3), (9, .aload_n 0, 1), (10, .aload_n 0, 1), (11, .getfield 23, 3), (14, .iconst 1, 1), (15, .iadd, 1), (16, .bipush 20, 2), (18, .irem, 1), (19, .putfield 23, 3), (22, .aload_n 0, 1), (23, .dup, 1), (24, .getfield 19, 3), (27, .iconst 1, 1), (28, .isub, 1), (29, .putfield 19, 3), (32, .aload_n 0, 1), (33, .dup, 1), (34, .getfield 19, 3), (37, .iconst 1, 1), (38, .iadd, 1), (39, .putfield 19, 3), (42, .aload_n 0, 1), (43, .getfield 9, 3), (46, .aload_n 0, 1), (47, .invokevirtual 26, 3), (50, .iload_n 1, 1), (51, .iastore, 1), (52, .aload_n 0, 1), (53, .getfield 15, 3), (56, .aload_n 0, 1), (57, .invokevirtual 26, 3), (60, .aload_n 2, 1), (61, .aastore, 1), (62, .return_, 1)] = true := by decide +kernel
noncomputable def fX5_remember_b32 (v0 : Nat) (v1 : Int32) (v2 : Option Nat) (h : PH) : Option PH :=
  gd (hK h v0 = 5) (lt (sI h 5 v0 3 ((hI h 5 v0 3) + (1 : Int32))) (fun h3 =>
  bd (fX5_latestSlot v0 h3) (fun z4 =>
  gs (hR h3 5 v0 0) (fun a5 =>
  gd (hK h3 a5 = 20 ∧ inb z4 (hN h3 a5)) (lt (sI h3 20 a5 (Int32.toNatClampNeg z4) v1) (fun h9 =>
  bd (fX5_latestSlot v0 h9) (fun z10 =>
  gs (hR h9 5 v0 1) (fun a11 =>
  gd (hK h9 a11 = 26 ∧ inb z10 (hN h9 a11)) (gd (okq h9 8 v2 = true) (lt (sR h9 26 a11 (Int32.toNatClampNeg z10) v2) (fun h15 =>
  some (h15))))))))))))
set_option maxRecDepth 100000 in
theorem mX5_remember_b32 {v0 : Nat} {v1 : Int32} {v2 : Option Nat} {h : PH} {r : PH} (hf : fX5_remember_b32 v0 v1 v2 h = some r) : eqz h (hX r) (hV r) := by
  unfold fX5_remember_b32 at hf
  have hle := eqz_rf h
  obtain ⟨hk2, hf⟩ := gd_some hf
  obtain ⟨h3, rfl, hf⟩ := lt_some hf
  obtain ⟨z4, hz4, hf⟩ := bd_some hf
  obtain ⟨a5, e6, hf⟩ := gs_some hf
  obtain ⟨⟨hk8, hb7⟩, hf⟩ := gd_some hf
  obtain ⟨h9, rfl, hf⟩ := lt_some hf
  obtain ⟨z10, hz10, hf⟩ := bd_some hf
  obtain ⟨a11, e12, hf⟩ := gs_some hf
  obtain ⟨⟨hk14, hb13⟩, hf⟩ := gd_some hf
  obtain ⟨hg16, hf⟩ := gd_some hf
  obtain ⟨h15, rfl, hf⟩ := lt_some hf
  have ee := Option.some.inj hf; subst ee; exact hle
set_option maxRecDepth 100000 in
theorem wX5_remember_b32 {E : PE} {p : Program} {l : Launch} {e : Env} {s : State} {m : MethodId} {args : Array Value} {below : List Frame} {meth : Method} {c : Code} (X : Cx E p l e (rmv 2 0 0) s m args below meth c RX5 cX5_remember 3 (none)) (hG : Gs E l) (hnm : meth.name = yX5_remember.name) {v0 : Nat} {v1 : Int32} {v2 : Option Nat} {h : PH} {r : PH} (hf : fX5_remember_b32 v0 v1 v2 h = some r)  : PW E p l e (rmv 2 0 0) s m args below meth c 3 0 0 (MQ below (QG E (fun v u => v = none ∧ u = r)) args s 0 0 (pA E)) h 32 [(0, some (.ref v0)), (1, some (.int v1)), (2, some (va_rf v2))] [] := by
  unfold fX5_remember_b32 at hf
  refine p_aload_n X (dcg dc_X5_remember 18 rfl) rfl rfl ?_
  refine p_dup X (dcg dc_X5_remember 19 rfl) rfl ?_
  obtain ⟨hk2, hf⟩ := gd_some hf
  refine p_getI X fl_X5_19 rfl (by decide) (dcg dc_X5_remember 20 rfl) hk2 ?_
  refine p_iconst (v := 1) X (dcg dc_X5_remember 21 rfl) (by decide) ?_
  refine p_iadd X (dcg dc_X5_remember 22 rfl) ?_
  refine p_putI X fl_X5_19 rfl (by decide) (fun q hq => by cases hq; rfl) rfl rfl (dcg dc_X5_remember 23 rfl) hk2 ?_
  obtain ⟨h3, rfl, hf⟩ := lt_some hf
  refine p_aload_n X (dcg dc_X5_remember 24 rfl) rfl rfl ?_
  refine p_getR X fl_X5_9 rfl (by decide) (dcg dc_X5_remember 25 rfl) hk2 ?_
  refine p_aload_n X (dcg dc_X5_remember 26 rfl) rfl rfl ?_
  obtain ⟨z4, hz4, hf⟩ := bd_some hf
  refine p_callV (As := []) X ml_X5_26 (dcg dc_X5_remember 27 rfl) rfl rfl hk2 (wX5_latestSlot hG hz4) (by decide) (room4 (Nat.le_of_ble_eq_true rfl)) (Nat.le_refl _) (Nat.le_refl _) ?_
  rintro _ u9 ⟨rfl, e9⟩; have e9 := e9.symm; subst e9
  refine p_iload_n X (dcg dc_X5_remember 28 rfl) rfl rfl ?_
  obtain ⟨a5, e6, hf⟩ := gs_some hf
  first | subst e6 | (try rw [e6])
  obtain ⟨⟨hk8, hb7⟩, hf⟩ := gd_some hf
  refine p_iast X (dcg dc_X5_remember 29 rfl) hk8 (vp_of_inb hb7) ?_
  obtain ⟨h9, rfl, hf⟩ := lt_some hf
  refine p_aload_n X (dcg dc_X5_remember 30 rfl) rfl rfl ?_
  refine p_getR X fl_X5_15 rfl (by decide) (dcg dc_X5_remember 31 rfl) hk2 ?_
  refine p_aload_n X (dcg dc_X5_remember 32 rfl) rfl rfl ?_
  obtain ⟨z10, hz10, hf⟩ := bd_some hf
  refine p_callV (As := []) X ml_X5_26 (dcg dc_X5_remember 33 rfl) rfl rfl hk2 (wX5_latestSlot hG hz10) (by decide) (room4 (Nat.le_of_ble_eq_true rfl)) (Nat.le_refl _) (Nat.le_refl _) ?_
  rintro _ u9 ⟨rfl, e9⟩; have e9 := e9.symm; subst e9
  refine p_aloadq_n X (dcg dc_X5_remember 34 rfl) rfl rfl ?_
  obtain ⟨a11, e12, hf⟩ := gs_some hf
  first | subst e12 | (try rw [e12])
  obtain ⟨⟨hk14, hb13⟩, hf⟩ := gd_some hf
  obtain ⟨hg16, hf⟩ := gd_some hf
  refine p_aast26 X (dcg dc_X5_remember 35 rfl) hk14 (vp_of_inb hb13) (okq_of hg16) ?_
  obtain ⟨h15, rfl, hf⟩ := lt_some hf
  have er := Option.some.inj hf
  subst er
  exact p_vret X rfl (dcg dc_X5_remember 36 rfl) ⟨rfl, rfl⟩ (Nat.le_refl _) (Nat.le_refl _)
noncomputable def fX5_remember (v0 : Nat) (v1 : Int32) (v2 : Option Nat) (h : PH) : Option PH :=
  gd (hK h v0 = 5) (if (¬ (hI h 5 v0 3) = (20 : Int32)) then (fX5_remember_b32 v0 v1 v2 h) else
  lt (sI h 5 v0 2 (((hI h 5 v0 2) + (1 : Int32)) - ((hI h 5 v0 2) + (1 : Int32)) / (20 : Int32) * (20 : Int32))) (fun h17 =>
  lt (sI h17 5 v0 3 ((hI h17 5 v0 3) - (1 : Int32))) (fun h18 =>
  fX5_remember_b32 v0 v1 v2 h18)))
set_option maxRecDepth 100000 in
theorem mX5_remember {v0 : Nat} {v1 : Int32} {v2 : Option Nat} {h : PH} {r : PH} (hf : fX5_remember v0 v1 v2 h = some r) : eqz h (hX r) (hV r) := by
  unfold fX5_remember at hf
  have hle := eqz_rf h
  obtain ⟨hk1, hf⟩ := gd_some hf
  rcases ite_or hf with ⟨q, hf⟩ | ⟨q, hf⟩
  · have hf := if_t q hf
    exact eqz_rt (mX5_remember_b32 hf) hle
  · have hf := if_f q hf
    obtain ⟨h17, rfl, hf⟩ := lt_some hf
    obtain ⟨h18, rfl, hf⟩ := lt_some hf
    exact eqz_rt (mX5_remember_b32 hf) hle
set_option maxRecDepth 100000 in
theorem wX5_remember {E : PE} {l : Launch} (hG : Gs E l) {v0 : Nat} {v1 : Int32} {v2 : Option Nat} {h : PH} {r : PH} (hf : fX5_remember v0 v1 v2 h = some r) : Ct E l 2 0 0 yX5_remember cX5_remember 3 (none) [.ref v0, .int v1, va_rf v2] h (fun v u => v = none ∧ u = r) := by
  refine ct_of hG (by decide) (by simp [lg_sl, cat_rf, cat_r, cat_i, cat_l, cat_d, cat_f]) ?_
  intro p e s m args below meth c X hnm
  rw [show pargs 0 [.ref v0, .int v1, va_rf v2] = [(0, some (.ref v0)), (1, some (.int v1)), (2, some (va_rf v2))] from by simp [pargs, cat_rf, cat_r, cat_i, cat_l, cat_d, cat_f]]
  unfold fX5_remember at hf
  refine p_aload_n X (dcg dc_X5_remember 0 rfl) rfl rfl ?_
  obtain ⟨hk1, hf⟩ := gd_some hf
  refine p_getI X fl_X5_19 rfl (by decide) (dcg dc_X5_remember 1 rfl) hk1 ?_
  refine p_bipush (v := 20) X (dcg dc_X5_remember 2 rfl) (by decide) ?_
  refine p_icmp_ne (tgt := 32) X (dcg dc_X5_remember 3 rfl) (by decide) (fun q => ?_) (fun q => ?_)
  · have hf := if_t q hf
    refine p_pick [0, 1, 2] ?_
    exact wX5_remember_b32 X hG hnm hf 
  · have hf := if_f q hf
    refine p_aload_n X (dcg dc_X5_remember 4 rfl) rfl rfl ?_
    refine p_aload_n X (dcg dc_X5_remember 5 rfl) rfl rfl ?_
    refine p_getI X fl_X5_23 rfl (by decide) (dcg dc_X5_remember 6 rfl) hk1 ?_
    refine p_iconst (v := 1) X (dcg dc_X5_remember 7 rfl) (by decide) ?_
    refine p_iadd X (dcg dc_X5_remember 8 rfl) ?_
    refine p_bipush (v := 20) X (dcg dc_X5_remember 9 rfl) (by decide) ?_
    refine p_irem X (dcg dc_X5_remember 10 rfl) (by decide) ?_
    refine p_putI X fl_X5_23 rfl (by decide) (fun q hq => by cases hq; rfl) rfl rfl (dcg dc_X5_remember 11 rfl) hk1 ?_
    obtain ⟨h17, rfl, hf⟩ := lt_some hf
    refine p_aload_n X (dcg dc_X5_remember 12 rfl) rfl rfl ?_
    refine p_dup X (dcg dc_X5_remember 13 rfl) rfl ?_
    refine p_getI X fl_X5_19 rfl (by decide) (dcg dc_X5_remember 14 rfl) hk1 ?_
    refine p_iconst (v := 1) X (dcg dc_X5_remember 15 rfl) (by decide) ?_
    refine p_isub X (dcg dc_X5_remember 16 rfl) ?_
    refine p_putI X fl_X5_19 rfl (by decide) (fun q hq => by cases hq; rfl) rfl rfl (dcg dc_X5_remember 17 rfl) hk1 ?_
    obtain ⟨h18, rfl, hf⟩ := lt_some hf
    refine p_pick [0, 1, 2] ?_
    exact wX5_remember_b32 X hG hnm hf 
theorem dc_X5_latestNumber : decs cX5_latestNumber [(0, .aload_n 0, 1), (1, .getfield 9, 3), (4, .aload_n 0, 1), (5, .invokevirtual 26, 3), (8, .iaload, 1), (9, .ireturn, 1)] = true := by decide +kernel
noncomputable def fX5_latestNumber (v0 : Nat) (h : PH) : Option Int32 :=
  gd (hK h v0 = 5) (bd (fX5_latestSlot v0 h) (fun z2 =>
  gs (hR h 5 v0 0) (fun a3 =>
  gd (hK h a3 = 20 ∧ inb z2 (hN h a3)) (some ((hI h 20 a3 (Int32.toNatClampNeg z2)))))))
set_option maxRecDepth 100000 in
theorem wX5_latestNumber {E : PE} {l : Launch} (hG : Gs E l) {v0 : Nat} {h : PH} {r : Int32} (hf : fX5_latestNumber v0 h = some r) : Ct E l 2 0 0 yX5_latestNumber cX5_latestNumber 1 (some .int) [.ref v0] h (fun v u => v = some (.int r) ∧ u = h) := by
  refine ct_of hG (by decide) (Nat.le_of_ble_eq_true rfl) ?_
  intro p e s m args below meth c X hnm
  show PW E p l e _ s m args below meth c _ 0 0 _ h 0 [(0, some (.ref v0))] []
  unfold fX5_latestNumber at hf
  refine p_aload_n X (dcg dc_X5_latestNumber 0 rfl) rfl rfl ?_
  obtain ⟨hk1, hf⟩ := gd_some hf
  refine p_getR X fl_X5_9 rfl (by decide) (dcg dc_X5_latestNumber 1 rfl) hk1 ?_
  refine p_aload_n X (dcg dc_X5_latestNumber 2 rfl) rfl rfl ?_
  obtain ⟨z2, hz2, hf⟩ := bd_some hf
  refine p_callV (As := []) X ml_X5_26 (dcg dc_X5_latestNumber 3 rfl) rfl rfl hk1 (wX5_latestSlot hG hz2) (by decide) (room4 (Nat.le_of_ble_eq_true rfl)) (Nat.le_refl _) (Nat.le_refl _) ?_
  rintro _ u9 ⟨rfl, e9⟩; have e9 := e9.symm; subst e9
  obtain ⟨a3, e4, hf⟩ := gs_some hf
  first | subst e4 | (try rw [e4])
  obtain ⟨⟨hk6, hb5⟩, hf⟩ := gd_some hf
  refine p_iald X (dcg dc_X5_latestNumber 4 rfl) hk6 (vp_of_inb hb5) ?_
  have er := Option.some.inj hf
  subst er
  exact p_iret X rfl (dcg dc_X5_latestNumber 5 rfl) ⟨rfl, rfl⟩ (Nat.le_refl _) (Nat.le_refl _)
theorem dc_X5_latestText : decs cX5_latestText [(0, .aload_n 0, 1), (1, .getfield 15, 3), (4, .aload_n 0, 1), (5, .invokevirtual 26, 3), (8, .aaload, 1), (9, .areturn, 1)] = true := by decide +kernel
noncomputable def fX5_latestText (v0 : Nat) (h : PH) : Option Option Nat :=
  gd (hK h v0 = 5) (bd (fX5_latestSlot v0 h) (fun z2 =>
  gs (hR h 5 v0 1) (fun a3 =>
  gd (hK h a3 = 26 ∧ inb z2 (hN h a3)) (some ((hR h 26 a3 (Int32.toNatClampNeg z2)))))))
set_option maxRecDepth 100000 in
theorem wX5_latestText {E : PE} {l : Launch} (hG : Gs E l) {v0 : Nat} {h : PH} {r : Option Nat} (hf : fX5_latestText v0 h = some r) : Ct E l 2 0 0 yX5_latestText cX5_latestText 1 (some (.object "WordFinder$Text")) [.ref v0] h (fun v u => v = some (va_rf r) ∧ u = h) := by
  refine ct_of hG (by decide) (Nat.le_of_ble_eq_true rfl) ?_
  intro p e s m args below meth c X hnm
  show PW E p l e _ s m args below meth c _ 0 0 _ h 0 [(0, some (.ref v0))] []
  unfold fX5_latestText at hf
  refine p_aload_n X (dcg dc_X5_latestText 0 rfl) rfl rfl ?_
  obtain ⟨hk1, hf⟩ := gd_some hf
  refine p_getR X fl_X5_15 rfl (by decide) (dcg dc_X5_latestText 1 rfl) hk1 ?_
  refine p_aload_n X (dcg dc_X5_latestText 2 rfl) rfl rfl ?_
  obtain ⟨z2, hz2, hf⟩ := bd_some hf
  refine p_callV (As := []) X ml_X5_26 (dcg dc_X5_latestText 3 rfl) rfl rfl hk1 (wX5_latestSlot hG hz2) (by decide) (room4 (Nat.le_of_ble_eq_true rfl)) (Nat.le_refl _) (Nat.le_refl _) ?_
  rintro _ u9 ⟨rfl, e9⟩; have e9 := e9.symm; subst e9
  obtain ⟨a3, e4, hf⟩ := gs_some hf
  first | subst e4 | (try rw [e4])
  obtain ⟨⟨hk6, hb5⟩, hf⟩ := gd_some hf
  refine p_aald26 X (dcg dc_X5_latestText 4 rfl) hk6 (vp_of_inb hb5) ?_
  have er := Option.some.inj hf
  subst er
  exact p_aret X rfl (Or.inl ⟨_, rfl⟩) (dcg dc_X5_latestText 5 rfl) ⟨rfl, rfl⟩ (Nat.le_refl _) (Nat.le_refl _)
theorem dc_X5_forgetLatest : decs cX5_forgetLatest [(0, .aload_n 0, 1), (1, .getfield 19, 3), (4, .ifCond .le 13, 3), (7, .aload_n 0, 1), (8, .dup, 1), (9, .getfield 19, 3), (12, .iconst 1, 1), (13, .isub, 1), (14, .putfield 19, 3), (17, .return_, 1)] = true := by decide +kernel
noncomputable def fX5_forgetLatest_b17  (h : PH) : Option PH :=
  some (h)
set_option maxRecDepth 100000 in
theorem mX5_forgetLatest_b17  {h : PH} {r : PH} (hf : fX5_forgetLatest_b17  h = some r) : eqz h (hX r) (hV r) := by
  unfold fX5_forgetLatest_b17 at hf
  have hle := eqz_rf h
  have ee := Option.some.inj hf; subst ee; exact hle
set_option maxRecDepth 100000 in
theorem wX5_forgetLatest_b17 {E : PE} {p : Program} {l : Launch} {e : Env} {s : State} {m : MethodId} {args : Array Value} {below : List Frame} {meth : Method} {c : Code} (X : Cx E p l e (rmv 0 0 0) s m args below meth c RX5 cX5_forgetLatest 1 (none)) (hG : Gs E l) (hnm : meth.name = yX5_forgetLatest.name)  {h : PH} {r : PH} (hf : fX5_forgetLatest_b17  h = some r)  : PW E p l e (rmv 0 0 0) s m args below meth c 1 0 0 (MQ below (QG E (fun v u => v = none ∧ u = r)) args s 0 0 (pA E)) h 17 [] [] := by
  unfold fX5_forgetLatest_b17 at hf
  have er := Option.some.inj hf
  subst er
  exact p_vret X rfl (dcg dc_X5_forgetLatest 9 rfl) ⟨rfl, rfl⟩ (Nat.le_refl _) (Nat.le_refl _)
noncomputable def fX5_forgetLatest (v0 : Nat) (h : PH) : Option PH :=
  gd (hK h v0 = 5) (if ((hI h 5 v0 3) ≤ 0) then (fX5_forgetLatest_b17  h) else
  lt (sI h 5 v0 3 ((hI h 5 v0 3) - (1 : Int32))) (fun h2 =>
  fX5_forgetLatest_b17  h2))
set_option maxRecDepth 100000 in
theorem mX5_forgetLatest {v0 : Nat} {h : PH} {r : PH} (hf : fX5_forgetLatest v0 h = some r) : eqz h (hX r) (hV r) := by
  unfold fX5_forgetLatest at hf
  have hle := eqz_rf h
  obtain ⟨hk1, hf⟩ := gd_some hf
  rcases ite_or hf with ⟨q, hf⟩ | ⟨q, hf⟩
  · have hf := if_t q hf
    exact eqz_rt (mX5_forgetLatest_b17 hf) hle
  · have hf := if_f q hf
    obtain ⟨h2, rfl, hf⟩ := lt_some hf
    exact eqz_rt (mX5_forgetLatest_b17 hf) hle
set_option maxRecDepth 100000 in
theorem wX5_forgetLatest {E : PE} {l : Launch} (hG : Gs E l) {v0 : Nat} {h : PH} {r : PH} (hf : fX5_forgetLatest v0 h = some r) : Ct E l 0 0 0 yX5_forgetLatest cX5_forgetLatest 1 (none) [.ref v0] h (fun v u => v = none ∧ u = r) := by
  refine ct_of hG (by decide) (Nat.le_of_ble_eq_true rfl) ?_
  intro p e s m args below meth c X hnm
  show PW E p l e _ s m args below meth c _ 0 0 _ h 0 [(0, some (.ref v0))] []
  unfold fX5_forgetLatest at hf
  refine p_aload_n X (dcg dc_X5_forgetLatest 0 rfl) rfl rfl ?_
  obtain ⟨hk1, hf⟩ := gd_some hf
  refine p_getI X fl_X5_19 rfl (by decide) (dcg dc_X5_forgetLatest 1 rfl) hk1 ?_
  refine p_if_le (tgt := 17) X (dcg dc_X5_forgetLatest 2 rfl) (by decide) (fun q => ?_) (fun q => ?_)
  · have hf := if_t q hf
    refine p_pick [] ?_
    exact wX5_forgetLatest_b17 X hG hnm hf 
  · have hf := if_f q hf
    refine p_aload_n X (dcg dc_X5_forgetLatest 3 rfl) rfl rfl ?_
    refine p_dup X (dcg dc_X5_forgetLatest 4 rfl) rfl ?_
    refine p_getI X fl_X5_19 rfl (by decide) (dcg dc_X5_forgetLatest 5 rfl) hk1 ?_
    refine p_iconst (v := 1) X (dcg dc_X5_forgetLatest 6 rfl) (by decide) ?_
    refine p_isub X (dcg dc_X5_forgetLatest 7 rfl) ?_
    refine p_putI X fl_X5_19 rfl (by decide) (fun q hq => by cases hq; rfl) rfl rfl (dcg dc_X5_forgetLatest 8 rfl) hk1 ?_
    obtain ⟨h2, rfl, hf⟩ := lt_some hf
    refine p_pick [] ?_
    exact wX5_forgetLatest_b17 X hG hnm hf 
theorem dc_X6_init : decs cX6_init [(0, .aload_n 0, 1), (1, .invokespecial 3, 3), (4, .aload_n 0, 1), (5, .bipush 20, 2), (7, .newarray .int, 2), (9, .putfield 11, 3), (12, .aload_n 0, 1), (13, .aload_n 1, 1), (14, .putfield 15, 3), (17, .return_, 1)] = true := by decide +kernel
noncomputable def fX6_init_b9 (v0 : Nat) (v1 : Option Nat) (t0 : Nat) (t1 : Nat) (h : PH) : Option PH :=
  gd (hK h t0 = 6) (lt (sR h 6 t0 1 (some t1)) (fun h3 =>
  gd (hK h3 v0 = 6) (lt (sR h3 6 v0 0 v1) (fun h5 =>
  some (h5)))))
set_option maxRecDepth 100000 in
theorem mX6_init_b9 {v0 : Nat} {v1 : Option Nat} {t0 : Nat} {t1 : Nat} {h : PH} {r : PH} (hf : fX6_init_b9 v0 v1 t0 t1 h = some r) : lez h (hX r) (hV r) := by
  unfold fX6_init_b9 at hf
  have hle := lez_rf h
  obtain ⟨hk2, hf⟩ := gd_some hf
  obtain ⟨h3, rfl, hf⟩ := lt_some hf
  obtain ⟨hk4, hf⟩ := gd_some hf
  obtain ⟨h5, rfl, hf⟩ := lt_some hf
  have ee := Option.some.inj hf; subst ee; exact hle
set_option maxRecDepth 100000 in
theorem wX6_init_b9 {E : PE} {p : Program} {l : Launch} {e : Env} {s : State} {m : MethodId} {args : Array Value} {below : List Frame} {meth : Method} {c : Code} {X0 V0 MC MS uc us : Nat} (X : Cx E p l e (rmv 1 MC MS) s m args below meth c RX6 cX6_init 2 (none)) (hG : Gs E l) (hnm : meth.name = yX6_init.name) {v0 : Nat} {v1 : Option Nat} {t0 : Nat} {t1 : Nat} {h : PH} {r : PH} (hM : MC + X0 = (hX r)) (hN : MS + V0 = (hV r)) (hu : uc + X0 = hX h) (hv : us + V0 = hV h) (hf : fX6_init_b9 v0 v1 t0 t1 h = some r)  : PW E p l e (rmv 1 MC MS) s m args below meth c 2 uc us (MQ below (QG E (fun v u => v = none ∧ u = r)) args s MC MS (pA E)) h 9 [(0, some (.ref v0)), (1, some (va_rf v1))] [.ref t1, .ref t0] := by
  have hm1 : lez h (hX r) (hV r) := mX6_init_b9 hf
  have hcm : uc ≤ MC := (by have o0 := hm1.1; have o1 := hM; have o2 := hu; (try simp only [hX_sI, hX_sR, hX_sL, hX_sD, hX_sIa, hX_sRa, hV_sI, hV_sR, hV_sL, hV_sD, hV_sIa, hV_sRa, hX_new, hV_new] at o0 o1 o2 ⊢); omega)
  have hsm : us ≤ MS := (by have o0 := hm1.2; have o1 := hN; have o2 := hv; (try simp only [hX_sI, hX_sR, hX_sL, hX_sD, hX_sIa, hX_sRa, hV_sI, hV_sR, hV_sL, hV_sD, hV_sIa, hV_sRa, hX_new, hV_new] at o0 o1 o2 ⊢); omega)
  clear hm1
  unfold fX6_init_b9 at hf
  obtain ⟨hk2, hf⟩ := gd_some hf
  refine p_putRf (v := some _) X fl_X6_11 rfl (by decide) (fun q hq => by cases hq; exact ⟨rfl, rfl⟩) hnm (nar_rf _ (by decide)) (fit_rf _ (by decide)) (dcg dc_X6_init 5 rfl) hk2 ?_
  obtain ⟨h3, rfl, hf⟩ := lt_some hf
  refine p_aload_n X (dcg dc_X6_init 6 rfl) rfl rfl ?_
  refine p_aloadq_n X (dcg dc_X6_init 7 rfl) rfl rfl ?_
  obtain ⟨hk4, hf⟩ := gd_some hf
  refine p_putRf X fl_X6_15 rfl (by decide) (fun q hq => by cases hq; exact ⟨rfl, rfl⟩) hnm (nar_rf _ (by decide)) (fit_rf _ (by decide)) (dcg dc_X6_init 8 rfl) hk4 ?_
  obtain ⟨h5, rfl, hf⟩ := lt_some hf
  have er := Option.some.inj hf
  subst er
  exact p_vret X rfl (dcg dc_X6_init 9 rfl) ⟨rfl, rfl⟩ hcm hsm
noncomputable def fX6_init_b0 (v0 : Nat) (v1 : Option Nat) (h : PH) : Option PH :=
  gd (¬ (20 : Int32) < 0 ∧ (Int32.toNatClampNeg (20 : Int32)) ≤ 1000000) (fX6_init_b9 v0 v1 v0 (hX h) (hnew h 20 (Int32.toNatClampNeg (20 : Int32))))
set_option maxRecDepth 100000 in
theorem mX6_init_b0 {v0 : Nat} {v1 : Option Nat} {h : PH} {r : PH} (hf : fX6_init_b0 v0 v1 h = some r) : lez h (hX r) (hV r) := by
  unfold fX6_init_b0 at hf
  have hle := lez_rf h
  obtain ⟨hg1, hf⟩ := gd_some hf
  have hle := lez_nw (c := 20) (n := (Int32.toNatClampNeg (20 : Int32))) hle
  exact lez_rt (mX6_init_b9 hf) hle
set_option maxRecDepth 100000 in
theorem wX6_init_b0 {E : PE} {p : Program} {l : Launch} {e : Env} {s : State} {m : MethodId} {args : Array Value} {below : List Frame} {meth : Method} {c : Code} {X0 V0 MC MS uc us : Nat} (X : Cx E p l e (rmv 1 MC MS) s m args below meth c RX6 cX6_init 2 (none)) (hG : Gs E l) (hnm : meth.name = yX6_init.name) {v0 : Nat} {v1 : Option Nat} {h : PH} {r : PH} (hM : MC + X0 = (hX r)) (hN : MS + V0 = (hV r)) (hu : uc + X0 = hX h) (hv : us + V0 = hV h) (hf : fX6_init_b0 v0 v1 h = some r)  : PW E p l e (rmv 1 MC MS) s m args below meth c 2 uc us (MQ below (QG E (fun v u => v = none ∧ u = r)) args s MC MS (pA E)) h 0 [(0, some (.ref v0)), (1, some (va_rf v1))] [] := by
  have hm1 : lez h (hX r) (hV r) := mX6_init_b0 hf
  have hcm : uc ≤ MC := (by have o0 := hm1.1; have o1 := hM; have o2 := hu; (try simp only [hX_sI, hX_sR, hX_sL, hX_sD, hX_sIa, hX_sRa, hV_sI, hV_sR, hV_sL, hV_sD, hV_sIa, hV_sRa, hX_new, hV_new] at o0 o1 o2 ⊢); omega)
  have hsm : us ≤ MS := (by have o0 := hm1.2; have o1 := hN; have o2 := hv; (try simp only [hX_sI, hX_sR, hX_sL, hX_sD, hX_sIa, hX_sRa, hV_sI, hV_sR, hV_sL, hV_sD, hV_sIa, hV_sRa, hX_new, hV_new] at o0 o1 o2 ⊢); omega)
  clear hm1
  unfold fX6_init_b0 at hf
  refine p_aload_n X (dcg dc_X6_init 0 rfl) rfl rfl ?_
  refine p_objinit X tw_174 tw_146 tw_147 (dcg dc_X6_init 1 rfl) (Nat.le_of_ble_eq_true rfl) (Nat.le_trans (Nat.add_le_add_right (room4 (Nat.le_of_ble_eq_true rfl)) 12) (Nat.le_of_ble_eq_true rfl)) (fun ls hl => hl.1.trans X.2.2.1.symm) ?_
  refine p_aload_n X (dcg dc_X6_init 2 rfl) rfl rfl ?_
  refine p_bipush (v := 20) X (dcg dc_X6_init 3 rfl) (by decide) ?_
  obtain ⟨hg1, hf⟩ := gd_some hf
  have hm1 : lez _ (hX r) (hV r) := mX6_init_b9 hf
  have hm2 := lez_new hm1
  refine p_newa20 X tw_168 (dcg dc_X6_init 4 rfl) hg1.1 hg1.2 (show uc + 1 ≤ MC from (by have o0 := hm2.1; have o1 := hM; have o2 := hu; (try simp only [hX_sI, hX_sR, hX_sL, hX_sD, hX_sIa, hX_sRa, hV_sI, hV_sR, hV_sL, hV_sD, hV_sIa, hV_sRa, hX_new, hV_new] at o0 o1 o2 ⊢); omega)) (show us + (Int32.toNatClampNeg (20 : Int32)) ≤ MS from (by have o0 := hm2.2; have o1 := hN; have o2 := hv; (try simp only [hX_sI, hX_sR, hX_sL, hX_sD, hX_sIa, hX_sRa, hV_sI, hV_sR, hV_sL, hV_sD, hV_sIa, hV_sRa, hX_new, hV_new] at o0 o1 o2 ⊢); omega)) ?_
  refine p_pick [0, 1] ?_
  exact wX6_init_b9 X hG hnm hM hN (by have o0 := hu; (try simp only [hX_sI, hX_sR, hX_sL, hX_sD, hX_sIa, hX_sRa, hV_sI, hV_sR, hV_sL, hV_sD, hV_sIa, hV_sRa, hX_new, hV_new] at o0 ⊢); omega) (by have o0 := hv; (try simp only [hX_sI, hX_sR, hX_sL, hX_sD, hX_sIa, hX_sRa, hV_sI, hV_sR, hV_sL, hV_sD, hV_sIa, hV_sRa, hX_new, hV_new] at o0 ⊢); omega) hf 
noncomputable def fX6_init (v0 : Nat) (v1 : Option Nat) (h : PH) : Option PH :=
  fX6_init_b0 v0 v1 h
set_option maxRecDepth 100000 in
theorem mX6_init {v0 : Nat} {v1 : Option Nat} {h : PH} {r : PH} (hf : fX6_init v0 v1 h = some r) : lez h (hX r) (hV r) := by
  unfold fX6_init at hf
  have hle := lez_rf h
  exact lez_rt (mX6_init_b0 hf) hle
set_option maxRecDepth 100000 in
theorem wX6_init {E : PE} {l : Launch} (hG : Gs E l) {v0 : Nat} {v1 : Option Nat} {h : PH} {r : PH} (hf : fX6_init v0 v1 h = some r) : Ct E l 1 ((hX r) - hX h) ((hV r) - hV h) yX6_init cX6_init 2 (none) [.ref v0, va_rf v1] h (fun v u => v = none ∧ u = r) := by
  have hm0 := mX6_init hf
  refine ct_of hG (by decide) (by simp [lg_sl, cat_rf, cat_r, cat_i, cat_l, cat_d, cat_f]) ?_
  intro p e s m args below meth c X hnm
  rw [show pargs 0 [.ref v0, va_rf v1] = [(0, some (.ref v0)), (1, some (va_rf v1))] from by simp [pargs, cat_rf, cat_r, cat_i, cat_l, cat_d, cat_f]]
  unfold fX6_init at hf
  have hM := Nat.sub_add_cancel hm0.1
  have hN := Nat.sub_add_cancel hm0.2
  refine p_pick [0, 1] ?_
  exact wX6_init_b0 X hG hnm hM hN (Nat.zero_add _) (Nat.zero_add _) hf
theorem dc_X6_advanceWord : decs cX6_advanceWord [(0, .aload_n 0, 1), (1, .getfield 19, 3), (4, .aload_n 0, 1), (5, .getfield 15, 3), (8, .getfield 96, 3), (11, .if_icmp .ge 79, 3), (14, .aload_n 0, 1), (15, .getfield 15, 3), (18, .getfield 99, 3), (21, .aload_n 0, 1), (22, .getfield 19, 3), (25, .iaload, 1), (26, .bipush 97, 2), (28, .if_icmp .lt 62, 3), (31, .aload_n 0, 1), (32, .getfield 15, 3), (35, .getfield 99, 3), (38, .aload_n 0, 1), (39, .getfield 19, 3), (42, .iaload, 1), (43, .bipush 122, 2), (45, .if_icmp .gt 45, 3), (48, .aload_n 0, 1), (49, .aload_n 0, 1), (50, .getfield 83, 3), (53, .bipush 27, 2), (55, .imul, 1), (56, .aload_n 0, 1), (57, .getfield 15, 3), (60, .getfield 99, 3), (63, .aload_n 0, 1), (64, .getfield 19, 3), (67, .iaload, 1), (68, .iadd, 1), (69, .bipush 97, 2), (71, .isub, 1), (72, .iconst 1, 1), (73, .iadd, 1), (74, .putfield 83, 3), (77, .aload_n 0, 1), (78, .dup, 1), (79, .getfield 19, 3), (82, .iconst 1, 1), (83, .iadd, 1), (84, .putfield 19, 3), (87, .goto (-87), 3), (90, .aload_n 0, 1), (91, .dup, 1), (92, .getfield 23, 3), (95, .iconst 1, 1), (96, .iadd, 1), (97, .putfield 23, 3), (100, .aload_n 0, 1), (101, .getfield 19, 3), (104, .aload_n 0, 1), (105, .getfield 49, 3), (108, .isub, 1), (109, .bipush 6, 2), (111, .if_icmp .gt 16, 3), (114, .aload_n 0, 1), (115, .getfield 23, 3), (118, .bipush 20, 2), (120, .if_icmp .gt 7, 3), (123, .iconst 1, 1), (124, .goto 4, 3), (127, .iconst 0, 1), (128, .istore_n 1, 1), (129, .aload_n 0, 1), (130, .iload_n 1, 1), (131, .ifCond .eq 7, 3), (134, .iconst 2, 1), (135, .goto 4, 3), (138, .iconst 1, 1), (139, .putfield 36, 3), (142, .return_, 1)] = true := by decide +kernel
noncomputable def fX6_advanceWord_b139 (t0 : Option Nat) (t1 : Int32) (h : PH) : Option PH :=
  gs t0 (fun a7 =>
  gd (hK h a7 = 6) (lt (sI h 6 a7 3 t1) (fun h10 =>
  some (h10))))
set_option maxRecDepth 100000 in
theorem mX6_advanceWord_b139 {t0 : Option Nat} {t1 : Int32} {h : PH} {r : PH} (hf : fX6_advanceWord_b139 t0 t1 h = some r) : eqz h (hX r) (hV r) := by
  unfold fX6_advanceWord_b139 at hf
  have hle := eqz_rf h
  obtain ⟨a7, e8, hf⟩ := gs_some hf
  obtain ⟨hk9, hf⟩ := gd_some hf
  obtain ⟨h10, rfl, hf⟩ := lt_some hf
  have ee := Option.some.inj hf; subst ee; exact hle
set_option maxRecDepth 100000 in
theorem wX6_advanceWord_b139 {E : PE} {p : Program} {l : Launch} {e : Env} {s : State} {m : MethodId} {args : Array Value} {below : List Frame} {meth : Method} {c : Code} (X : Cx E p l e (rmv 0 0 0) s m args below meth c RX6 cX6_advanceWord 2 (none)) (hG : Gs E l) (hnm : meth.name = yX6_advanceWord.name) {t0 : Option Nat} {t1 : Int32} {h : PH} {r : PH} (hf : fX6_advanceWord_b139 t0 t1 h = some r)  : PW E p l e (rmv 0 0 0) s m args below meth c 2 0 0 (MQ below (QG E (fun v u => v = none ∧ u = r)) args s 0 0 (pA E)) h 139 [] [.int t1, va_rf t0] := by
  unfold fX6_advanceWord_b139 at hf
  obtain ⟨a7, e8, hf⟩ := gs_some hf
  first | subst e8 | (try rw [e8])
  obtain ⟨hk9, hf⟩ := gd_some hf
  refine p_putI X fl_X6_36 rfl (by decide) (fun q hq => by cases hq; rfl) rfl rfl (dcg dc_X6_advanceWord 73 rfl) hk9 ?_
  obtain ⟨h10, rfl, hf⟩ := lt_some hf
  have er := Option.some.inj hf
  subst er
  exact p_vret X rfl (dcg dc_X6_advanceWord 74 rfl) ⟨rfl, rfl⟩ (Nat.le_refl _) (Nat.le_refl _)
noncomputable def fX6_advanceWord_b128 (v0 : Nat) (t0 : Int32) (h : PH) : Option PH :=
  if (t0 = 0) then (fX6_advanceWord_b139 (some v0) (1 : Int32) h) else
  fX6_advanceWord_b139 (some v0) (2 : Int32) h
set_option maxRecDepth 100000 in
theorem mX6_advanceWord_b128 {v0 : Nat} {t0 : Int32} {h : PH} {r : PH} (hf : fX6_advanceWord_b128 v0 t0 h = some r) : eqz h (hX r) (hV r) := by
  unfold fX6_advanceWord_b128 at hf
  have hle := eqz_rf h
  rcases ite_or hf with ⟨q, hf⟩ | ⟨q, hf⟩
  · have hf := if_t q hf
    exact eqz_rt (mX6_advanceWord_b139 hf) hle
  · have hf := if_f q hf
    exact eqz_rt (mX6_advanceWord_b139 hf) hle
set_option maxRecDepth 100000 in
theorem wX6_advanceWord_b128 {E : PE} {p : Program} {l : Launch} {e : Env} {s : State} {m : MethodId} {args : Array Value} {below : List Frame} {meth : Method} {c : Code} (X : Cx E p l e (rmv 0 0 0) s m args below meth c RX6 cX6_advanceWord 2 (none)) (hG : Gs E l) (hnm : meth.name = yX6_advanceWord.name) {v0 : Nat} {t0 : Int32} {h : PH} {r : PH} (hf : fX6_advanceWord_b128 v0 t0 h = some r)  : PW E p l e (rmv 0 0 0) s m args below meth c 2 0 0 (MQ below (QG E (fun v u => v = none ∧ u = r)) args s 0 0 (pA E)) h 128 [(0, some (.ref v0))] [.int t0] := by
  unfold fX6_advanceWord_b128 at hf
  refine p_istore_n X (dcg dc_X6_advanceWord 66 rfl) rfl (by decide) rfl ?_
  refine p_aload_n X (dcg dc_X6_advanceWord 67 rfl) rfl rfl ?_
  refine p_iload_n X (dcg dc_X6_advanceWord 68 rfl) rfl rfl ?_
  refine p_if_eq (tgt := 138) X (dcg dc_X6_advanceWord 69 rfl) (by decide) (fun q => ?_) (fun q => ?_)
  · have hf := if_t q hf
    refine p_iconst (v := 1) X (dcg dc_X6_advanceWord 72 rfl) (by decide) ?_
    refine p_pick [] ?_
    exact wX6_advanceWord_b139 X hG hnm hf 
  · have hf := if_f q hf
    refine p_iconst (v := 2) X (dcg dc_X6_advanceWord 70 rfl) (by decide) ?_
    refine p_goto (tgt := 139) X (dcg dc_X6_advanceWord 71 rfl) (by decide) ?_
    refine p_pick [] ?_
    exact wX6_advanceWord_b139 X hG hnm hf 
noncomputable def fX6_advanceWord_b127 (v0 : Nat) (h : PH) : Option PH :=
  fX6_advanceWord_b128 v0 (0 : Int32) h
set_option maxRecDepth 100000 in
theorem mX6_advanceWord_b127 {v0 : Nat} {h : PH} {r : PH} (hf : fX6_advanceWord_b127 v0 h = some r) : eqz h (hX r) (hV r) := by
  unfold fX6_advanceWord_b127 at hf
  have hle := eqz_rf h
  exact eqz_rt (mX6_advanceWord_b128 hf) hle
set_option maxRecDepth 100000 in
theorem wX6_advanceWord_b127 {E : PE} {p : Program} {l : Launch} {e : Env} {s : State} {m : MethodId} {args : Array Value} {below : List Frame} {meth : Method} {c : Code} (X : Cx E p l e (rmv 0 0 0) s m args below meth c RX6 cX6_advanceWord 2 (none)) (hG : Gs E l) (hnm : meth.name = yX6_advanceWord.name) {v0 : Nat} {h : PH} {r : PH} (hf : fX6_advanceWord_b127 v0 h = some r)  : PW E p l e (rmv 0 0 0) s m args below meth c 2 0 0 (MQ below (QG E (fun v u => v = none ∧ u = r)) args s 0 0 (pA E)) h 127 [(0, some (.ref v0))] [] := by
  unfold fX6_advanceWord_b127 at hf
  refine p_iconst (v := 0) X (dcg dc_X6_advanceWord 65 rfl) (by decide) ?_
  refine p_pick [0] ?_
  exact wX6_advanceWord_b128 X hG hnm hf 
noncomputable def fX6_advanceWord_b90 (v0 : Nat) (h : PH) : Option PH :=
  gd (hK h v0 = 6) (lt (sI h 6 v0 6 ((hI h 6 v0 6) + (1 : Int32))) (fun h6 =>
  if ((6 : Int32) < ((hI h6 6 v0 2) - (hI h6 6 v0 4))) then (fX6_advanceWord_b127 v0 h6) else
  if ((20 : Int32) < (hI h6 6 v0 6)) then (fX6_advanceWord_b127 v0 h6) else
  fX6_advanceWord_b128 v0 (1 : Int32) h6))
set_option maxRecDepth 100000 in
theorem mX6_advanceWord_b90 {v0 : Nat} {h : PH} {r : PH} (hf : fX6_advanceWord_b90 v0 h = some r) : eqz h (hX r) (hV r) := by
  unfold fX6_advanceWord_b90 at hf
  have hle := eqz_rf h
  obtain ⟨hk5, hf⟩ := gd_some hf
  obtain ⟨h6, rfl, hf⟩ := lt_some hf
  rcases ite_or hf with ⟨q, hf⟩ | ⟨q, hf⟩
  · have hf := if_t q hf
    exact eqz_rt (mX6_advanceWord_b127 hf) hle
  · have hf := if_f q hf
    rcases ite_or hf with ⟨q, hf⟩ | ⟨q, hf⟩
    · have hf := if_t q hf
      exact eqz_rt (mX6_advanceWord_b127 hf) hle
    · have hf := if_f q hf
      exact eqz_rt (mX6_advanceWord_b128 hf) hle
set_option maxRecDepth 100000 in
theorem wX6_advanceWord_b90 {E : PE} {p : Program} {l : Launch} {e : Env} {s : State} {m : MethodId} {args : Array Value} {below : List Frame} {meth : Method} {c : Code} (X : Cx E p l e (rmv 0 0 0) s m args below meth c RX6 cX6_advanceWord 2 (none)) (hG : Gs E l) (hnm : meth.name = yX6_advanceWord.name) {v0 : Nat} {h : PH} {r : PH} (hf : fX6_advanceWord_b90 v0 h = some r)  : PW E p l e (rmv 0 0 0) s m args below meth c 2 0 0 (MQ below (QG E (fun v u => v = none ∧ u = r)) args s 0 0 (pA E)) h 90 [(0, some (.ref v0))] [] := by
  unfold fX6_advanceWord_b90 at hf
  refine p_aload_n X (dcg dc_X6_advanceWord 46 rfl) rfl rfl ?_
  refine p_dup X (dcg dc_X6_advanceWord 47 rfl) rfl ?_
  obtain ⟨hk5, hf⟩ := gd_some hf
  refine p_getI X fl_X6_23 rfl (by decide) (dcg dc_X6_advanceWord 48 rfl) hk5 ?_
  refine p_iconst (v := 1) X (dcg dc_X6_advanceWord 49 rfl) (by decide) ?_
  refine p_iadd X (dcg dc_X6_advanceWord 50 rfl) ?_
  refine p_putI X fl_X6_23 rfl (by decide) (fun q hq => by cases hq; rfl) rfl rfl (dcg dc_X6_advanceWord 51 rfl) hk5 ?_
  obtain ⟨h6, rfl, hf⟩ := lt_some hf
  refine p_aload_n X (dcg dc_X6_advanceWord 52 rfl) rfl rfl ?_
  refine p_getI X fl_X6_19 rfl (by decide) (dcg dc_X6_advanceWord 53 rfl) hk5 ?_
  refine p_aload_n X (dcg dc_X6_advanceWord 54 rfl) rfl rfl ?_
  refine p_getI X fl_X6_49 rfl (by decide) (dcg dc_X6_advanceWord 55 rfl) hk5 ?_
  refine p_isub X (dcg dc_X6_advanceWord 56 rfl) ?_
  refine p_bipush (v := 6) X (dcg dc_X6_advanceWord 57 rfl) (by decide) ?_
  refine p_icmp_gt (tgt := 127) X (dcg dc_X6_advanceWord 58 rfl) (by decide) (fun q => ?_) (fun q => ?_)
  · have hf := if_t q hf
    refine p_pick [0] ?_
    exact wX6_advanceWord_b127 X hG hnm hf 
  · have hf := if_f q hf
    refine p_aload_n X (dcg dc_X6_advanceWord 59 rfl) rfl rfl ?_
    refine p_getI X fl_X6_23 rfl (by decide) (dcg dc_X6_advanceWord 60 rfl) hk5 ?_
    refine p_bipush (v := 20) X (dcg dc_X6_advanceWord 61 rfl) (by decide) ?_
    refine p_icmp_gt (tgt := 127) X (dcg dc_X6_advanceWord 62 rfl) (by decide) (fun q => ?_) (fun q => ?_)
    · have hf := if_t q hf
      refine p_pick [0] ?_
      exact wX6_advanceWord_b127 X hG hnm hf 
    · have hf := if_f q hf
      refine p_iconst (v := 1) X (dcg dc_X6_advanceWord 63 rfl) (by decide) ?_
      refine p_goto (tgt := 128) X (dcg dc_X6_advanceWord 64 rfl) (by decide) ?_
      refine p_pick [0] ?_
      exact wX6_advanceWord_b128 X hG hnm hf 
noncomputable def fX6_advanceWord_c0 (v0 : Nat) (h : PH) : Option ((PH) ⊕ PH) :=
  gd (hK h v0 = 6) (gs (hR h 6 v0 0) (fun a35 =>
  gd (hK h a35 = 7) (if ((hI h 7 a35 1) ≤ (hI h 6 v0 2)) then (mr (fX6_advanceWord_b90 v0 h)) else
  gs (hR h 6 v0 0) (fun a40 =>
  gd (hK h a40 = 7) (gs (hR h 7 a40 0) (fun a43 =>
  gd (hK h a43 = 20 ∧ inb (hI h 6 v0 2) (hN h a43)) (if ((hI h 20 a43 (Int32.toNatClampNeg (hI h 6 v0 2))) < (97 : Int32)) then (mr (fX6_advanceWord_b90 v0 h)) else
  gs (hR h 6 v0 0) (fun a49 =>
  gd (hK h a49 = 7) (gs (hR h 7 a49 0) (fun a52 =>
  gd (hK h a52 = 20 ∧ inb (hI h 6 v0 2) (hN h a52)) (if ((122 : Int32) < (hI h 20 a52 (Int32.toNatClampNeg (hI h 6 v0 2)))) then (mr (fX6_advanceWord_b90 v0 h)) else
  gs (hR h 6 v0 0) (fun a58 =>
  gd (hK h a58 = 7) (gs (hR h 7 a58 0) (fun a61 =>
  gd (hK h a61 = 20 ∧ inb (hI h 6 v0 2) (hN h a61)) (lt (sI h 6 v0 5 (((((hI h 6 v0 5) * (27 : Int32)) + (hI h 20 a61 (Int32.toNatClampNeg (hI h 6 v0 2)))) - (97 : Int32)) + (1 : Int32))) (fun h65 =>
  lt (sI h65 6 v0 2 ((hI h65 6 v0 2) + (1 : Int32))) (fun h66 =>
  some (.inl (h66)))))))))))))))))))
set_option maxRecDepth 100000 in
theorem mX6_advanceWord_c0 {v0 : Nat} {h : PH} {x : ((PH) ⊕ PH)} (hf : fX6_advanceWord_c0 v0 h = some x) : (∀ w9 : (PH), x = .inl w9 → eqz h (hX (w9)) (hV (w9))) ∧ (∀ w9 : PH, x = .inr w9 → eqz h (hX w9) (hV w9)) := by
  unfold fX6_advanceWord_c0 at hf
  have hle := eqz_rf h
  obtain ⟨hk34, hf⟩ := gd_some hf
  obtain ⟨a35, e36, hf⟩ := gs_some hf
  obtain ⟨hk37, hf⟩ := gd_some hf
  rcases ite_or hf with ⟨q, hf⟩ | ⟨q, hf⟩
  · have hf := if_t q hf
    obtain ⟨y38, hfm, rfl⟩ := mr_some hf; have hf := hfm; clear hfm
    have cf := mX6_advanceWord_b90 hf
    exact ⟨(fun z e => nomatch e), (fun z e => by cases e <;> exact eqz_rt cf hle)⟩
  · have hf := if_f q hf
    obtain ⟨a40, e41, hf⟩ := gs_some hf
    obtain ⟨hk42, hf⟩ := gd_some hf
    obtain ⟨a43, e44, hf⟩ := gs_some hf
    obtain ⟨⟨hk46, hb45⟩, hf⟩ := gd_some hf
    rcases ite_or hf with ⟨q, hf⟩ | ⟨q, hf⟩
    · have hf := if_t q hf
      obtain ⟨y47, hfm, rfl⟩ := mr_some hf; have hf := hfm; clear hfm
      have cf := mX6_advanceWord_b90 hf
      exact ⟨(fun z e => nomatch e), (fun z e => by cases e <;> exact eqz_rt cf hle)⟩
    · have hf := if_f q hf
      obtain ⟨a49, e50, hf⟩ := gs_some hf
      obtain ⟨hk51, hf⟩ := gd_some hf
      obtain ⟨a52, e53, hf⟩ := gs_some hf
      obtain ⟨⟨hk55, hb54⟩, hf⟩ := gd_some hf
      rcases ite_or hf with ⟨q, hf⟩ | ⟨q, hf⟩
      · have hf := if_t q hf
        obtain ⟨y56, hfm, rfl⟩ := mr_some hf; have hf := hfm; clear hfm
        have cf := mX6_advanceWord_b90 hf
        exact ⟨(fun z e => nomatch e), (fun z e => by cases e <;> exact eqz_rt cf hle)⟩
      · have hf := if_f q hf
        obtain ⟨a58, e59, hf⟩ := gs_some hf
        obtain ⟨hk60, hf⟩ := gd_some hf
        obtain ⟨a61, e62, hf⟩ := gs_some hf
        obtain ⟨⟨hk64, hb63⟩, hf⟩ := gd_some hf
        obtain ⟨h65, rfl, hf⟩ := lt_some hf
        obtain ⟨h66, rfl, hf⟩ := lt_some hf
        have ee := Option.some.inj hf; subst ee
        exact ⟨(fun z e => by have ee := Sum.inl.inj (e); subst ee; exact hle), (fun z e => nomatch e)⟩
set_option maxRecDepth 100000 in
theorem wX6_advanceWord_c0 {E : PE} {p : Program} {l : Launch} {e : Env} {s : State} {m : MethodId} {args : Array Value} {below : List Frame} {meth : Method} {c : Code} (X : Cx E p l e (rmv 0 0 0) s m args below meth c RX6 cX6_advanceWord 2 (none)) (hG : Gs E l) (hnm : meth.name = yX6_advanceWord.name) {v0 : Nat} {h : PH} {r : PH} {x : ((PH) ⊕ PH)} (hf : fX6_advanceWord_c0 v0 h = some x) (k0 : ∀ z : (PH), x = .inl z → PW E p l e (rmv 0 0 0) s m args below meth c 2 0 0 (MQ below (QG E (fun v u => v = none ∧ u = r)) args s 0 0 (pA E)) (z) 0 [(0, some (.ref v0))] []) (kf : ∀ z : PH, x = .inr z → z = r) : PW E p l e (rmv 0 0 0) s m args below meth c 2 0 0 (MQ below (QG E (fun v u => v = none ∧ u = r)) args s 0 0 (pA E)) h 0 [(0, some (.ref v0))] [] := by
  unfold fX6_advanceWord_c0 at hf
  refine p_aload_n X (dcg dc_X6_advanceWord 0 rfl) rfl rfl ?_
  obtain ⟨hk34, hf⟩ := gd_some hf
  refine p_getI X fl_X6_19 rfl (by decide) (dcg dc_X6_advanceWord 1 rfl) hk34 ?_
  refine p_aload_n X (dcg dc_X6_advanceWord 2 rfl) rfl rfl ?_
  refine p_getR X fl_X6_15 rfl (by decide) (dcg dc_X6_advanceWord 3 rfl) hk34 ?_
  obtain ⟨a35, e36, hf⟩ := gs_some hf
  first | subst e36 | (try rw [e36])
  obtain ⟨hk37, hf⟩ := gd_some hf
  refine p_getIn X fl_X6_96 rfl (by decide) (dcg dc_X6_advanceWord 4 rfl) hk37 ?_
  refine p_icmp_ge (tgt := 90) X (dcg dc_X6_advanceWord 5 rfl) (by decide) (fun q => ?_) (fun q => ?_)
  · have hf := if_t q hf
    obtain ⟨y38, hf, hy39⟩ := mr_some hf
    have hy39f := kf y38 hy39
    subst hy39f
    refine p_pick [0] ?_
    exact wX6_advanceWord_b90 X hG hnm hf 
  · have hf := if_f q hf
    refine p_aload_n X (dcg dc_X6_advanceWord 6 rfl) rfl rfl ?_
    refine p_getR X fl_X6_15 rfl (by decide) (dcg dc_X6_advanceWord 7 rfl) hk34 ?_
    obtain ⟨a40, e41, hf⟩ := gs_some hf
    first | subst e41 | (try rw [e41])
    obtain ⟨hk42, hf⟩ := gd_some hf
    refine p_getRn X fl_X6_99 rfl (by decide) (dcg dc_X6_advanceWord 8 rfl) hk42 ?_
    refine p_aload_n X (dcg dc_X6_advanceWord 9 rfl) rfl rfl ?_
    refine p_getI X fl_X6_19 rfl (by decide) (dcg dc_X6_advanceWord 10 rfl) hk34 ?_
    obtain ⟨a43, e44, hf⟩ := gs_some hf
    first | subst e44 | (try rw [e44])
    obtain ⟨⟨hk46, hb45⟩, hf⟩ := gd_some hf
    refine p_iald X (dcg dc_X6_advanceWord 11 rfl) hk46 (vp_of_inb hb45) ?_
    refine p_bipush (v := 97) X (dcg dc_X6_advanceWord 12 rfl) (by decide) ?_
    refine p_icmp_lt (tgt := 90) X (dcg dc_X6_advanceWord 13 rfl) (by decide) (fun q => ?_) (fun q => ?_)
    · have hf := if_t q hf
      obtain ⟨y47, hf, hy48⟩ := mr_some hf
      have hy48f := kf y47 hy48
      subst hy48f
      refine p_pick [0] ?_
      exact wX6_advanceWord_b90 X hG hnm hf 
    · have hf := if_f q hf
      refine p_aload_n X (dcg dc_X6_advanceWord 14 rfl) rfl rfl ?_
      refine p_getR X fl_X6_15 rfl (by decide) (dcg dc_X6_advanceWord 15 rfl) hk34 ?_
      obtain ⟨a49, e50, hf⟩ := gs_some hf
      first | subst e50 | (try rw [e50])
      obtain ⟨hk51, hf⟩ := gd_some hf
      refine p_getRn X fl_X6_99 rfl (by decide) (dcg dc_X6_advanceWord 16 rfl) hk51 ?_
      refine p_aload_n X (dcg dc_X6_advanceWord 17 rfl) rfl rfl ?_
      refine p_getI X fl_X6_19 rfl (by decide) (dcg dc_X6_advanceWord 18 rfl) hk34 ?_
      obtain ⟨a52, e53, hf⟩ := gs_some hf
      first | subst e53 | (try rw [e53])
      obtain ⟨⟨hk55, hb54⟩, hf⟩ := gd_some hf
      refine p_iald X (dcg dc_X6_advanceWord 19 rfl) hk55 (vp_of_inb hb54) ?_
      refine p_bipush (v := 122) X (dcg dc_X6_advanceWord 20 rfl) (by decide) ?_
      refine p_icmp_gt (tgt := 90) X (dcg dc_X6_advanceWord 21 rfl) (by decide) (fun q => ?_) (fun q => ?_)
      · have hf := if_t q hf
        obtain ⟨y56, hf, hy57⟩ := mr_some hf
        have hy57f := kf y56 hy57
        subst hy57f
        refine p_pick [0] ?_
        exact wX6_advanceWord_b90 X hG hnm hf 
      · have hf := if_f q hf
        refine p_aload_n X (dcg dc_X6_advanceWord 22 rfl) rfl rfl ?_
        refine p_aload_n X (dcg dc_X6_advanceWord 23 rfl) rfl rfl ?_
        refine p_getI X fl_X6_83 rfl (by decide) (dcg dc_X6_advanceWord 24 rfl) hk34 ?_
        refine p_bipush (v := 27) X (dcg dc_X6_advanceWord 25 rfl) (by decide) ?_
        refine p_imul X (dcg dc_X6_advanceWord 26 rfl) ?_
        refine p_aload_n X (dcg dc_X6_advanceWord 27 rfl) rfl rfl ?_
        refine p_getR X fl_X6_15 rfl (by decide) (dcg dc_X6_advanceWord 28 rfl) hk34 ?_
        obtain ⟨a58, e59, hf⟩ := gs_some hf
        first | subst e59 | (try rw [e59])
        obtain ⟨hk60, hf⟩ := gd_some hf
        refine p_getRn X fl_X6_99 rfl (by decide) (dcg dc_X6_advanceWord 29 rfl) hk60 ?_
        refine p_aload_n X (dcg dc_X6_advanceWord 30 rfl) rfl rfl ?_
        refine p_getI X fl_X6_19 rfl (by decide) (dcg dc_X6_advanceWord 31 rfl) hk34 ?_
        obtain ⟨a61, e62, hf⟩ := gs_some hf
        first | subst e62 | (try rw [e62])
        obtain ⟨⟨hk64, hb63⟩, hf⟩ := gd_some hf
        refine p_iald X (dcg dc_X6_advanceWord 32 rfl) hk64 (vp_of_inb hb63) ?_
        refine p_iadd X (dcg dc_X6_advanceWord 33 rfl) ?_
        refine p_bipush (v := 97) X (dcg dc_X6_advanceWord 34 rfl) (by decide) ?_
        refine p_isub X (dcg dc_X6_advanceWord 35 rfl) ?_
        refine p_iconst (v := 1) X (dcg dc_X6_advanceWord 36 rfl) (by decide) ?_
        refine p_iadd X (dcg dc_X6_advanceWord 37 rfl) ?_
        refine p_putI X fl_X6_83 rfl (by decide) (fun q hq => by cases hq; rfl) rfl rfl (dcg dc_X6_advanceWord 38 rfl) hk34 ?_
        obtain ⟨h65, rfl, hf⟩ := lt_some hf
        refine p_aload_n X (dcg dc_X6_advanceWord 39 rfl) rfl rfl ?_
        refine p_dup X (dcg dc_X6_advanceWord 40 rfl) rfl ?_
        refine p_getI X fl_X6_19 rfl (by decide) (dcg dc_X6_advanceWord 41 rfl) hk34 ?_
        refine p_iconst (v := 1) X (dcg dc_X6_advanceWord 42 rfl) (by decide) ?_
        refine p_iadd X (dcg dc_X6_advanceWord 43 rfl) ?_
        refine p_putI X fl_X6_19 rfl (by decide) (fun q hq => by cases hq; rfl) rfl rfl (dcg dc_X6_advanceWord 44 rfl) hk34 ?_
        obtain ⟨h66, rfl, hf⟩ := lt_some hf
        refine p_goto (tgt := 0) X (dcg dc_X6_advanceWord 45 rfl) (by decide) ?_
        refine p_pick [0] ?_
        exact k0 _ (Option.some.inj hf).symm
noncomputable def fX6_advanceWord_l0 (v0 : Nat) (h : PH) : Option PH := wh (fun z : (PH) => fX6_advanceWord_c0 v0 (z)) (h)
set_option maxRecDepth 100000 in
theorem mX6_advanceWord_l0 {v0 : Nat} {h : PH} {r : PH} (hf : fX6_advanceWord_l0 v0 h = some r) : eqz h (hX r) (hV r) := by
  unfold fX6_advanceWord_l0 at hf
  refine wh_ind (P := fun z => eqz (z) (hX r) (hV r)) (fun z x0 hs i1 i2 => ?_) _ hf
  obtain ⟨c0, cf⟩ := mX6_advanceWord_c0 (v0 := v0) (h := z) hs
  rcases hxx : x0 with zz | zz
  · exact eqz_tr (c0 zz hxx) (i1 zz hxx)
  · have ee := i2 zz hxx; subst ee; exact cf zz hxx
set_option maxRecDepth 100000 in
theorem wX6_advanceWord_l0 {E : PE} {p : Program} {l : Launch} {e : Env} {s : State} {m : MethodId} {args : Array Value} {below : List Frame} {meth : Method} {c : Code} (X : Cx E p l e (rmv 0 0 0) s m args below meth c RX6 cX6_advanceWord 2 (none)) (hG : Gs E l) (hnm : meth.name = yX6_advanceWord.name) {v0 : Nat} {h : PH} {r : PH} (hf : fX6_advanceWord_l0 v0 h = some r)  : PW E p l e (rmv 0 0 0) s m args below meth c 2 0 0 (MQ below (QG E (fun v u => v = none ∧ u = r)) args s 0 0 (pA E)) h 0 [(0, some (.ref v0))] [] := by
  unfold fX6_advanceWord_l0 at hf
  refine wh_ind (P := fun z => PW E p l e (rmv 0 0 0) s m args below meth c 2 0 0 (MQ below (QG E (fun v u => v = none ∧ u = r)) args s 0 0 (pA E)) (z) 0 [(0, some (.ref v0))] []) (fun z x0 hs i1 i2 => ?_) _ hf
  exact wX6_advanceWord_c0 (r := r) (v0 := v0) (h := z) X hG hnm hs i1  i2
noncomputable def fX6_advanceWord (v0 : Nat) (h : PH) : Option PH :=
  gd (hK h v0 = 6) (gs (hR h 6 v0 0) (fun a2 =>
  gd (hK h a2 = 7) (if ((hI h 7 a2 1) ≤ (hI h 6 v0 2)) then (fX6_advanceWord_b90 v0 h) else
  gs (hR h 6 v0 0) (fun a11 =>
  gd (hK h a11 = 7) (gs (hR h 7 a11 0) (fun a14 =>
  gd (hK h a14 = 20 ∧ inb (hI h 6 v0 2) (hN h a14)) (if ((hI h 20 a14 (Int32.toNatClampNeg (hI h 6 v0 2))) < (97 : Int32)) then (fX6_advanceWord_b90 v0 h) else
  gs (hR h 6 v0 0) (fun a18 =>
  gd (hK h a18 = 7) (gs (hR h 7 a18 0) (fun a21 =>
  gd (hK h a21 = 20 ∧ inb (hI h 6 v0 2) (hN h a21)) (if ((122 : Int32) < (hI h 20 a21 (Int32.toNatClampNeg (hI h 6 v0 2)))) then (fX6_advanceWord_b90 v0 h) else
  gs (hR h 6 v0 0) (fun a25 =>
  gd (hK h a25 = 7) (gs (hR h 7 a25 0) (fun a28 =>
  gd (hK h a28 = 20 ∧ inb (hI h 6 v0 2) (hN h a28)) (lt (sI h 6 v0 5 (((((hI h 6 v0 5) * (27 : Int32)) + (hI h 20 a28 (Int32.toNatClampNeg (hI h 6 v0 2)))) - (97 : Int32)) + (1 : Int32))) (fun h32 =>
  lt (sI h32 6 v0 2 ((hI h32 6 v0 2) + (1 : Int32))) (fun h33 =>
  fX6_advanceWord_l0 v0 h33)))))))))))))))))
set_option maxRecDepth 100000 in
theorem mX6_advanceWord {v0 : Nat} {h : PH} {r : PH} (hf : fX6_advanceWord v0 h = some r) : eqz h (hX r) (hV r) := by
  unfold fX6_advanceWord at hf
  have hle := eqz_rf h
  obtain ⟨hk1, hf⟩ := gd_some hf
  obtain ⟨a2, e3, hf⟩ := gs_some hf
  obtain ⟨hk4, hf⟩ := gd_some hf
  rcases ite_or hf with ⟨q, hf⟩ | ⟨q, hf⟩
  · have hf := if_t q hf
    exact eqz_rt (mX6_advanceWord_b90 hf) hle
  · have hf := if_f q hf
    obtain ⟨a11, e12, hf⟩ := gs_some hf
    obtain ⟨hk13, hf⟩ := gd_some hf
    obtain ⟨a14, e15, hf⟩ := gs_some hf
    obtain ⟨⟨hk17, hb16⟩, hf⟩ := gd_some hf
    rcases ite_or hf with ⟨q, hf⟩ | ⟨q, hf⟩
    · have hf := if_t q hf
      exact eqz_rt (mX6_advanceWord_b90 hf) hle
    · have hf := if_f q hf
      obtain ⟨a18, e19, hf⟩ := gs_some hf
      obtain ⟨hk20, hf⟩ := gd_some hf
      obtain ⟨a21, e22, hf⟩ := gs_some hf
      obtain ⟨⟨hk24, hb23⟩, hf⟩ := gd_some hf
      rcases ite_or hf with ⟨q, hf⟩ | ⟨q, hf⟩
      · have hf := if_t q hf
        exact eqz_rt (mX6_advanceWord_b90 hf) hle
      · have hf := if_f q hf
        obtain ⟨a25, e26, hf⟩ := gs_some hf
        obtain ⟨hk27, hf⟩ := gd_some hf
        obtain ⟨a28, e29, hf⟩ := gs_some hf
        obtain ⟨⟨hk31, hb30⟩, hf⟩ := gd_some hf
        obtain ⟨h32, rfl, hf⟩ := lt_some hf
        obtain ⟨h33, rfl, hf⟩ := lt_some hf
        exact eqz_rt (mX6_advanceWord_l0 hf) hle
set_option maxRecDepth 100000 in
theorem wX6_advanceWord {E : PE} {l : Launch} (hG : Gs E l) {v0 : Nat} {h : PH} {r : PH} (hf : fX6_advanceWord v0 h = some r) : Ct E l 0 0 0 yX6_advanceWord cX6_advanceWord 2 (none) [.ref v0] h (fun v u => v = none ∧ u = r) := by
  refine ct_of hG (by decide) (Nat.le_of_ble_eq_true rfl) ?_
  intro p e s m args below meth c X hnm
  show PW E p l e _ s m args below meth c _ 0 0 _ h 0 [(0, some (.ref v0))] []
  unfold fX6_advanceWord at hf
  refine p_aload_n X (dcg dc_X6_advanceWord 0 rfl) rfl rfl ?_
  obtain ⟨hk1, hf⟩ := gd_some hf
  refine p_getI X fl_X6_19 rfl (by decide) (dcg dc_X6_advanceWord 1 rfl) hk1 ?_
  refine p_aload_n X (dcg dc_X6_advanceWord 2 rfl) rfl rfl ?_
  refine p_getR X fl_X6_15 rfl (by decide) (dcg dc_X6_advanceWord 3 rfl) hk1 ?_
  obtain ⟨a2, e3, hf⟩ := gs_some hf
  first | subst e3 | (try rw [e3])
  obtain ⟨hk4, hf⟩ := gd_some hf
  refine p_getIn X fl_X6_96 rfl (by decide) (dcg dc_X6_advanceWord 4 rfl) hk4 ?_
  refine p_icmp_ge (tgt := 90) X (dcg dc_X6_advanceWord 5 rfl) (by decide) (fun q => ?_) (fun q => ?_)
  · have hf := if_t q hf
    refine p_pick [0] ?_
    exact wX6_advanceWord_b90 X hG hnm hf 
  · have hf := if_f q hf
    refine p_aload_n X (dcg dc_X6_advanceWord 6 rfl) rfl rfl ?_
    refine p_getR X fl_X6_15 rfl (by decide) (dcg dc_X6_advanceWord 7 rfl) hk1 ?_
    obtain ⟨a11, e12, hf⟩ := gs_some hf
    first | subst e12 | (try rw [e12])
    obtain ⟨hk13, hf⟩ := gd_some hf
    refine p_getRn X fl_X6_99 rfl (by decide) (dcg dc_X6_advanceWord 8 rfl) hk13 ?_
    refine p_aload_n X (dcg dc_X6_advanceWord 9 rfl) rfl rfl ?_
    refine p_getI X fl_X6_19 rfl (by decide) (dcg dc_X6_advanceWord 10 rfl) hk1 ?_
    obtain ⟨a14, e15, hf⟩ := gs_some hf
    first | subst e15 | (try rw [e15])
    obtain ⟨⟨hk17, hb16⟩, hf⟩ := gd_some hf
    refine p_iald X (dcg dc_X6_advanceWord 11 rfl) hk17 (vp_of_inb hb16) ?_
    refine p_bipush (v := 97) X (dcg dc_X6_advanceWord 12 rfl) (by decide) ?_
    refine p_icmp_lt (tgt := 90) X (dcg dc_X6_advanceWord 13 rfl) (by decide) (fun q => ?_) (fun q => ?_)
    · have hf := if_t q hf
      refine p_pick [0] ?_
      exact wX6_advanceWord_b90 X hG hnm hf 
    · have hf := if_f q hf
      refine p_aload_n X (dcg dc_X6_advanceWord 14 rfl) rfl rfl ?_
      refine p_getR X fl_X6_15 rfl (by decide) (dcg dc_X6_advanceWord 15 rfl) hk1 ?_
      obtain ⟨a18, e19, hf⟩ := gs_some hf
      first | subst e19 | (try rw [e19])
      obtain ⟨hk20, hf⟩ := gd_some hf
      refine p_getRn X fl_X6_99 rfl (by decide) (dcg dc_X6_advanceWord 16 rfl) hk20 ?_
      refine p_aload_n X (dcg dc_X6_advanceWord 17 rfl) rfl rfl ?_
      refine p_getI X fl_X6_19 rfl (by decide) (dcg dc_X6_advanceWord 18 rfl) hk1 ?_
      obtain ⟨a21, e22, hf⟩ := gs_some hf
      first | subst e22 | (try rw [e22])
      obtain ⟨⟨hk24, hb23⟩, hf⟩ := gd_some hf
      refine p_iald X (dcg dc_X6_advanceWord 19 rfl) hk24 (vp_of_inb hb23) ?_
      refine p_bipush (v := 122) X (dcg dc_X6_advanceWord 20 rfl) (by decide) ?_
      refine p_icmp_gt (tgt := 90) X (dcg dc_X6_advanceWord 21 rfl) (by decide) (fun q => ?_) (fun q => ?_)
      · have hf := if_t q hf
        refine p_pick [0] ?_
        exact wX6_advanceWord_b90 X hG hnm hf 
      · have hf := if_f q hf
        refine p_aload_n X (dcg dc_X6_advanceWord 22 rfl) rfl rfl ?_
        refine p_aload_n X (dcg dc_X6_advanceWord 23 rfl) rfl rfl ?_
        refine p_getI X fl_X6_83 rfl (by decide) (dcg dc_X6_advanceWord 24 rfl) hk1 ?_
        refine p_bipush (v := 27) X (dcg dc_X6_advanceWord 25 rfl) (by decide) ?_
        refine p_imul X (dcg dc_X6_advanceWord 26 rfl) ?_
        refine p_aload_n X (dcg dc_X6_advanceWord 27 rfl) rfl rfl ?_
        refine p_getR X fl_X6_15 rfl (by decide) (dcg dc_X6_advanceWord 28 rfl) hk1 ?_
        obtain ⟨a25, e26, hf⟩ := gs_some hf
        first | subst e26 | (try rw [e26])
        obtain ⟨hk27, hf⟩ := gd_some hf
        refine p_getRn X fl_X6_99 rfl (by decide) (dcg dc_X6_advanceWord 29 rfl) hk27 ?_
        refine p_aload_n X (dcg dc_X6_advanceWord 30 rfl) rfl rfl ?_
        refine p_getI X fl_X6_19 rfl (by decide) (dcg dc_X6_advanceWord 31 rfl) hk1 ?_
        obtain ⟨a28, e29, hf⟩ := gs_some hf
        first | subst e29 | (try rw [e29])
        obtain ⟨⟨hk31, hb30⟩, hf⟩ := gd_some hf
        refine p_iald X (dcg dc_X6_advanceWord 32 rfl) hk31 (vp_of_inb hb30) ?_
        refine p_iadd X (dcg dc_X6_advanceWord 33 rfl) ?_
        refine p_bipush (v := 97) X (dcg dc_X6_advanceWord 34 rfl) (by decide) ?_
        refine p_isub X (dcg dc_X6_advanceWord 35 rfl) ?_
        refine p_iconst (v := 1) X (dcg dc_X6_advanceWord 36 rfl) (by decide) ?_
        refine p_iadd X (dcg dc_X6_advanceWord 37 rfl) ?_
        refine p_putI X fl_X6_83 rfl (by decide) (fun q hq => by cases hq; rfl) rfl rfl (dcg dc_X6_advanceWord 38 rfl) hk1 ?_
        obtain ⟨h32, rfl, hf⟩ := lt_some hf
        refine p_aload_n X (dcg dc_X6_advanceWord 39 rfl) rfl rfl ?_
        refine p_dup X (dcg dc_X6_advanceWord 40 rfl) rfl ?_
        refine p_getI X fl_X6_19 rfl (by decide) (dcg dc_X6_advanceWord 41 rfl) hk1 ?_
        refine p_iconst (v := 1) X (dcg dc_X6_advanceWord 42 rfl) (by decide) ?_
        refine p_iadd X (dcg dc_X6_advanceWord 43 rfl) ?_
        refine p_putI X fl_X6_19 rfl (by decide) (fun q hq => by cases hq; rfl) rfl rfl (dcg dc_X6_advanceWord 44 rfl) hk1 ?_
        obtain ⟨h33, rfl, hf⟩ := lt_some hf
        refine p_goto (tgt := 0) X (dcg dc_X6_advanceWord 45 rfl) (by decide) ?_
        refine p_pick [0] ?_
        exact wX6_advanceWord_l0 X hG hnm hf 
theorem dc_X6_advanceNumber : decs cX6_advanceNumber [(0, .aload_n 0, 1), (1, .getfield 19, 3), (4, .aload_n 0, 1), (5, .getfield 15, 3), (8, .getfield 96, 3), (11, .if_icmp .ge 77, 3), (14, .aload_n 0, 1), (15, .getfield 15, 3), (18, .getfield 99, 3), (21, .aload_n 0, 1), (22, .getfield 19, 3), (25, .iaload, 1), (26, .bipush 48, 2), (28, .if_icmp .lt 60, 3), (31, .aload_n 0, 1), (32, .getfield 15, 3), (35, .getfield 99, 3), (38, .aload_n 0, 1), (39, .getfield 19, 3), (42, .iaload, 1), (43, .bipush 57, 2), (45, .if_icmp .gt 43, 3), (48, .aload_n 0, 1), (49, .aload_n 0, 1), (50, .getfield 83, 3), (53, .bipush 10, 2), (55, .imul, 1), (56, .aload_n 0, 1), (57, .getfield 15, 3), (60, .getfield 99, 3), (63, .aload_n 0, 1), (64, .getfield 19, 3), (67, .iaload, 1), (68, .iadd, 1), (69, .bipush 48, 2), (71, .isub, 1), (72, .putfield 83, 3), (75, .aload_n 0, 1), (76, .dup, 1), (77, .getfield 19, 3), (80, .iconst 1, 1), (81, .iadd, 1), (82, .putfield 19, 3), (85, .goto (-85), 3), (88, .aload_n 0, 1), (89, .getfield 19, 3), (92, .aload_n 0, 1), (93, .getfield 49, 3), (96, .isub, 1), (97, .iconst 2, 1), (98, .if_icmp .gt 24, 3), (101, .aload_n 0, 1), (102, .getfield 83, 3), (105, .iconst 1, 1), (106, .if_icmp .lt 16, 3), (109, .aload_n 0, 1), (110, .getfield 83, 3), (113, .bipush 40, 2), (115, .if_icmp .gt 7, 3), (118, .iconst 1, 1), (119, .goto 4, 3), (122, .iconst 0, 1), (123, .istore_n 1, 1), (124, .aload_n 0, 1), (125, .iload_n 1, 1), (126, .ifCond .eq 7, 3), (129, .iconst 3, 1), (130, .goto 4, 3), (133, .iconst 1, 1), (134, .putfield 36, 3), (137, .return_, 1)] = true := by decide +kernel
noncomputable def fX6_advanceNumber_b134 (t0 : Option Nat) (t1 : Int32) (h : PH) : Option PH :=
  gs t0 (fun a6 =>
  gd (hK h a6 = 6) (lt (sI h 6 a6 3 t1) (fun h9 =>
  some (h9))))
set_option maxRecDepth 100000 in
theorem mX6_advanceNumber_b134 {t0 : Option Nat} {t1 : Int32} {h : PH} {r : PH} (hf : fX6_advanceNumber_b134 t0 t1 h = some r) : eqz h (hX r) (hV r) := by
  unfold fX6_advanceNumber_b134 at hf
  have hle := eqz_rf h
  obtain ⟨a6, e7, hf⟩ := gs_some hf
  obtain ⟨hk8, hf⟩ := gd_some hf
  obtain ⟨h9, rfl, hf⟩ := lt_some hf
  have ee := Option.some.inj hf; subst ee; exact hle
set_option maxRecDepth 100000 in
theorem wX6_advanceNumber_b134 {E : PE} {p : Program} {l : Launch} {e : Env} {s : State} {m : MethodId} {args : Array Value} {below : List Frame} {meth : Method} {c : Code} (X : Cx E p l e (rmv 0 0 0) s m args below meth c RX6 cX6_advanceNumber 2 (none)) (hG : Gs E l) (hnm : meth.name = yX6_advanceNumber.name) {t0 : Option Nat} {t1 : Int32} {h : PH} {r : PH} (hf : fX6_advanceNumber_b134 t0 t1 h = some r)  : PW E p l e (rmv 0 0 0) s m args below meth c 2 0 0 (MQ below (QG E (fun v u => v = none ∧ u = r)) args s 0 0 (pA E)) h 134 [] [.int t1, va_rf t0] := by
  unfold fX6_advanceNumber_b134 at hf
  obtain ⟨a6, e7, hf⟩ := gs_some hf
  first | subst e7 | (try rw [e7])
  obtain ⟨hk8, hf⟩ := gd_some hf
  refine p_putI X fl_X6_36 rfl (by decide) (fun q hq => by cases hq; rfl) rfl rfl (dcg dc_X6_advanceNumber 69 rfl) hk8 ?_
  obtain ⟨h9, rfl, hf⟩ := lt_some hf
  have er := Option.some.inj hf
  subst er
  exact p_vret X rfl (dcg dc_X6_advanceNumber 70 rfl) ⟨rfl, rfl⟩ (Nat.le_refl _) (Nat.le_refl _)
noncomputable def fX6_advanceNumber_b123 (v0 : Nat) (t0 : Int32) (h : PH) : Option PH :=
  if (t0 = 0) then (fX6_advanceNumber_b134 (some v0) (1 : Int32) h) else
  fX6_advanceNumber_b134 (some v0) (3 : Int32) h
set_option maxRecDepth 100000 in
theorem mX6_advanceNumber_b123 {v0 : Nat} {t0 : Int32} {h : PH} {r : PH} (hf : fX6_advanceNumber_b123 v0 t0 h = some r) : eqz h (hX r) (hV r) := by
  unfold fX6_advanceNumber_b123 at hf
  have hle := eqz_rf h
  rcases ite_or hf with ⟨q, hf⟩ | ⟨q, hf⟩
  · have hf := if_t q hf
    exact eqz_rt (mX6_advanceNumber_b134 hf) hle
  · have hf := if_f q hf
    exact eqz_rt (mX6_advanceNumber_b134 hf) hle
set_option maxRecDepth 100000 in
theorem wX6_advanceNumber_b123 {E : PE} {p : Program} {l : Launch} {e : Env} {s : State} {m : MethodId} {args : Array Value} {below : List Frame} {meth : Method} {c : Code} (X : Cx E p l e (rmv 0 0 0) s m args below meth c RX6 cX6_advanceNumber 2 (none)) (hG : Gs E l) (hnm : meth.name = yX6_advanceNumber.name) {v0 : Nat} {t0 : Int32} {h : PH} {r : PH} (hf : fX6_advanceNumber_b123 v0 t0 h = some r)  : PW E p l e (rmv 0 0 0) s m args below meth c 2 0 0 (MQ below (QG E (fun v u => v = none ∧ u = r)) args s 0 0 (pA E)) h 123 [(0, some (.ref v0))] [.int t0] := by
  unfold fX6_advanceNumber_b123 at hf
  refine p_istore_n X (dcg dc_X6_advanceNumber 62 rfl) rfl (by decide) rfl ?_
  refine p_aload_n X (dcg dc_X6_advanceNumber 63 rfl) rfl rfl ?_
  refine p_iload_n X (dcg dc_X6_advanceNumber 64 rfl) rfl rfl ?_
  refine p_if_eq (tgt := 133) X (dcg dc_X6_advanceNumber 65 rfl) (by decide) (fun q => ?_) (fun q => ?_)
  · have hf := if_t q hf
    refine p_iconst (v := 1) X (dcg dc_X6_advanceNumber 68 rfl) (by decide) ?_
    refine p_pick [] ?_
    exact wX6_advanceNumber_b134 X hG hnm hf 
  · have hf := if_f q hf
    refine p_iconst (v := 3) X (dcg dc_X6_advanceNumber 66 rfl) (by decide) ?_
    refine p_goto (tgt := 134) X (dcg dc_X6_advanceNumber 67 rfl) (by decide) ?_
    refine p_pick [] ?_
    exact wX6_advanceNumber_b134 X hG hnm hf 
noncomputable def fX6_advanceNumber_b122 (v0 : Nat) (h : PH) : Option PH :=
  fX6_advanceNumber_b123 v0 (0 : Int32) h
set_option maxRecDepth 100000 in
theorem mX6_advanceNumber_b122 {v0 : Nat} {h : PH} {r : PH} (hf : fX6_advanceNumber_b122 v0 h = some r) : eqz h (hX r) (hV r) := by
  unfold fX6_advanceNumber_b122 at hf
  have hle := eqz_rf h
  exact eqz_rt (mX6_advanceNumber_b123 hf) hle
set_option maxRecDepth 100000 in
theorem wX6_advanceNumber_b122 {E : PE} {p : Program} {l : Launch} {e : Env} {s : State} {m : MethodId} {args : Array Value} {below : List Frame} {meth : Method} {c : Code} (X : Cx E p l e (rmv 0 0 0) s m args below meth c RX6 cX6_advanceNumber 2 (none)) (hG : Gs E l) (hnm : meth.name = yX6_advanceNumber.name) {v0 : Nat} {h : PH} {r : PH} (hf : fX6_advanceNumber_b122 v0 h = some r)  : PW E p l e (rmv 0 0 0) s m args below meth c 2 0 0 (MQ below (QG E (fun v u => v = none ∧ u = r)) args s 0 0 (pA E)) h 122 [(0, some (.ref v0))] [] := by
  unfold fX6_advanceNumber_b122 at hf
  refine p_iconst (v := 0) X (dcg dc_X6_advanceNumber 61 rfl) (by decide) ?_
  refine p_pick [0] ?_
  exact wX6_advanceNumber_b123 X hG hnm hf 
noncomputable def fX6_advanceNumber_b88 (v0 : Nat) (h : PH) : Option PH :=
  gd (hK h v0 = 6) (if ((2 : Int32) < ((hI h 6 v0 2) - (hI h 6 v0 4))) then (fX6_advanceNumber_b122 v0 h) else
  if ((hI h 6 v0 5) < (1 : Int32)) then (fX6_advanceNumber_b122 v0 h) else
  if ((40 : Int32) < (hI h 6 v0 5)) then (fX6_advanceNumber_b122 v0 h) else
  fX6_advanceNumber_b123 v0 (1 : Int32) h)
set_option maxRecDepth 100000 in
theorem mX6_advanceNumber_b88 {v0 : Nat} {h : PH} {r : PH} (hf : fX6_advanceNumber_b88 v0 h = some r) : eqz h (hX r) (hV r) := by
  unfold fX6_advanceNumber_b88 at hf
  have hle := eqz_rf h
  obtain ⟨hk5, hf⟩ := gd_some hf
  rcases ite_or hf with ⟨q, hf⟩ | ⟨q, hf⟩
  · have hf := if_t q hf
    exact eqz_rt (mX6_advanceNumber_b122 hf) hle
  · have hf := if_f q hf
    rcases ite_or hf with ⟨q, hf⟩ | ⟨q, hf⟩
    · have hf := if_t q hf
      exact eqz_rt (mX6_advanceNumber_b122 hf) hle
    · have hf := if_f q hf
      rcases ite_or hf with ⟨q, hf⟩ | ⟨q, hf⟩
      · have hf := if_t q hf
        exact eqz_rt (mX6_advanceNumber_b122 hf) hle
      · have hf := if_f q hf
        exact eqz_rt (mX6_advanceNumber_b123 hf) hle
set_option maxRecDepth 100000 in
theorem wX6_advanceNumber_b88 {E : PE} {p : Program} {l : Launch} {e : Env} {s : State} {m : MethodId} {args : Array Value} {below : List Frame} {meth : Method} {c : Code} (X : Cx E p l e (rmv 0 0 0) s m args below meth c RX6 cX6_advanceNumber 2 (none)) (hG : Gs E l) (hnm : meth.name = yX6_advanceNumber.name) {v0 : Nat} {h : PH} {r : PH} (hf : fX6_advanceNumber_b88 v0 h = some r)  : PW E p l e (rmv 0 0 0) s m args below meth c 2 0 0 (MQ below (QG E (fun v u => v = none ∧ u = r)) args s 0 0 (pA E)) h 88 [(0, some (.ref v0))] [] := by
  unfold fX6_advanceNumber_b88 at hf
  refine p_aload_n X (dcg dc_X6_advanceNumber 44 rfl) rfl rfl ?_
  obtain ⟨hk5, hf⟩ := gd_some hf
  refine p_getI X fl_X6_19 rfl (by decide) (dcg dc_X6_advanceNumber 45 rfl) hk5 ?_
  refine p_aload_n X (dcg dc_X6_advanceNumber 46 rfl) rfl rfl ?_
  refine p_getI X fl_X6_49 rfl (by decide) (dcg dc_X6_advanceNumber 47 rfl) hk5 ?_
  refine p_isub X (dcg dc_X6_advanceNumber 48 rfl) ?_
  refine p_iconst (v := 2) X (dcg dc_X6_advanceNumber 49 rfl) (by decide) ?_
  refine p_icmp_gt (tgt := 122) X (dcg dc_X6_advanceNumber 50 rfl) (by decide) (fun q => ?_) (fun q => ?_)
  · have hf := if_t q hf
    refine p_pick [0] ?_
    exact wX6_advanceNumber_b122 X hG hnm hf 
  · have hf := if_f q hf
    refine p_aload_n X (dcg dc_X6_advanceNumber 51 rfl) rfl rfl ?_
    refine p_getI X fl_X6_83 rfl (by decide) (dcg dc_X6_advanceNumber 52 rfl) hk5 ?_
    refine p_iconst (v := 1) X (dcg dc_X6_advanceNumber 53 rfl) (by decide) ?_
    refine p_icmp_lt (tgt := 122) X (dcg dc_X6_advanceNumber 54 rfl) (by decide) (fun q => ?_) (fun q => ?_)
    · have hf := if_t q hf
      refine p_pick [0] ?_
      exact wX6_advanceNumber_b122 X hG hnm hf 
    · have hf := if_f q hf
      refine p_aload_n X (dcg dc_X6_advanceNumber 55 rfl) rfl rfl ?_
      refine p_getI X fl_X6_83 rfl (by decide) (dcg dc_X6_advanceNumber 56 rfl) hk5 ?_
      refine p_bipush (v := 40) X (dcg dc_X6_advanceNumber 57 rfl) (by decide) ?_
      refine p_icmp_gt (tgt := 122) X (dcg dc_X6_advanceNumber 58 rfl) (by decide) (fun q => ?_) (fun q => ?_)
      · have hf := if_t q hf
        refine p_pick [0] ?_
        exact wX6_advanceNumber_b122 X hG hnm hf 
      · have hf := if_f q hf
        refine p_iconst (v := 1) X (dcg dc_X6_advanceNumber 59 rfl) (by decide) ?_
        refine p_goto (tgt := 123) X (dcg dc_X6_advanceNumber 60 rfl) (by decide) ?_
        refine p_pick [0] ?_
        exact wX6_advanceNumber_b123 X hG hnm hf 
noncomputable def fX6_advanceNumber_c0 (v0 : Nat) (h : PH) : Option ((PH) ⊕ PH) :=
  gd (hK h v0 = 6) (gs (hR h 6 v0 0) (fun a34 =>
  gd (hK h a34 = 7) (if ((hI h 7 a34 1) ≤ (hI h 6 v0 2)) then (mr (fX6_advanceNumber_b88 v0 h)) else
  gs (hR h 6 v0 0) (fun a39 =>
  gd (hK h a39 = 7) (gs (hR h 7 a39 0) (fun a42 =>
  gd (hK h a42 = 20 ∧ inb (hI h 6 v0 2) (hN h a42)) (if ((hI h 20 a42 (Int32.toNatClampNeg (hI h 6 v0 2))) < (48 : Int32)) then (mr (fX6_advanceNumber_b88 v0 h)) else
  gs (hR h 6 v0 0) (fun a48 =>
  gd (hK h a48 = 7) (gs (hR h 7 a48 0) (fun a51 =>
  gd (hK h a51 = 20 ∧ inb (hI h 6 v0 2) (hN h a51)) (if ((57 : Int32) < (hI h 20 a51 (Int32.toNatClampNeg (hI h 6 v0 2)))) then (mr (fX6_advanceNumber_b88 v0 h)) else
  gs (hR h 6 v0 0) (fun a57 =>
  gd (hK h a57 = 7) (gs (hR h 7 a57 0) (fun a60 =>
  gd (hK h a60 = 20 ∧ inb (hI h 6 v0 2) (hN h a60)) (lt (sI h 6 v0 5 ((((hI h 6 v0 5) * (10 : Int32)) + (hI h 20 a60 (Int32.toNatClampNeg (hI h 6 v0 2)))) - (48 : Int32))) (fun h64 =>
  lt (sI h64 6 v0 2 ((hI h64 6 v0 2) + (1 : Int32))) (fun h65 =>
  some (.inl (h65)))))))))))))))))))
set_option maxRecDepth 100000 in
theorem mX6_advanceNumber_c0 {v0 : Nat} {h : PH} {x : ((PH) ⊕ PH)} (hf : fX6_advanceNumber_c0 v0 h = some x) : (∀ w9 : (PH), x = .inl w9 → eqz h (hX (w9)) (hV (w9))) ∧ (∀ w9 : PH, x = .inr w9 → eqz h (hX w9) (hV w9)) := by
  unfold fX6_advanceNumber_c0 at hf
  have hle := eqz_rf h
  obtain ⟨hk33, hf⟩ := gd_some hf
  obtain ⟨a34, e35, hf⟩ := gs_some hf
  obtain ⟨hk36, hf⟩ := gd_some hf
  rcases ite_or hf with ⟨q, hf⟩ | ⟨q, hf⟩
  · have hf := if_t q hf
    obtain ⟨y37, hfm, rfl⟩ := mr_some hf; have hf := hfm; clear hfm
    have cf := mX6_advanceNumber_b88 hf
    exact ⟨(fun z e => nomatch e), (fun z e => by cases e <;> exact eqz_rt cf hle)⟩
  · have hf := if_f q hf
    obtain ⟨a39, e40, hf⟩ := gs_some hf
    obtain ⟨hk41, hf⟩ := gd_some hf
    obtain ⟨a42, e43, hf⟩ := gs_some hf
    obtain ⟨⟨hk45, hb44⟩, hf⟩ := gd_some hf
    rcases ite_or hf with ⟨q, hf⟩ | ⟨q, hf⟩
    · have hf := if_t q hf
      obtain ⟨y46, hfm, rfl⟩ := mr_some hf; have hf := hfm; clear hfm
      have cf := mX6_advanceNumber_b88 hf
      exact ⟨(fun z e => nomatch e), (fun z e => by cases e <;> exact eqz_rt cf hle)⟩
    · have hf := if_f q hf
      obtain ⟨a48, e49, hf⟩ := gs_some hf
      obtain ⟨hk50, hf⟩ := gd_some hf
      obtain ⟨a51, e52, hf⟩ := gs_some hf
      obtain ⟨⟨hk54, hb53⟩, hf⟩ := gd_some hf
      rcases ite_or hf with ⟨q, hf⟩ | ⟨q, hf⟩
      · have hf := if_t q hf
        obtain ⟨y55, hfm, rfl⟩ := mr_some hf; have hf := hfm; clear hfm
        have cf := mX6_advanceNumber_b88 hf
        exact ⟨(fun z e => nomatch e), (fun z e => by cases e <;> exact eqz_rt cf hle)⟩
      · have hf := if_f q hf
        obtain ⟨a57, e58, hf⟩ := gs_some hf
        obtain ⟨hk59, hf⟩ := gd_some hf
        obtain ⟨a60, e61, hf⟩ := gs_some hf
        obtain ⟨⟨hk63, hb62⟩, hf⟩ := gd_some hf
        obtain ⟨h64, rfl, hf⟩ := lt_some hf
        obtain ⟨h65, rfl, hf⟩ := lt_some hf
        have ee := Option.some.inj hf; subst ee
        exact ⟨(fun z e => by have ee := Sum.inl.inj (e); subst ee; exact hle), (fun z e => nomatch e)⟩
set_option maxRecDepth 100000 in
theorem wX6_advanceNumber_c0 {E : PE} {p : Program} {l : Launch} {e : Env} {s : State} {m : MethodId} {args : Array Value} {below : List Frame} {meth : Method} {c : Code} (X : Cx E p l e (rmv 0 0 0) s m args below meth c RX6 cX6_advanceNumber 2 (none)) (hG : Gs E l) (hnm : meth.name = yX6_advanceNumber.name) {v0 : Nat} {h : PH} {r : PH} {x : ((PH) ⊕ PH)} (hf : fX6_advanceNumber_c0 v0 h = some x) (k0 : ∀ z : (PH), x = .inl z → PW E p l e (rmv 0 0 0) s m args below meth c 2 0 0 (MQ below (QG E (fun v u => v = none ∧ u = r)) args s 0 0 (pA E)) (z) 0 [(0, some (.ref v0))] []) (kf : ∀ z : PH, x = .inr z → z = r) : PW E p l e (rmv 0 0 0) s m args below meth c 2 0 0 (MQ below (QG E (fun v u => v = none ∧ u = r)) args s 0 0 (pA E)) h 0 [(0, some (.ref v0))] [] := by
  unfold fX6_advanceNumber_c0 at hf
  refine p_aload_n X (dcg dc_X6_advanceNumber 0 rfl) rfl rfl ?_
  obtain ⟨hk33, hf⟩ := gd_some hf
  refine p_getI X fl_X6_19 rfl (by decide) (dcg dc_X6_advanceNumber 1 rfl) hk33 ?_
  refine p_aload_n X (dcg dc_X6_advanceNumber 2 rfl) rfl rfl ?_
  refine p_getR X fl_X6_15 rfl (by decide) (dcg dc_X6_advanceNumber 3 rfl) hk33 ?_
  obtain ⟨a34, e35, hf⟩ := gs_some hf
  first | subst e35 | (try rw [e35])
  obtain ⟨hk36, hf⟩ := gd_some hf
  refine p_getIn X fl_X6_96 rfl (by decide) (dcg dc_X6_advanceNumber 4 rfl) hk36 ?_
  refine p_icmp_ge (tgt := 88) X (dcg dc_X6_advanceNumber 5 rfl) (by decide) (fun q => ?_) (fun q => ?_)
  · have hf := if_t q hf
    obtain ⟨y37, hf, hy38⟩ := mr_some hf
    have hy38f := kf y37 hy38
    subst hy38f
    refine p_pick [0] ?_
    exact wX6_advanceNumber_b88 X hG hnm hf 
  · have hf := if_f q hf
    refine p_aload_n X (dcg dc_X6_advanceNumber 6 rfl) rfl rfl ?_
    refine p_getR X fl_X6_15 rfl (by decide) (dcg dc_X6_advanceNumber 7 rfl) hk33 ?_
    obtain ⟨a39, e40, hf⟩ := gs_some hf
    first | subst e40 | (try rw [e40])
    obtain ⟨hk41, hf⟩ := gd_some hf
    refine p_getRn X fl_X6_99 rfl (by decide) (dcg dc_X6_advanceNumber 8 rfl) hk41 ?_
    refine p_aload_n X (dcg dc_X6_advanceNumber 9 rfl) rfl rfl ?_
    refine p_getI X fl_X6_19 rfl (by decide) (dcg dc_X6_advanceNumber 10 rfl) hk33 ?_
    obtain ⟨a42, e43, hf⟩ := gs_some hf
    first | subst e43 | (try rw [e43])
    obtain ⟨⟨hk45, hb44⟩, hf⟩ := gd_some hf
    refine p_iald X (dcg dc_X6_advanceNumber 11 rfl) hk45 (vp_of_inb hb44) ?_
    refine p_bipush (v := 48) X (dcg dc_X6_advanceNumber 12 rfl) (by decide) ?_
    refine p_icmp_lt (tgt := 88) X (dcg dc_X6_advanceNumber 13 rfl) (by decide) (fun q => ?_) (fun q => ?_)
    · have hf := if_t q hf
      obtain ⟨y46, hf, hy47⟩ := mr_some hf
      have hy47f := kf y46 hy47
      subst hy47f
      refine p_pick [0] ?_
      exact wX6_advanceNumber_b88 X hG hnm hf 
    · have hf := if_f q hf
      refine p_aload_n X (dcg dc_X6_advanceNumber 14 rfl) rfl rfl ?_
      refine p_getR X fl_X6_15 rfl (by decide) (dcg dc_X6_advanceNumber 15 rfl) hk33 ?_
      obtain ⟨a48, e49, hf⟩ := gs_some hf
      first | subst e49 | (try rw [e49])
      obtain ⟨hk50, hf⟩ := gd_some hf
      refine p_getRn X fl_X6_99 rfl (by decide) (dcg dc_X6_advanceNumber 16 rfl) hk50 ?_
      refine p_aload_n X (dcg dc_X6_advanceNumber 17 rfl) rfl rfl ?_
      refine p_getI X fl_X6_19 rfl (by decide) (dcg dc_X6_advanceNumber 18 rfl) hk33 ?_
      obtain ⟨a51, e52, hf⟩ := gs_some hf
      first | subst e52 | (try rw [e52])
      obtain ⟨⟨hk54, hb53⟩, hf⟩ := gd_some hf
      refine p_iald X (dcg dc_X6_advanceNumber 19 rfl) hk54 (vp_of_inb hb53) ?_
      refine p_bipush (v := 57) X (dcg dc_X6_advanceNumber 20 rfl) (by decide) ?_
      refine p_icmp_gt (tgt := 88) X (dcg dc_X6_advanceNumber 21 rfl) (by decide) (fun q => ?_) (fun q => ?_)
      · have hf := if_t q hf
        obtain ⟨y55, hf, hy56⟩ := mr_some hf
        have hy56f := kf y55 hy56
        subst hy56f
        refine p_pick [0] ?_
        exact wX6_advanceNumber_b88 X hG hnm hf 
      · have hf := if_f q hf
        refine p_aload_n X (dcg dc_X6_advanceNumber 22 rfl) rfl rfl ?_
        refine p_aload_n X (dcg dc_X6_advanceNumber 23 rfl) rfl rfl ?_
        refine p_getI X fl_X6_83 rfl (by decide) (dcg dc_X6_advanceNumber 24 rfl) hk33 ?_
        refine p_bipush (v := 10) X (dcg dc_X6_advanceNumber 25 rfl) (by decide) ?_
        refine p_imul X (dcg dc_X6_advanceNumber 26 rfl) ?_
        refine p_aload_n X (dcg dc_X6_advanceNumber 27 rfl) rfl rfl ?_
        refine p_getR X fl_X6_15 rfl (by decide) (dcg dc_X6_advanceNumber 28 rfl) hk33 ?_
        obtain ⟨a57, e58, hf⟩ := gs_some hf
        first | subst e58 | (try rw [e58])
        obtain ⟨hk59, hf⟩ := gd_some hf
        refine p_getRn X fl_X6_99 rfl (by decide) (dcg dc_X6_advanceNumber 29 rfl) hk59 ?_
        refine p_aload_n X (dcg dc_X6_advanceNumber 30 rfl) rfl rfl ?_
        refine p_getI X fl_X6_19 rfl (by decide) (dcg dc_X6_advanceNumber 31 rfl) hk33 ?_
        obtain ⟨a60, e61, hf⟩ := gs_some hf
        first | subst e61 | (try rw [e61])
        obtain ⟨⟨hk63, hb62⟩, hf⟩ := gd_some hf
        refine p_iald X (dcg dc_X6_advanceNumber 32 rfl) hk63 (vp_of_inb hb62) ?_
        refine p_iadd X (dcg dc_X6_advanceNumber 33 rfl) ?_
        refine p_bipush (v := 48) X (dcg dc_X6_advanceNumber 34 rfl) (by decide) ?_
        refine p_isub X (dcg dc_X6_advanceNumber 35 rfl) ?_
        refine p_putI X fl_X6_83 rfl (by decide) (fun q hq => by cases hq; rfl) rfl rfl (dcg dc_X6_advanceNumber 36 rfl) hk33 ?_
        obtain ⟨h64, rfl, hf⟩ := lt_some hf
        refine p_aload_n X (dcg dc_X6_advanceNumber 37 rfl) rfl rfl ?_
        refine p_dup X (dcg dc_X6_advanceNumber 38 rfl) rfl ?_
        refine p_getI X fl_X6_19 rfl (by decide) (dcg dc_X6_advanceNumber 39 rfl) hk33 ?_
        refine p_iconst (v := 1) X (dcg dc_X6_advanceNumber 40 rfl) (by decide) ?_
        refine p_iadd X (dcg dc_X6_advanceNumber 41 rfl) ?_
        refine p_putI X fl_X6_19 rfl (by decide) (fun q hq => by cases hq; rfl) rfl rfl (dcg dc_X6_advanceNumber 42 rfl) hk33 ?_
        obtain ⟨h65, rfl, hf⟩ := lt_some hf
        refine p_goto (tgt := 0) X (dcg dc_X6_advanceNumber 43 rfl) (by decide) ?_
        refine p_pick [0] ?_
        exact k0 _ (Option.some.inj hf).symm
noncomputable def fX6_advanceNumber_l0 (v0 : Nat) (h : PH) : Option PH := wh (fun z : (PH) => fX6_advanceNumber_c0 v0 (z)) (h)
set_option maxRecDepth 100000 in
theorem mX6_advanceNumber_l0 {v0 : Nat} {h : PH} {r : PH} (hf : fX6_advanceNumber_l0 v0 h = some r) : eqz h (hX r) (hV r) := by
  unfold fX6_advanceNumber_l0 at hf
  refine wh_ind (P := fun z => eqz (z) (hX r) (hV r)) (fun z x0 hs i1 i2 => ?_) _ hf
  obtain ⟨c0, cf⟩ := mX6_advanceNumber_c0 (v0 := v0) (h := z) hs
  rcases hxx : x0 with zz | zz
  · exact eqz_tr (c0 zz hxx) (i1 zz hxx)
  · have ee := i2 zz hxx; subst ee; exact cf zz hxx
set_option maxRecDepth 100000 in
theorem wX6_advanceNumber_l0 {E : PE} {p : Program} {l : Launch} {e : Env} {s : State} {m : MethodId} {args : Array Value} {below : List Frame} {meth : Method} {c : Code} (X : Cx E p l e (rmv 0 0 0) s m args below meth c RX6 cX6_advanceNumber 2 (none)) (hG : Gs E l) (hnm : meth.name = yX6_advanceNumber.name) {v0 : Nat} {h : PH} {r : PH} (hf : fX6_advanceNumber_l0 v0 h = some r)  : PW E p l e (rmv 0 0 0) s m args below meth c 2 0 0 (MQ below (QG E (fun v u => v = none ∧ u = r)) args s 0 0 (pA E)) h 0 [(0, some (.ref v0))] [] := by
  unfold fX6_advanceNumber_l0 at hf
  refine wh_ind (P := fun z => PW E p l e (rmv 0 0 0) s m args below meth c 2 0 0 (MQ below (QG E (fun v u => v = none ∧ u = r)) args s 0 0 (pA E)) (z) 0 [(0, some (.ref v0))] []) (fun z x0 hs i1 i2 => ?_) _ hf
  exact wX6_advanceNumber_c0 (r := r) (v0 := v0) (h := z) X hG hnm hs i1  i2
noncomputable def fX6_advanceNumber (v0 : Nat) (h : PH) : Option PH :=
  gd (hK h v0 = 6) (gs (hR h 6 v0 0) (fun a2 =>
  gd (hK h a2 = 7) (if ((hI h 7 a2 1) ≤ (hI h 6 v0 2)) then (fX6_advanceNumber_b88 v0 h) else
  gs (hR h 6 v0 0) (fun a10 =>
  gd (hK h a10 = 7) (gs (hR h 7 a10 0) (fun a13 =>
  gd (hK h a13 = 20 ∧ inb (hI h 6 v0 2) (hN h a13)) (if ((hI h 20 a13 (Int32.toNatClampNeg (hI h 6 v0 2))) < (48 : Int32)) then (fX6_advanceNumber_b88 v0 h) else
  gs (hR h 6 v0 0) (fun a17 =>
  gd (hK h a17 = 7) (gs (hR h 7 a17 0) (fun a20 =>
  gd (hK h a20 = 20 ∧ inb (hI h 6 v0 2) (hN h a20)) (if ((57 : Int32) < (hI h 20 a20 (Int32.toNatClampNeg (hI h 6 v0 2)))) then (fX6_advanceNumber_b88 v0 h) else
  gs (hR h 6 v0 0) (fun a24 =>
  gd (hK h a24 = 7) (gs (hR h 7 a24 0) (fun a27 =>
  gd (hK h a27 = 20 ∧ inb (hI h 6 v0 2) (hN h a27)) (lt (sI h 6 v0 5 ((((hI h 6 v0 5) * (10 : Int32)) + (hI h 20 a27 (Int32.toNatClampNeg (hI h 6 v0 2)))) - (48 : Int32))) (fun h31 =>
  lt (sI h31 6 v0 2 ((hI h31 6 v0 2) + (1 : Int32))) (fun h32 =>
  fX6_advanceNumber_l0 v0 h32)))))))))))))))))
set_option maxRecDepth 100000 in
theorem mX6_advanceNumber {v0 : Nat} {h : PH} {r : PH} (hf : fX6_advanceNumber v0 h = some r) : eqz h (hX r) (hV r) := by
  unfold fX6_advanceNumber at hf
  have hle := eqz_rf h
  obtain ⟨hk1, hf⟩ := gd_some hf
  obtain ⟨a2, e3, hf⟩ := gs_some hf
  obtain ⟨hk4, hf⟩ := gd_some hf
  rcases ite_or hf with ⟨q, hf⟩ | ⟨q, hf⟩
  · have hf := if_t q hf
    exact eqz_rt (mX6_advanceNumber_b88 hf) hle
  · have hf := if_f q hf
    obtain ⟨a10, e11, hf⟩ := gs_some hf
    obtain ⟨hk12, hf⟩ := gd_some hf
    obtain ⟨a13, e14, hf⟩ := gs_some hf
    obtain ⟨⟨hk16, hb15⟩, hf⟩ := gd_some hf
    rcases ite_or hf with ⟨q, hf⟩ | ⟨q, hf⟩
    · have hf := if_t q hf
      exact eqz_rt (mX6_advanceNumber_b88 hf) hle
    · have hf := if_f q hf
      obtain ⟨a17, e18, hf⟩ := gs_some hf
      obtain ⟨hk19, hf⟩ := gd_some hf
      obtain ⟨a20, e21, hf⟩ := gs_some hf
      obtain ⟨⟨hk23, hb22⟩, hf⟩ := gd_some hf
      rcases ite_or hf with ⟨q, hf⟩ | ⟨q, hf⟩
      · have hf := if_t q hf
        exact eqz_rt (mX6_advanceNumber_b88 hf) hle
      · have hf := if_f q hf
        obtain ⟨a24, e25, hf⟩ := gs_some hf
        obtain ⟨hk26, hf⟩ := gd_some hf
        obtain ⟨a27, e28, hf⟩ := gs_some hf
        obtain ⟨⟨hk30, hb29⟩, hf⟩ := gd_some hf
        obtain ⟨h31, rfl, hf⟩ := lt_some hf
        obtain ⟨h32, rfl, hf⟩ := lt_some hf
        exact eqz_rt (mX6_advanceNumber_l0 hf) hle
set_option maxRecDepth 100000 in
theorem wX6_advanceNumber {E : PE} {l : Launch} (hG : Gs E l) {v0 : Nat} {h : PH} {r : PH} (hf : fX6_advanceNumber v0 h = some r) : Ct E l 0 0 0 yX6_advanceNumber cX6_advanceNumber 2 (none) [.ref v0] h (fun v u => v = none ∧ u = r) := by
  refine ct_of hG (by decide) (Nat.le_of_ble_eq_true rfl) ?_
  intro p e s m args below meth c X hnm
  show PW E p l e _ s m args below meth c _ 0 0 _ h 0 [(0, some (.ref v0))] []
  unfold fX6_advanceNumber at hf
  refine p_aload_n X (dcg dc_X6_advanceNumber 0 rfl) rfl rfl ?_
  obtain ⟨hk1, hf⟩ := gd_some hf
  refine p_getI X fl_X6_19 rfl (by decide) (dcg dc_X6_advanceNumber 1 rfl) hk1 ?_
  refine p_aload_n X (dcg dc_X6_advanceNumber 2 rfl) rfl rfl ?_
  refine p_getR X fl_X6_15 rfl (by decide) (dcg dc_X6_advanceNumber 3 rfl) hk1 ?_
  obtain ⟨a2, e3, hf⟩ := gs_some hf
  first | subst e3 | (try rw [e3])
  obtain ⟨hk4, hf⟩ := gd_some hf
  refine p_getIn X fl_X6_96 rfl (by decide) (dcg dc_X6_advanceNumber 4 rfl) hk4 ?_
  refine p_icmp_ge (tgt := 88) X (dcg dc_X6_advanceNumber 5 rfl) (by decide) (fun q => ?_) (fun q => ?_)
  · have hf := if_t q hf
    refine p_pick [0] ?_
    exact wX6_advanceNumber_b88 X hG hnm hf 
  · have hf := if_f q hf
    refine p_aload_n X (dcg dc_X6_advanceNumber 6 rfl) rfl rfl ?_
    refine p_getR X fl_X6_15 rfl (by decide) (dcg dc_X6_advanceNumber 7 rfl) hk1 ?_
    obtain ⟨a10, e11, hf⟩ := gs_some hf
    first | subst e11 | (try rw [e11])
    obtain ⟨hk12, hf⟩ := gd_some hf
    refine p_getRn X fl_X6_99 rfl (by decide) (dcg dc_X6_advanceNumber 8 rfl) hk12 ?_
    refine p_aload_n X (dcg dc_X6_advanceNumber 9 rfl) rfl rfl ?_
    refine p_getI X fl_X6_19 rfl (by decide) (dcg dc_X6_advanceNumber 10 rfl) hk1 ?_
    obtain ⟨a13, e14, hf⟩ := gs_some hf
    first | subst e14 | (try rw [e14])
    obtain ⟨⟨hk16, hb15⟩, hf⟩ := gd_some hf
    refine p_iald X (dcg dc_X6_advanceNumber 11 rfl) hk16 (vp_of_inb hb15) ?_
    refine p_bipush (v := 48) X (dcg dc_X6_advanceNumber 12 rfl) (by decide) ?_
    refine p_icmp_lt (tgt := 88) X (dcg dc_X6_advanceNumber 13 rfl) (by decide) (fun q => ?_) (fun q => ?_)
    · have hf := if_t q hf
      refine p_pick [0] ?_
      exact wX6_advanceNumber_b88 X hG hnm hf 
    · have hf := if_f q hf
      refine p_aload_n X (dcg dc_X6_advanceNumber 14 rfl) rfl rfl ?_
      refine p_getR X fl_X6_15 rfl (by decide) (dcg dc_X6_advanceNumber 15 rfl) hk1 ?_
      obtain ⟨a17, e18, hf⟩ := gs_some hf
      first | subst e18 | (try rw [e18])
      obtain ⟨hk19, hf⟩ := gd_some hf
      refine p_getRn X fl_X6_99 rfl (by decide) (dcg dc_X6_advanceNumber 16 rfl) hk19 ?_
      refine p_aload_n X (dcg dc_X6_advanceNumber 17 rfl) rfl rfl ?_
      refine p_getI X fl_X6_19 rfl (by decide) (dcg dc_X6_advanceNumber 18 rfl) hk1 ?_
      obtain ⟨a20, e21, hf⟩ := gs_some hf
      first | subst e21 | (try rw [e21])
      obtain ⟨⟨hk23, hb22⟩, hf⟩ := gd_some hf
      refine p_iald X (dcg dc_X6_advanceNumber 19 rfl) hk23 (vp_of_inb hb22) ?_
      refine p_bipush (v := 57) X (dcg dc_X6_advanceNumber 20 rfl) (by decide) ?_
      refine p_icmp_gt (tgt := 88) X (dcg dc_X6_advanceNumber 21 rfl) (by decide) (fun q => ?_) (fun q => ?_)
      · have hf := if_t q hf
        refine p_pick [0] ?_
        exact wX6_advanceNumber_b88 X hG hnm hf 
      · have hf := if_f q hf
        refine p_aload_n X (dcg dc_X6_advanceNumber 22 rfl) rfl rfl ?_
        refine p_aload_n X (dcg dc_X6_advanceNumber 23 rfl) rfl rfl ?_
        refine p_getI X fl_X6_83 rfl (by decide) (dcg dc_X6_advanceNumber 24 rfl) hk1 ?_
        refine p_bipush (v := 10) X (dcg dc_X6_advanceNumber 25 rfl) (by decide) ?_
        refine p_imul X (dcg dc_X6_advanceNumber 26 rfl) ?_
        refine p_aload_n X (dcg dc_X6_advanceNumber 27 rfl) rfl rfl ?_
        refine p_getR X fl_X6_15 rfl (by decide) (dcg dc_X6_advanceNumber 28 rfl) hk1 ?_
        obtain ⟨a24, e25, hf⟩ := gs_some hf
        first | subst e25 | (try rw [e25])
        obtain ⟨hk26, hf⟩ := gd_some hf
        refine p_getRn X fl_X6_99 rfl (by decide) (dcg dc_X6_advanceNumber 29 rfl) hk26 ?_
        refine p_aload_n X (dcg dc_X6_advanceNumber 30 rfl) rfl rfl ?_
        refine p_getI X fl_X6_19 rfl (by decide) (dcg dc_X6_advanceNumber 31 rfl) hk1 ?_
        obtain ⟨a27, e28, hf⟩ := gs_some hf
        first | subst e28 | (try rw [e28])
        obtain ⟨⟨hk30, hb29⟩, hf⟩ := gd_some hf
        refine p_iald X (dcg dc_X6_advanceNumber 32 rfl) hk30 (vp_of_inb hb29) ?_
        refine p_iadd X (dcg dc_X6_advanceNumber 33 rfl) ?_
        refine p_bipush (v := 48) X (dcg dc_X6_advanceNumber 34 rfl) (by decide) ?_
        refine p_isub X (dcg dc_X6_advanceNumber 35 rfl) ?_
        refine p_putI X fl_X6_83 rfl (by decide) (fun q hq => by cases hq; rfl) rfl rfl (dcg dc_X6_advanceNumber 36 rfl) hk1 ?_
        obtain ⟨h31, rfl, hf⟩ := lt_some hf
        refine p_aload_n X (dcg dc_X6_advanceNumber 37 rfl) rfl rfl ?_
        refine p_dup X (dcg dc_X6_advanceNumber 38 rfl) rfl ?_
        refine p_getI X fl_X6_19 rfl (by decide) (dcg dc_X6_advanceNumber 39 rfl) hk1 ?_
        refine p_iconst (v := 1) X (dcg dc_X6_advanceNumber 40 rfl) (by decide) ?_
        refine p_iadd X (dcg dc_X6_advanceNumber 41 rfl) ?_
        refine p_putI X fl_X6_19 rfl (by decide) (fun q hq => by cases hq; rfl) rfl rfl (dcg dc_X6_advanceNumber 42 rfl) hk1 ?_
        obtain ⟨h32, rfl, hf⟩ := lt_some hf
        refine p_goto (tgt := 0) X (dcg dc_X6_advanceNumber 43 rfl) (by decide) ?_
        refine p_pick [0] ?_
        exact wX6_advanceNumber_l0 X hG hnm hf 
theorem dc_X6_isSign : decs cX6_isSign [(0, .iload_n 0, 1), (1, .lookupswitch 85 #[(33, 83), (38, 83), (40, 83), (41, 83), (42, 83), (91, 83), (93, 83), (124, 83), (126, 83)], 83), (84, .iconst 1, 1), (85, .ireturn, 1), (86, .iconst 0, 1), (87, .ireturn, 1)] = true := by decide +kernel
noncomputable def fX6_isSign_b84  : Option Int32 :=
  some ((1 : Int32))
set_option maxRecDepth 100000 in
theorem wX6_isSign_b84 {E : PE} {p : Program} {l : Launch} {e : Env} {s : State} {m : MethodId} {args : Array Value} {below : List Frame} {meth : Method} {c : Code} (X : Cx E p l e (rmv 0 0 0) s m args below meth c RX6 cX6_isSign 1 (some .boolean)) (hG : Gs E l) (hnm : meth.name = yX6_isSign.name)  {h : PH} {r : Int32} (hf : fX6_isSign_b84  = some r)  : PW E p l e (rmv 0 0 0) s m args below meth c 1 0 0 (MQ below (QG E (fun v u => v = some (.int r) ∧ u = h)) args s 0 0 (pA E)) h 84 [] [] := by
  unfold fX6_isSign_b84 at hf
  refine p_iconst (v := 1) X (dcg dc_X6_isSign 2 rfl) (by decide) ?_
  have er := Option.some.inj hf
  subst er
  exact p_zret X rfl rfl (dcg dc_X6_isSign 3 rfl) ⟨rfl, rfl⟩ (Nat.le_refl _) (Nat.le_refl _)
noncomputable def fX6_isSign (v0 : Int32) : Option Int32 :=
  if v0 = 33 then (fX6_isSign_b84 ) else
  if v0 = 38 then (fX6_isSign_b84 ) else
  if v0 = 40 then (fX6_isSign_b84 ) else
  if v0 = 41 then (fX6_isSign_b84 ) else
  if v0 = 42 then (fX6_isSign_b84 ) else
  if v0 = 91 then (fX6_isSign_b84 ) else
  if v0 = 93 then (fX6_isSign_b84 ) else
  if v0 = 124 then (fX6_isSign_b84 ) else
  if v0 = 126 then (fX6_isSign_b84 ) else
  some ((0 : Int32))
set_option maxRecDepth 100000 in
theorem wX6_isSign {E : PE} {l : Launch} (hG : Gs E l) {v0 : Int32} {h : PH} {r : Int32} (hf : fX6_isSign v0 = some r) : Ct E l 0 0 0 yX6_isSign cX6_isSign 1 (some .boolean) [.int v0] h (fun v u => v = some (.int r) ∧ u = h) := by
  refine ct_of hG (by decide) (Nat.le_of_ble_eq_true rfl) ?_
  intro p e s m args below meth c X hnm
  show PW E p l e _ s m args below meth c _ 0 0 _ h 0 [(0, some (.int v0))] []
  unfold fX6_isSign at hf
  refine p_iload_n X (dcg dc_X6_isSign 0 rfl) rfl rfl ?_
  by_cases hq33 : v0 = 33
  · have hf := if_t hq33 hf
    refine p_lookupK (k := 33) (tgt := 84) X (dcg dc_X6_isSign 1 rfl) (by decide) hq33 (by decide) (by decide) (by decide) ?_
    refine p_pick [] ?_
    exact wX6_isSign_b84 X hG hnm hf 
  · have hf := if_f hq33 hf
    by_cases hq38 : v0 = 38
    · have hf := if_t hq38 hf
      refine p_lookupK (k := 38) (tgt := 84) X (dcg dc_X6_isSign 1 rfl) (by decide) hq38 (by decide) (by decide) (by decide) ?_
      refine p_pick [] ?_
      exact wX6_isSign_b84 X hG hnm hf 
    · have hf := if_f hq38 hf
      by_cases hq40 : v0 = 40
      · have hf := if_t hq40 hf
        refine p_lookupK (k := 40) (tgt := 84) X (dcg dc_X6_isSign 1 rfl) (by decide) hq40 (by decide) (by decide) (by decide) ?_
        refine p_pick [] ?_
        exact wX6_isSign_b84 X hG hnm hf 
      · have hf := if_f hq40 hf
        by_cases hq41 : v0 = 41
        · have hf := if_t hq41 hf
          refine p_lookupK (k := 41) (tgt := 84) X (dcg dc_X6_isSign 1 rfl) (by decide) hq41 (by decide) (by decide) (by decide) ?_
          refine p_pick [] ?_
          exact wX6_isSign_b84 X hG hnm hf 
        · have hf := if_f hq41 hf
          by_cases hq42 : v0 = 42
          · have hf := if_t hq42 hf
            refine p_lookupK (k := 42) (tgt := 84) X (dcg dc_X6_isSign 1 rfl) (by decide) hq42 (by decide) (by decide) (by decide) ?_
            refine p_pick [] ?_
            exact wX6_isSign_b84 X hG hnm hf 
          · have hf := if_f hq42 hf
            by_cases hq91 : v0 = 91
            · have hf := if_t hq91 hf
              refine p_lookupK (k := 91) (tgt := 84) X (dcg dc_X6_isSign 1 rfl) (by decide) hq91 (by decide) (by decide) (by decide) ?_
              refine p_pick [] ?_
              exact wX6_isSign_b84 X hG hnm hf 
            · have hf := if_f hq91 hf
              by_cases hq93 : v0 = 93
              · have hf := if_t hq93 hf
                refine p_lookupK (k := 93) (tgt := 84) X (dcg dc_X6_isSign 1 rfl) (by decide) hq93 (by decide) (by decide) (by decide) ?_
                refine p_pick [] ?_
                exact wX6_isSign_b84 X hG hnm hf 
              · have hf := if_f hq93 hf
                by_cases hq124 : v0 = 124
                · have hf := if_t hq124 hf
                  refine p_lookupK (k := 124) (tgt := 84) X (dcg dc_X6_isSign 1 rfl) (by decide) hq124 (by decide) (by decide) (by decide) ?_
                  refine p_pick [] ?_
                  exact wX6_isSign_b84 X hG hnm hf 
                · have hf := if_f hq124 hf
                  by_cases hq126 : v0 = 126
                  · have hf := if_t hq126 hf
                    refine p_lookupK (k := 126) (tgt := 84) X (dcg dc_X6_isSign 1 rfl) (by decide) hq126 (by decide) (by decide) (by decide) ?_
                    refine p_pick [] ?_
                    exact wX6_isSign_b84 X hG hnm hf 
                  · have hf := if_f hq126 hf
                    refine p_lookupD (tgt := 86) X (dcg dc_X6_isSign 1 rfl) (by decide) (by simp [hq33, hq38, hq40, hq41, hq42, hq91, hq93, hq124, hq126]) (by decide) ?_
                    refine p_iconst (v := 0) X (dcg dc_X6_isSign 4 rfl) (by decide) ?_
                    have er := Option.some.inj hf
                    subst er
                    exact p_zret X rfl rfl (dcg dc_X6_isSign 5 rfl) ⟨rfl, rfl⟩ (Nat.le_refl _) (Nat.le_refl _)
theorem dc_X6_advance : decs cX6_advance [(0, .aload_n 0, 1), (1, .getfield 19, 3), (4, .aload_n 0, 1), (5, .getfield 15, 3), (8, .getfield 96, 3), (11, .if_icmp .ge 50, 3), (14, .aload_n 0, 1), (15, .getfield 15, 3), (18, .getfield 99, 3), (21, .aload_n 0, 1), (22, .getfield 19, 3), (25, .iaload, 1), (26, .bipush 32, 2), (28, .if_icmp .eq 20, 3), (31, .aload_n 0, 1), (32, .getfield 15, 3), (35, .getfield 99, 3), (38, .aload_n 0, 1), (39, .getfield 19, 3), (42, .iaload, 1), (43, .bipush 10, 2), (45, .if_icmp .ne 16, 3), (48, .aload_n 0, 1), (49, .dup, 1), (50, .getfield 19, 3), (53, .iconst 1, 1), (54, .iadd, 1), (55, .putfield 19, 3), (58, .goto (-58), 3), (61, .aload_n 0, 1), (62, .aload_n 0, 1), (63, .getfield 19, 3), (66, .putfield 49, 3), (69, .aload_n 0, 1), (70, .iconst 0, 1), (71, .putfield 83, 3), (74, .aload_n 0, 1), (75, .iconst 0, 1), (76, .putfield 36, 3), (79, .aload_n 0, 1), (80, .getfield 19, 3), (83, .aload_n 0, 1), (84, .getfield 15, 3), (87, .getfield 96, 3), (90, .if_icmp .lt 4, 3), (93, .return_, 1), (94, .aload_n 0, 1), (95, .getfield 15, 3), (98, .getfield 99, 3), (101, .aload_n 0, 1), (102, .getfield 19, 3), (105, .iaload, 1), (106, .istore_n 1, 1), (107, .iload_n 1, 1), (108, .bipush 97, 2), (110, .if_icmp .lt 16, 3), (113, .iload_n 1, 1), (114, .bipush 122, 2), (116, .if_icmp .gt 10, 3), (119, .aload_n 0, 1), (120, .invokevirtual 102, 3), (123, .goto 48, 3), (126, .iload_n 1, 1), (127, .bipush 48, 2), (129, .if_icmp .lt 16, 3), (132, .iload_n 1, 1), (133, .bipush 57, 2), (135, .if_icmp .gt 10, 3), (138, .aload_n 0, 1), (139, .invokevirtual 105, 3), (142, .goto 29, 3), (145, .aload_n 0, 1), (146, .iload_n 1, 1), (147, .invokestatic 108, 3), (150, .ifCond .eq 7, 3), (153, .iload_n 1, 1), (154, .goto 4, 3), (157, .iconst 1, 1), (158, .putfield 36, 3), (161, .aload_n 0, 1), (162, .dup, 1), (163, .getfield 19, 3), (166, .iconst 1, 1), (167, .iadd, 1), (168, .putfield 19, 3), (171, .return_, 1)] = true := by decide +kernel
noncomputable def fX6_advance_b171  (h : PH) : Option PH :=
  some (h)
set_option maxRecDepth 100000 in
theorem mX6_advance_b171  {h : PH} {r : PH} (hf : fX6_advance_b171  h = some r) : eqz h (hX r) (hV r) := by
  unfold fX6_advance_b171 at hf
  have hle := eqz_rf h
  have ee := Option.some.inj hf; subst ee; exact hle
set_option maxRecDepth 100000 in
theorem wX6_advance_b171 {E : PE} {p : Program} {l : Launch} {e : Env} {s : State} {m : MethodId} {args : Array Value} {below : List Frame} {meth : Method} {c : Code} (X : Cx E p l e (rmv 1 0 0) s m args below meth c RX6 cX6_advance 2 (none)) (hG : Gs E l) (hnm : meth.name = yX6_advance.name)  {h : PH} {r : PH} (hf : fX6_advance_b171  h = some r)  : PW E p l e (rmv 1 0 0) s m args below meth c 2 0 0 (MQ below (QG E (fun v u => v = none ∧ u = r)) args s 0 0 (pA E)) h 171 [] [] := by
  unfold fX6_advance_b171 at hf
  have er := Option.some.inj hf
  subst er
  exact p_vret X rfl (dcg dc_X6_advance 85 rfl) ⟨rfl, rfl⟩ (Nat.le_refl _) (Nat.le_refl _)
noncomputable def fX6_advance_b158 (v0 : Nat) (t0 : Option Nat) (t1 : Int32) (h : PH) : Option PH :=
  gs t0 (fun a20 =>
  gd (hK h a20 = 6) (lt (sI h 6 a20 3 t1) (fun h23 =>
  gd (hK h23 v0 = 6) (lt (sI h23 6 v0 2 ((hI h23 6 v0 2) + (1 : Int32))) (fun h25 =>
  fX6_advance_b171  h25)))))
set_option maxRecDepth 100000 in
theorem mX6_advance_b158 {v0 : Nat} {t0 : Option Nat} {t1 : Int32} {h : PH} {r : PH} (hf : fX6_advance_b158 v0 t0 t1 h = some r) : eqz h (hX r) (hV r) := by
  unfold fX6_advance_b158 at hf
  have hle := eqz_rf h
  obtain ⟨a20, e21, hf⟩ := gs_some hf
  obtain ⟨hk22, hf⟩ := gd_some hf
  obtain ⟨h23, rfl, hf⟩ := lt_some hf
  obtain ⟨hk24, hf⟩ := gd_some hf
  obtain ⟨h25, rfl, hf⟩ := lt_some hf
  exact eqz_rt (mX6_advance_b171 hf) hle
set_option maxRecDepth 100000 in
theorem wX6_advance_b158 {E : PE} {p : Program} {l : Launch} {e : Env} {s : State} {m : MethodId} {args : Array Value} {below : List Frame} {meth : Method} {c : Code} (X : Cx E p l e (rmv 1 0 0) s m args below meth c RX6 cX6_advance 2 (none)) (hG : Gs E l) (hnm : meth.name = yX6_advance.name) {v0 : Nat} {t0 : Option Nat} {t1 : Int32} {h : PH} {r : PH} (hf : fX6_advance_b158 v0 t0 t1 h = some r)  : PW E p l e (rmv 1 0 0) s m args below meth c 2 0 0 (MQ below (QG E (fun v u => v = none ∧ u = r)) args s 0 0 (pA E)) h 158 [(0, some (.ref v0))] [.int t1, va_rf t0] := by
  unfold fX6_advance_b158 at hf
  obtain ⟨a20, e21, hf⟩ := gs_some hf
  first | subst e21 | (try rw [e21])
  obtain ⟨hk22, hf⟩ := gd_some hf
  refine p_putI X fl_X6_36 rfl (by decide) (fun q hq => by cases hq; rfl) rfl rfl (dcg dc_X6_advance 78 rfl) hk22 ?_
  obtain ⟨h23, rfl, hf⟩ := lt_some hf
  refine p_aload_n X (dcg dc_X6_advance 79 rfl) rfl rfl ?_
  refine p_dup X (dcg dc_X6_advance 80 rfl) rfl ?_
  obtain ⟨hk24, hf⟩ := gd_some hf
  refine p_getI X fl_X6_19 rfl (by decide) (dcg dc_X6_advance 81 rfl) hk24 ?_
  refine p_iconst (v := 1) X (dcg dc_X6_advance 82 rfl) (by decide) ?_
  refine p_iadd X (dcg dc_X6_advance 83 rfl) ?_
  refine p_putI X fl_X6_19 rfl (by decide) (fun q hq => by cases hq; rfl) rfl rfl (dcg dc_X6_advance 84 rfl) hk24 ?_
  obtain ⟨h25, rfl, hf⟩ := lt_some hf
  refine p_pick [] ?_
  exact wX6_advance_b171 X hG hnm hf 
noncomputable def fX6_advance_b145 (v0 : Nat) (v1 : Int32) (h : PH) : Option PH :=
  bd (fX6_isSign v1) (fun z19 =>
  if (z19 = 0) then (fX6_advance_b158 v0 (some v0) (1 : Int32) h) else
  fX6_advance_b158 v0 (some v0) v1 h)
set_option maxRecDepth 100000 in
theorem mX6_advance_b145 {v0 : Nat} {v1 : Int32} {h : PH} {r : PH} (hf : fX6_advance_b145 v0 v1 h = some r) : eqz h (hX r) (hV r) := by
  unfold fX6_advance_b145 at hf
  have hle := eqz_rf h
  obtain ⟨z19, hz19, hf⟩ := bd_some hf
  rcases ite_or hf with ⟨q, hf⟩ | ⟨q, hf⟩
  · have hf := if_t q hf
    exact eqz_rt (mX6_advance_b158 hf) hle
  · have hf := if_f q hf
    exact eqz_rt (mX6_advance_b158 hf) hle
set_option maxRecDepth 100000 in
theorem wX6_advance_b145 {E : PE} {p : Program} {l : Launch} {e : Env} {s : State} {m : MethodId} {args : Array Value} {below : List Frame} {meth : Method} {c : Code} (X : Cx E p l e (rmv 1 0 0) s m args below meth c RX6 cX6_advance 2 (none)) (hG : Gs E l) (hnm : meth.name = yX6_advance.name) {v0 : Nat} {v1 : Int32} {h : PH} {r : PH} (hf : fX6_advance_b145 v0 v1 h = some r)  : PW E p l e (rmv 1 0 0) s m args below meth c 2 0 0 (MQ below (QG E (fun v u => v = none ∧ u = r)) args s 0 0 (pA E)) h 145 [(0, some (.ref v0)), (1, some (.int v1))] [] := by
  unfold fX6_advance_b145 at hf
  refine p_aload_n X (dcg dc_X6_advance 71 rfl) rfl rfl ?_
  refine p_iload_n X (dcg dc_X6_advance 72 rfl) rfl rfl ?_
  obtain ⟨z19, hz19, hf⟩ := bd_some hf
  refine p_callS (As := [_]) X ml_X6_108 (dcg dc_X6_advance 73 rfl) rfl rfl  (wX6_isSign hG hz19) (by decide) (room4 (Nat.le_of_ble_eq_true rfl)) (Nat.le_refl _) (Nat.le_refl _) ?_
  rintro _ u9 ⟨rfl, e9⟩; have e9 := e9.symm; subst e9
  refine p_if_eq (tgt := 157) X (dcg dc_X6_advance 74 rfl) (by decide) (fun q => ?_) (fun q => ?_)
  · have hf := if_t q hf
    refine p_iconst (v := 1) X (dcg dc_X6_advance 77 rfl) (by decide) ?_
    refine p_pick [0] ?_
    exact wX6_advance_b158 X hG hnm hf 
  · have hf := if_f q hf
    refine p_iload_n X (dcg dc_X6_advance 75 rfl) rfl rfl ?_
    refine p_goto (tgt := 158) X (dcg dc_X6_advance 76 rfl) (by decide) ?_
    refine p_pick [0] ?_
    exact wX6_advance_b158 X hG hnm hf 
noncomputable def fX6_advance_b126 (v0 : Nat) (v1 : Int32) (h : PH) : Option PH :=
  if (v1 < (48 : Int32)) then (fX6_advance_b145 v0 v1 h) else
  if ((57 : Int32) < v1) then (fX6_advance_b145 v0 v1 h) else
  gd (hK h v0 = 6) (bd (fX6_advanceNumber v0 h) (fun z27 =>
  fX6_advance_b171  z27))
set_option maxRecDepth 100000 in
theorem mX6_advance_b126 {v0 : Nat} {v1 : Int32} {h : PH} {r : PH} (hf : fX6_advance_b126 v0 v1 h = some r) : eqz h (hX r) (hV r) := by
  unfold fX6_advance_b126 at hf
  have hle := eqz_rf h
  rcases ite_or hf with ⟨q, hf⟩ | ⟨q, hf⟩
  · have hf := if_t q hf
    exact eqz_rt (mX6_advance_b145 hf) hle
  · have hf := if_f q hf
    rcases ite_or hf with ⟨q, hf⟩ | ⟨q, hf⟩
    · have hf := if_t q hf
      exact eqz_rt (mX6_advance_b145 hf) hle
    · have hf := if_f q hf
      obtain ⟨hk26, hf⟩ := gd_some hf
      obtain ⟨z27, hz27, hf⟩ := bd_some hf
      have hle := eqz_rt (mX6_advanceNumber hz27) hle
      exact eqz_rt (mX6_advance_b171 hf) hle
set_option maxRecDepth 100000 in
theorem wX6_advance_b126 {E : PE} {p : Program} {l : Launch} {e : Env} {s : State} {m : MethodId} {args : Array Value} {below : List Frame} {meth : Method} {c : Code} (X : Cx E p l e (rmv 1 0 0) s m args below meth c RX6 cX6_advance 2 (none)) (hG : Gs E l) (hnm : meth.name = yX6_advance.name) {v0 : Nat} {v1 : Int32} {h : PH} {r : PH} (hf : fX6_advance_b126 v0 v1 h = some r)  : PW E p l e (rmv 1 0 0) s m args below meth c 2 0 0 (MQ below (QG E (fun v u => v = none ∧ u = r)) args s 0 0 (pA E)) h 126 [(0, some (.ref v0)), (1, some (.int v1))] [] := by
  unfold fX6_advance_b126 at hf
  refine p_iload_n X (dcg dc_X6_advance 62 rfl) rfl rfl ?_
  refine p_bipush (v := 48) X (dcg dc_X6_advance 63 rfl) (by decide) ?_
  refine p_icmp_lt (tgt := 145) X (dcg dc_X6_advance 64 rfl) (by decide) (fun q => ?_) (fun q => ?_)
  · have hf := if_t q hf
    refine p_pick [0, 1] ?_
    exact wX6_advance_b145 X hG hnm hf 
  · have hf := if_f q hf
    refine p_iload_n X (dcg dc_X6_advance 65 rfl) rfl rfl ?_
    refine p_bipush (v := 57) X (dcg dc_X6_advance 66 rfl) (by decide) ?_
    refine p_icmp_gt (tgt := 145) X (dcg dc_X6_advance 67 rfl) (by decide) (fun q => ?_) (fun q => ?_)
    · have hf := if_t q hf
      refine p_pick [0, 1] ?_
      exact wX6_advance_b145 X hG hnm hf 
    · have hf := if_f q hf
      refine p_aload_n X (dcg dc_X6_advance 68 rfl) rfl rfl ?_
      obtain ⟨hk26, hf⟩ := gd_some hf
      obtain ⟨z27, hz27, hf⟩ := bd_some hf
      refine p_callV (As := []) X ml_X6_105 (dcg dc_X6_advance 69 rfl) rfl rfl hk26 (wX6_advanceNumber hG hz27) (by decide) (room4 (Nat.le_of_ble_eq_true rfl)) (Nat.le_refl _) (Nat.le_refl _) ?_
      rintro _ u9 ⟨rfl, e9⟩; have e9 := e9.symm; subst e9
      refine p_goto (tgt := 171) X (dcg dc_X6_advance 70 rfl) (by decide) ?_
      refine p_pick [] ?_
      exact wX6_advance_b171 X hG hnm hf 
noncomputable def fX6_advance_b61 (v0 : Nat) (h : PH) : Option PH :=
  gd (hK h v0 = 6) (lt (sI h 6 v0 4 (hI h 6 v0 2)) (fun h6 =>
  lt (sI h6 6 v0 5 (0 : Int32)) (fun h7 =>
  lt (sI h7 6 v0 3 (0 : Int32)) (fun h8 =>
  gs (hR h8 6 v0 0) (fun a9 =>
  gd (hK h8 a9 = 7) (if ((hI h8 6 v0 2) < (hI h8 7 a9 1)) then (gs (hR h8 6 v0 0) (fun a12 =>
  gd (hK h8 a12 = 7) (gs (hR h8 7 a12 0) (fun a15 =>
  gd (hK h8 a15 = 20 ∧ inb (hI h8 6 v0 2) (hN h8 a15)) (if ((hI h8 20 a15 (Int32.toNatClampNeg (hI h8 6 v0 2))) < (97 : Int32)) then (fX6_advance_b126 v0 (hI h8 20 a15 (Int32.toNatClampNeg (hI h8 6 v0 2))) h8) else
  if ((122 : Int32) < (hI h8 20 a15 (Int32.toNatClampNeg (hI h8 6 v0 2)))) then (fX6_advance_b126 v0 (hI h8 20 a15 (Int32.toNatClampNeg (hI h8 6 v0 2))) h8) else
  bd (fX6_advanceWord v0 h8) (fun z28 =>
  fX6_advance_b171  z28)))))) else
  some (h8)))))))
set_option maxRecDepth 100000 in
theorem mX6_advance_b61 {v0 : Nat} {h : PH} {r : PH} (hf : fX6_advance_b61 v0 h = some r) : eqz h (hX r) (hV r) := by
  unfold fX6_advance_b61 at hf
  have hle := eqz_rf h
  obtain ⟨hk5, hf⟩ := gd_some hf
  obtain ⟨h6, rfl, hf⟩ := lt_some hf
  obtain ⟨h7, rfl, hf⟩ := lt_some hf
  obtain ⟨h8, rfl, hf⟩ := lt_some hf
  obtain ⟨a9, e10, hf⟩ := gs_some hf
  obtain ⟨hk11, hf⟩ := gd_some hf
  rcases ite_or hf with ⟨q, hf⟩ | ⟨q, hf⟩
  · have hf := if_t q hf
    obtain ⟨a12, e13, hf⟩ := gs_some hf
    obtain ⟨hk14, hf⟩ := gd_some hf
    obtain ⟨a15, e16, hf⟩ := gs_some hf
    obtain ⟨⟨hk18, hb17⟩, hf⟩ := gd_some hf
    rcases ite_or hf with ⟨q, hf⟩ | ⟨q, hf⟩
    · have hf := if_t q hf
      exact eqz_rt (mX6_advance_b126 hf) hle
    · have hf := if_f q hf
      rcases ite_or hf with ⟨q, hf⟩ | ⟨q, hf⟩
      · have hf := if_t q hf
        exact eqz_rt (mX6_advance_b126 hf) hle
      · have hf := if_f q hf
        obtain ⟨z28, hz28, hf⟩ := bd_some hf
        have hle := eqz_rt (mX6_advanceWord hz28) hle
        exact eqz_rt (mX6_advance_b171 hf) hle
  · have hf := if_f q hf
    have ee := Option.some.inj hf; subst ee; exact hle
set_option maxRecDepth 100000 in
theorem wX6_advance_b61 {E : PE} {p : Program} {l : Launch} {e : Env} {s : State} {m : MethodId} {args : Array Value} {below : List Frame} {meth : Method} {c : Code} (X : Cx E p l e (rmv 1 0 0) s m args below meth c RX6 cX6_advance 2 (none)) (hG : Gs E l) (hnm : meth.name = yX6_advance.name) {v0 : Nat} {h : PH} {r : PH} (hf : fX6_advance_b61 v0 h = some r)  : PW E p l e (rmv 1 0 0) s m args below meth c 2 0 0 (MQ below (QG E (fun v u => v = none ∧ u = r)) args s 0 0 (pA E)) h 61 [(0, some (.ref v0))] [] := by
  unfold fX6_advance_b61 at hf
  refine p_aload_n X (dcg dc_X6_advance 29 rfl) rfl rfl ?_
  refine p_aload_n X (dcg dc_X6_advance 30 rfl) rfl rfl ?_
  obtain ⟨hk5, hf⟩ := gd_some hf
  refine p_getI X fl_X6_19 rfl (by decide) (dcg dc_X6_advance 31 rfl) hk5 ?_
  refine p_putI X fl_X6_49 rfl (by decide) (fun q hq => by cases hq; rfl) rfl rfl (dcg dc_X6_advance 32 rfl) hk5 ?_
  obtain ⟨h6, rfl, hf⟩ := lt_some hf
  refine p_aload_n X (dcg dc_X6_advance 33 rfl) rfl rfl ?_
  refine p_iconst (v := 0) X (dcg dc_X6_advance 34 rfl) (by decide) ?_
  refine p_putI X fl_X6_83 rfl (by decide) (fun q hq => by cases hq; rfl) rfl rfl (dcg dc_X6_advance 35 rfl) hk5 ?_
  obtain ⟨h7, rfl, hf⟩ := lt_some hf
  refine p_aload_n X (dcg dc_X6_advance 36 rfl) rfl rfl ?_
  refine p_iconst (v := 0) X (dcg dc_X6_advance 37 rfl) (by decide) ?_
  refine p_putI X fl_X6_36 rfl (by decide) (fun q hq => by cases hq; rfl) rfl rfl (dcg dc_X6_advance 38 rfl) hk5 ?_
  obtain ⟨h8, rfl, hf⟩ := lt_some hf
  refine p_aload_n X (dcg dc_X6_advance 39 rfl) rfl rfl ?_
  refine p_getI X fl_X6_19 rfl (by decide) (dcg dc_X6_advance 40 rfl) hk5 ?_
  refine p_aload_n X (dcg dc_X6_advance 41 rfl) rfl rfl ?_
  refine p_getR X fl_X6_15 rfl (by decide) (dcg dc_X6_advance 42 rfl) hk5 ?_
  obtain ⟨a9, e10, hf⟩ := gs_some hf
  first | subst e10 | (try rw [e10])
  obtain ⟨hk11, hf⟩ := gd_some hf
  refine p_getIn X fl_X6_96 rfl (by decide) (dcg dc_X6_advance 43 rfl) hk11 ?_
  refine p_icmp_lt (tgt := 94) X (dcg dc_X6_advance 44 rfl) (by decide) (fun q => ?_) (fun q => ?_)
  · have hf := if_t q hf
    refine p_aload_n X (dcg dc_X6_advance 46 rfl) rfl rfl ?_
    refine p_getR X fl_X6_15 rfl (by decide) (dcg dc_X6_advance 47 rfl) hk5 ?_
    obtain ⟨a12, e13, hf⟩ := gs_some hf
    first | subst e13 | (try rw [e13])
    obtain ⟨hk14, hf⟩ := gd_some hf
    refine p_getRn X fl_X6_99 rfl (by decide) (dcg dc_X6_advance 48 rfl) hk14 ?_
    refine p_aload_n X (dcg dc_X6_advance 49 rfl) rfl rfl ?_
    refine p_getI X fl_X6_19 rfl (by decide) (dcg dc_X6_advance 50 rfl) hk5 ?_
    obtain ⟨a15, e16, hf⟩ := gs_some hf
    first | subst e16 | (try rw [e16])
    obtain ⟨⟨hk18, hb17⟩, hf⟩ := gd_some hf
    refine p_iald X (dcg dc_X6_advance 51 rfl) hk18 (vp_of_inb hb17) ?_
    refine p_istore_n X (dcg dc_X6_advance 52 rfl) rfl (by decide) rfl ?_
    refine p_iload_n X (dcg dc_X6_advance 53 rfl) rfl rfl ?_
    refine p_bipush (v := 97) X (dcg dc_X6_advance 54 rfl) (by decide) ?_
    refine p_icmp_lt (tgt := 126) X (dcg dc_X6_advance 55 rfl) (by decide) (fun q => ?_) (fun q => ?_)
    · have hf := if_t q hf
      refine p_pick [0, 1] ?_
      exact wX6_advance_b126 X hG hnm hf 
    · have hf := if_f q hf
      refine p_iload_n X (dcg dc_X6_advance 56 rfl) rfl rfl ?_
      refine p_bipush (v := 122) X (dcg dc_X6_advance 57 rfl) (by decide) ?_
      refine p_icmp_gt (tgt := 126) X (dcg dc_X6_advance 58 rfl) (by decide) (fun q => ?_) (fun q => ?_)
      · have hf := if_t q hf
        refine p_pick [0, 1] ?_
        exact wX6_advance_b126 X hG hnm hf 
      · have hf := if_f q hf
        refine p_aload_n X (dcg dc_X6_advance 59 rfl) rfl rfl ?_
        obtain ⟨z28, hz28, hf⟩ := bd_some hf
        refine p_callV (As := []) X ml_X6_102 (dcg dc_X6_advance 60 rfl) rfl rfl hk5 (wX6_advanceWord hG hz28) (by decide) (room4 (Nat.le_of_ble_eq_true rfl)) (Nat.le_refl _) (Nat.le_refl _) ?_
        rintro _ u9 ⟨rfl, e9⟩; have e9 := e9.symm; subst e9
        refine p_goto (tgt := 171) X (dcg dc_X6_advance 61 rfl) (by decide) ?_
        refine p_pick [] ?_
        exact wX6_advance_b171 X hG hnm hf 
  · have hf := if_f q hf
    have er := Option.some.inj hf
    subst er
    exact p_vret X rfl (dcg dc_X6_advance 45 rfl) ⟨rfl, rfl⟩ (Nat.le_refl _) (Nat.le_refl _)
noncomputable def fX6_advance_b48 (v0 : Nat) (h : PH) : Option ((PH) ⊕ PH) :=
  gd (hK h v0 = 6) (lt (sI h 6 v0 2 ((hI h 6 v0 2) + (1 : Int32))) (fun h37 =>
  some (.inl (h37))))
set_option maxRecDepth 100000 in
theorem mX6_advance_b48 {v0 : Nat} {h : PH} {x : ((PH) ⊕ PH)} (hf : fX6_advance_b48 v0 h = some x) : (∀ w9 : (PH), x = .inl w9 → eqz h (hX (w9)) (hV (w9))) ∧ (∀ w9 : PH, x = .inr w9 → eqz h (hX w9) (hV w9)) := by
  unfold fX6_advance_b48 at hf
  have hle := eqz_rf h
  obtain ⟨hk36, hf⟩ := gd_some hf
  obtain ⟨h37, rfl, hf⟩ := lt_some hf
  have ee := Option.some.inj hf; subst ee
  exact ⟨(fun z e => by have ee := Sum.inl.inj (e); subst ee; exact hle), (fun z e => nomatch e)⟩
set_option maxRecDepth 100000 in
theorem wX6_advance_b48 {E : PE} {p : Program} {l : Launch} {e : Env} {s : State} {m : MethodId} {args : Array Value} {below : List Frame} {meth : Method} {c : Code} (X : Cx E p l e (rmv 1 0 0) s m args below meth c RX6 cX6_advance 2 (none)) (hG : Gs E l) (hnm : meth.name = yX6_advance.name) {v0 : Nat} {h : PH} {r : PH} {x : ((PH) ⊕ PH)} (hf : fX6_advance_b48 v0 h = some x) (k0 : ∀ z : (PH), x = .inl z → PW E p l e (rmv 1 0 0) s m args below meth c 2 0 0 (MQ below (QG E (fun v u => v = none ∧ u = r)) args s 0 0 (pA E)) (z) 0 [(0, some (.ref v0))] []) (kf : ∀ z : PH, x = .inr z → z = r) : PW E p l e (rmv 1 0 0) s m args below meth c 2 0 0 (MQ below (QG E (fun v u => v = none ∧ u = r)) args s 0 0 (pA E)) h 48 [(0, some (.ref v0))] [] := by
  unfold fX6_advance_b48 at hf
  refine p_aload_n X (dcg dc_X6_advance 22 rfl) rfl rfl ?_
  refine p_dup X (dcg dc_X6_advance 23 rfl) rfl ?_
  obtain ⟨hk36, hf⟩ := gd_some hf
  refine p_getI X fl_X6_19 rfl (by decide) (dcg dc_X6_advance 24 rfl) hk36 ?_
  refine p_iconst (v := 1) X (dcg dc_X6_advance 25 rfl) (by decide) ?_
  refine p_iadd X (dcg dc_X6_advance 26 rfl) ?_
  refine p_putI X fl_X6_19 rfl (by decide) (fun q hq => by cases hq; rfl) rfl rfl (dcg dc_X6_advance 27 rfl) hk36 ?_
  obtain ⟨h37, rfl, hf⟩ := lt_some hf
  refine p_goto (tgt := 0) X (dcg dc_X6_advance 28 rfl) (by decide) ?_
  refine p_pick [0] ?_
  exact k0 _ (Option.some.inj hf).symm
noncomputable def fX6_advance (v0 : Nat) (h : PH) : Option PH :=
  gd (hK h v0 = 6) (gs (hR h 6 v0 0) (fun a2 =>
  gd (hK h a2 = 7) (if ((hI h 7 a2 1) ≤ (hI h 6 v0 2)) then (fX6_advance_b61 v0 h) else
  gs (hR h 6 v0 0) (fun a29 =>
  gd (hK h a29 = 7) (gs (hR h 7 a29 0) (fun a32 =>
  gd (hK h a32 = 20 ∧ inb (hI h 6 v0 2) (hN h a32)) (if ((hI h 20 a32 (Int32.toNatClampNeg (hI h 6 v0 2))) = (32 : Int32)) then (fX6_advance_b48 v0 h) else
  gs (hR h 6 v0 0) (fun a38 =>
  gd (hK h a38 = 7) (gs (hR h 7 a38 0) (fun a41 =>
  gd (hK h a41 = 20 ∧ inb (hI h 6 v0 2) (hN h a41)) (if (¬ (hI h 20 a41 (Int32.toNatClampNeg (hI h 6 v0 2))) = (10 : Int32)) then (fX6_advance_b61 v0 h) else
  fX6_advance_b48 v0 h)))))))))))
set_option maxRecDepth 100000 in
theorem mX6_advance {v0 : Nat} {h : PH} {r : PH} (hf : fX6_advance v0 h = some r) : eqz h (hX r) (hV r) := by
  unfold fX6_advance at hf
  have hle := eqz_rf h
  obtain ⟨hk1, hf⟩ := gd_some hf
  obtain ⟨a2, e3, hf⟩ := gs_some hf
  obtain ⟨hk4, hf⟩ := gd_some hf
  rcases ite_or hf with ⟨q, hf⟩ | ⟨q, hf⟩
  · have hf := if_t q hf
    exact eqz_rt (mX6_advance_b61 hf) hle
  · have hf := if_f q hf
    obtain ⟨a29, e30, hf⟩ := gs_some hf
    obtain ⟨hk31, hf⟩ := gd_some hf
    obtain ⟨a32, e33, hf⟩ := gs_some hf
    obtain ⟨⟨hk35, hb34⟩, hf⟩ := gd_some hf
    rcases ite_or hf with ⟨q, hf⟩ | ⟨q, hf⟩
    · have hf := if_t q hf
      exact eqz_rt (mX6_advance_b48 hf) hle
    · have hf := if_f q hf
      obtain ⟨a38, e39, hf⟩ := gs_some hf
      obtain ⟨hk40, hf⟩ := gd_some hf
      obtain ⟨a41, e42, hf⟩ := gs_some hf
      obtain ⟨⟨hk44, hb43⟩, hf⟩ := gd_some hf
      rcases ite_or hf with ⟨q, hf⟩ | ⟨q, hf⟩
      · have hf := if_t q hf
        exact eqz_rt (mX6_advance_b61 hf) hle
      · have hf := if_f q hf
        exact eqz_rt (mX6_advance_b48 hf) hle
set_option maxRecDepth 100000 in
theorem wX6_advance {E : PE} {l : Launch} (hG : Gs E l) {v0 : Nat} {h : PH} {r : PH} (hf : fX6_advance v0 h = some r) : Ct E l 1 0 0 yX6_advance cX6_advance 2 (none) [.ref v0] h (fun v u => v = none ∧ u = r) := by
  refine ct_of hG (by decide) (Nat.le_of_ble_eq_true rfl) ?_
  intro p e s m args below meth c X hnm
  show PW E p l e _ s m args below meth c _ 0 0 _ h 0 [(0, some (.ref v0))] []
  unfold fX6_advance at hf
  refine p_aload_n X (dcg dc_X6_advance 0 rfl) rfl rfl ?_
  obtain ⟨hk1, hf⟩ := gd_some hf
  refine p_getI X fl_X6_19 rfl (by decide) (dcg dc_X6_advance 1 rfl) hk1 ?_
  refine p_aload_n X (dcg dc_X6_advance 2 rfl) rfl rfl ?_
  refine p_getR X fl_X6_15 rfl (by decide) (dcg dc_X6_advance 3 rfl) hk1 ?_
  obtain ⟨a2, e3, hf⟩ := gs_some hf
  first | subst e3 | (try rw [e3])
  obtain ⟨hk4, hf⟩ := gd_some hf
  refine p_getIn X fl_X6_96 rfl (by decide) (dcg dc_X6_advance 4 rfl) hk4 ?_
  refine p_icmp_ge (tgt := 61) X (dcg dc_X6_advance 5 rfl) (by decide) (fun q => ?_) (fun q => ?_)
  · have hf := if_t q hf
    refine p_pick [0] ?_
    exact wX6_advance_b61 X hG hnm hf 
  · have hf := if_f q hf
    refine p_aload_n X (dcg dc_X6_advance 6 rfl) rfl rfl ?_
    refine p_getR X fl_X6_15 rfl (by decide) (dcg dc_X6_advance 7 rfl) hk1 ?_
    obtain ⟨a29, e30, hf⟩ := gs_some hf
    first | subst e30 | (try rw [e30])
    obtain ⟨hk31, hf⟩ := gd_some hf
    refine p_getRn X fl_X6_99 rfl (by decide) (dcg dc_X6_advance 8 rfl) hk31 ?_
    refine p_aload_n X (dcg dc_X6_advance 9 rfl) rfl rfl ?_
    refine p_getI X fl_X6_19 rfl (by decide) (dcg dc_X6_advance 10 rfl) hk1 ?_
    obtain ⟨a32, e33, hf⟩ := gs_some hf
    first | subst e33 | (try rw [e33])
    obtain ⟨⟨hk35, hb34⟩, hf⟩ := gd_some hf
    refine p_iald X (dcg dc_X6_advance 11 rfl) hk35 (vp_of_inb hb34) ?_
    refine p_bipush (v := 32) X (dcg dc_X6_advance 12 rfl) (by decide) ?_
    refine p_icmp_eq (tgt := 48) X (dcg dc_X6_advance 13 rfl) (by decide) (fun q => ?_) (fun q => ?_)
    · have hf := if_t q hf
      refine p_pick [0] ?_
      exact wX6_advance_b48 X hG hnm hf 
    · have hf := if_f q hf
      refine p_aload_n X (dcg dc_X6_advance 14 rfl) rfl rfl ?_
      refine p_getR X fl_X6_15 rfl (by decide) (dcg dc_X6_advance 15 rfl) hk1 ?_
      obtain ⟨a38, e39, hf⟩ := gs_some hf
      first | subst e39 | (try rw [e39])
      obtain ⟨hk40, hf⟩ := gd_some hf
      refine p_getRn X fl_X6_99 rfl (by decide) (dcg dc_X6_advance 16 rfl) hk40 ?_
      refine p_aload_n X (dcg dc_X6_advance 17 rfl) rfl rfl ?_
      refine p_getI X fl_X6_19 rfl (by decide) (dcg dc_X6_advance 18 rfl) hk1 ?_
      obtain ⟨a41, e42, hf⟩ := gs_some hf
      first | subst e42 | (try rw [e42])
      obtain ⟨⟨hk44, hb43⟩, hf⟩ := gd_some hf
      refine p_iald X (dcg dc_X6_advance 19 rfl) hk44 (vp_of_inb hb43) ?_
      refine p_bipush (v := 10) X (dcg dc_X6_advance 20 rfl) (by decide) ?_
      refine p_icmp_ne (tgt := 61) X (dcg dc_X6_advance 21 rfl) (by decide) (fun q => ?_) (fun q => ?_)
      · have hf := if_t q hf
        refine p_pick [0] ?_
        exact wX6_advance_b61 X hG hnm hf 
      · have hf := if_f q hf
        refine p_pick [0] ?_
        exact wX6_advance_b48 X hG hnm hf 
theorem dc_X6_fail : decs cX6_fail [(0, .aload_n 0, 1), (1, .aload_n 0, 1), (2, .getfield 49, 3), (5, .putfield 26, 3), (8, .aconst_null, 1), (9, .areturn, 1)] = true := by decide +kernel
noncomputable def fX6_fail (v0 : Nat) (h : PH) : Option (Option Nat × PH) :=
  gd (hK h v0 = 6) (lt (sI h 6 v0 7 (hI h 6 v0 4)) (fun h2 =>
  some ((none, h2))))
set_option maxRecDepth 100000 in
theorem mX6_fail {v0 : Nat} {h : PH} {r : (Option Nat × PH)} (hf : fX6_fail v0 h = some r) : eqz h (hX r.2) (hV r.2) := by
  unfold fX6_fail at hf
  have hle := eqz_rf h
  obtain ⟨hk1, hf⟩ := gd_some hf
  obtain ⟨h2, rfl, hf⟩ := lt_some hf
  have ee := Option.some.inj hf; subst ee; exact hle
set_option maxRecDepth 100000 in
theorem wX6_fail {E : PE} {l : Launch} (hG : Gs E l) {v0 : Nat} {h : PH} {r : (Option Nat × PH)} (hf : fX6_fail v0 h = some r) : Ct E l 0 0 0 yX6_fail cX6_fail 1 (some (.object "WordFinder$Node")) [.ref v0] h (fun v u => v = some (va_rf r.1) ∧ u = r.2) := by
  refine ct_of hG (by decide) (Nat.le_of_ble_eq_true rfl) ?_
  intro p e s m args below meth c X hnm
  show PW E p l e _ s m args below meth c _ 0 0 _ h 0 [(0, some (.ref v0))] []
  unfold fX6_fail at hf
  refine p_aload_n X (dcg dc_X6_fail 0 rfl) rfl rfl ?_
  refine p_aload_n X (dcg dc_X6_fail 1 rfl) rfl rfl ?_
  obtain ⟨hk1, hf⟩ := gd_some hf
  refine p_getI X fl_X6_49 rfl (by decide) (dcg dc_X6_fail 2 rfl) hk1 ?_
  refine p_putI X fl_X6_26 rfl (by decide) (fun q hq => by cases hq; rfl) rfl rfl (dcg dc_X6_fail 3 rfl) hk1 ?_
  obtain ⟨h2, rfl, hf⟩ := lt_some hf
  refine p_null X (dcg dc_X6_fail 4 rfl) ?_
  have er := Option.some.inj hf
  subst er
  exact p_aret X rfl (Or.inl ⟨_, rfl⟩) (dcg dc_X6_fail 5 rfl) ⟨rfl, rfl⟩ (Nat.le_refl _) (Nat.le_refl _)
theorem dc_X7_finish : decs cX7_finish [(0, .aload_n 0, 1), (1, .iconst 0, 1), (2, .putfield 19, 3), (5, .aload_n 0, 1), (6, .iload_n 1, 1), (7, .putfield 15, 3), (10, .return_, 1)] = true := by decide +kernel
noncomputable def fX7_finish (v0 : Nat) (v1 : Int32) (h : PH) : Option PH :=
  gd (hK h v0 = 7) (lt (sI h 7 v0 1 (0 : Int32)) (fun h2 =>
  lt (sI h2 7 v0 2 v1) (fun h3 =>
  some (h3))))
set_option maxRecDepth 100000 in
theorem mX7_finish {v0 : Nat} {v1 : Int32} {h : PH} {r : PH} (hf : fX7_finish v0 v1 h = some r) : eqz h (hX r) (hV r) := by
  unfold fX7_finish at hf
  have hle := eqz_rf h
  obtain ⟨hk1, hf⟩ := gd_some hf
  obtain ⟨h2, rfl, hf⟩ := lt_some hf
  obtain ⟨h3, rfl, hf⟩ := lt_some hf
  have ee := Option.some.inj hf; subst ee; exact hle
set_option maxRecDepth 100000 in
theorem wX7_finish {E : PE} {l : Launch} (hG : Gs E l) {v0 : Nat} {v1 : Int32} {h : PH} {r : PH} (hf : fX7_finish v0 v1 h = some r) : Ct E l 0 0 0 yX7_finish cX7_finish 2 (none) [.ref v0, .int v1] h (fun v u => v = none ∧ u = r) := by
  refine ct_of hG (by decide) (Nat.le_of_ble_eq_true rfl) ?_
  intro p e s m args below meth c X hnm
  show PW E p l e _ s m args below meth c _ 0 0 _ h 0 [(0, some (.ref v0)), (1, some (.int v1))] []
  unfold fX7_finish at hf
  refine p_aload_n X (dcg dc_X7_finish 0 rfl) rfl rfl ?_
  refine p_iconst (v := 0) X (dcg dc_X7_finish 1 rfl) (by decide) ?_
  obtain ⟨hk1, hf⟩ := gd_some hf
  refine p_putI X fl_X7_19 rfl (by decide) (fun q hq => by cases hq; rfl) rfl rfl (dcg dc_X7_finish 2 rfl) hk1 ?_
  obtain ⟨h2, rfl, hf⟩ := lt_some hf
  refine p_aload_n X (dcg dc_X7_finish 3 rfl) rfl rfl ?_
  refine p_iload_n X (dcg dc_X7_finish 4 rfl) rfl rfl ?_
  refine p_putI X fl_X7_15 rfl (by decide) (fun q hq => by cases hq; rfl) rfl rfl (dcg dc_X7_finish 5 rfl) hk1 ?_
  obtain ⟨h3, rfl, hf⟩ := lt_some hf
  have er := Option.some.inj hf
  subst er
  exact p_vret X rfl (dcg dc_X7_finish 6 rfl) ⟨rfl, rfl⟩ (Nat.le_refl _) (Nat.le_refl _)
theorem dc_X7_init : decs cX7_init [(0, .aload_n 0, 1), (1, .invokespecial 3, 3), (4, .aload_n 0, 1), (5, .sipush 300, 3), (8, .newarray .int, 2), (10, .putfield 11, 3), (13, .aload_n 0, 1), (14, .iconst (-1), 1), (15, .putfield 15, 3), (18, .return_, 1)] = true := by decide +kernel
noncomputable def fX7_init_b10 (v0 : Nat) (t0 : Nat) (t1 : Nat) (h : PH) : Option PH :=
  gd (hK h t0 = 7) (lt (sR h 7 t0 0 (some t1)) (fun h3 =>
  gd (hK h3 v0 = 7) (lt (sI h3 7 v0 2 (-1 : Int32)) (fun h5 =>
  some (h5)))))
set_option maxRecDepth 100000 in
theorem mX7_init_b10 {v0 : Nat} {t0 : Nat} {t1 : Nat} {h : PH} {r : PH} (hf : fX7_init_b10 v0 t0 t1 h = some r) : lez h (hX r) (hV r) := by
  unfold fX7_init_b10 at hf
  have hle := lez_rf h
  obtain ⟨hk2, hf⟩ := gd_some hf
  obtain ⟨h3, rfl, hf⟩ := lt_some hf
  obtain ⟨hk4, hf⟩ := gd_some hf
  obtain ⟨h5, rfl, hf⟩ := lt_some hf
  have ee := Option.some.inj hf; subst ee; exact hle
set_option maxRecDepth 100000 in
theorem wX7_init_b10 {E : PE} {p : Program} {l : Launch} {e : Env} {s : State} {m : MethodId} {args : Array Value} {below : List Frame} {meth : Method} {c : Code} {X0 V0 MC MS uc us : Nat} (X : Cx E p l e (rmv 1 MC MS) s m args below meth c RX7 cX7_init 1 (none)) (hG : Gs E l) (hnm : meth.name = yX7_init.name) {v0 : Nat} {t0 : Nat} {t1 : Nat} {h : PH} {r : PH} (hM : MC + X0 = (hX r)) (hN : MS + V0 = (hV r)) (hu : uc + X0 = hX h) (hv : us + V0 = hV h) (hf : fX7_init_b10 v0 t0 t1 h = some r)  : PW E p l e (rmv 1 MC MS) s m args below meth c 1 uc us (MQ below (QG E (fun v u => v = none ∧ u = r)) args s MC MS (pA E)) h 10 [(0, some (.ref v0))] [.ref t1, .ref t0] := by
  have hm1 : lez h (hX r) (hV r) := mX7_init_b10 hf
  have hcm : uc ≤ MC := (by have o0 := hm1.1; have o1 := hM; have o2 := hu; (try simp only [hX_sI, hX_sR, hX_sL, hX_sD, hX_sIa, hX_sRa, hV_sI, hV_sR, hV_sL, hV_sD, hV_sIa, hV_sRa, hX_new, hV_new] at o0 o1 o2 ⊢); omega)
  have hsm : us ≤ MS := (by have o0 := hm1.2; have o1 := hN; have o2 := hv; (try simp only [hX_sI, hX_sR, hX_sL, hX_sD, hX_sIa, hX_sRa, hV_sI, hV_sR, hV_sL, hV_sD, hV_sIa, hV_sRa, hX_new, hV_new] at o0 o1 o2 ⊢); omega)
  clear hm1
  unfold fX7_init_b10 at hf
  obtain ⟨hk2, hf⟩ := gd_some hf
  refine p_putRf (v := some _) X fl_X7_11 rfl (by decide) (fun q hq => by cases hq; exact ⟨rfl, rfl⟩) hnm (nar_rf _ (by decide)) (fit_rf _ (by decide)) (dcg dc_X7_init 5 rfl) hk2 ?_
  obtain ⟨h3, rfl, hf⟩ := lt_some hf
  refine p_aload_n X (dcg dc_X7_init 6 rfl) rfl rfl ?_
  refine p_iconst (v := -1) X (dcg dc_X7_init 7 rfl) (by decide) ?_
  obtain ⟨hk4, hf⟩ := gd_some hf
  refine p_putI X fl_X7_15 rfl (by decide) (fun q hq => by cases hq; rfl) rfl rfl (dcg dc_X7_init 8 rfl) hk4 ?_
  obtain ⟨h5, rfl, hf⟩ := lt_some hf
  have er := Option.some.inj hf
  subst er
  exact p_vret X rfl (dcg dc_X7_init 9 rfl) ⟨rfl, rfl⟩ hcm hsm
noncomputable def fX7_init_b0 (v0 : Nat) (h : PH) : Option PH :=
  gd (¬ (300 : Int32) < 0 ∧ (Int32.toNatClampNeg (300 : Int32)) ≤ 1000000) (fX7_init_b10 v0 v0 (hX h) (hnew h 20 (Int32.toNatClampNeg (300 : Int32))))
set_option maxRecDepth 100000 in
theorem mX7_init_b0 {v0 : Nat} {h : PH} {r : PH} (hf : fX7_init_b0 v0 h = some r) : lez h (hX r) (hV r) := by
  unfold fX7_init_b0 at hf
  have hle := lez_rf h
  obtain ⟨hg1, hf⟩ := gd_some hf
  have hle := lez_nw (c := 20) (n := (Int32.toNatClampNeg (300 : Int32))) hle
  exact lez_rt (mX7_init_b10 hf) hle
set_option maxRecDepth 100000 in
theorem wX7_init_b0 {E : PE} {p : Program} {l : Launch} {e : Env} {s : State} {m : MethodId} {args : Array Value} {below : List Frame} {meth : Method} {c : Code} {X0 V0 MC MS uc us : Nat} (X : Cx E p l e (rmv 1 MC MS) s m args below meth c RX7 cX7_init 1 (none)) (hG : Gs E l) (hnm : meth.name = yX7_init.name) {v0 : Nat} {h : PH} {r : PH} (hM : MC + X0 = (hX r)) (hN : MS + V0 = (hV r)) (hu : uc + X0 = hX h) (hv : us + V0 = hV h) (hf : fX7_init_b0 v0 h = some r)  : PW E p l e (rmv 1 MC MS) s m args below meth c 1 uc us (MQ below (QG E (fun v u => v = none ∧ u = r)) args s MC MS (pA E)) h 0 [(0, some (.ref v0))] [] := by
  have hm1 : lez h (hX r) (hV r) := mX7_init_b0 hf
  have hcm : uc ≤ MC := (by have o0 := hm1.1; have o1 := hM; have o2 := hu; (try simp only [hX_sI, hX_sR, hX_sL, hX_sD, hX_sIa, hX_sRa, hV_sI, hV_sR, hV_sL, hV_sD, hV_sIa, hV_sRa, hX_new, hV_new] at o0 o1 o2 ⊢); omega)
  have hsm : us ≤ MS := (by have o0 := hm1.2; have o1 := hN; have o2 := hv; (try simp only [hX_sI, hX_sR, hX_sL, hX_sD, hX_sIa, hX_sRa, hV_sI, hV_sR, hV_sL, hV_sD, hV_sIa, hV_sRa, hX_new, hV_new] at o0 o1 o2 ⊢); omega)
  clear hm1
  unfold fX7_init_b0 at hf
  refine p_aload_n X (dcg dc_X7_init 0 rfl) rfl rfl ?_
  refine p_objinit X tw_153 tw_146 tw_147 (dcg dc_X7_init 1 rfl) (Nat.le_of_ble_eq_true rfl) (Nat.le_trans (Nat.add_le_add_right (room4 (Nat.le_of_ble_eq_true rfl)) 12) (Nat.le_of_ble_eq_true rfl)) (fun ls hl => hl.1.trans X.2.2.1.symm) ?_
  refine p_aload_n X (dcg dc_X7_init 2 rfl) rfl rfl ?_
  refine p_sipush (v := 300) X (dcg dc_X7_init 3 rfl) (by decide) ?_
  obtain ⟨hg1, hf⟩ := gd_some hf
  have hm1 : lez _ (hX r) (hV r) := mX7_init_b10 hf
  have hm2 := lez_new hm1
  refine p_newa20 X tw_168 (dcg dc_X7_init 4 rfl) hg1.1 hg1.2 (show uc + 1 ≤ MC from (by have o0 := hm2.1; have o1 := hM; have o2 := hu; (try simp only [hX_sI, hX_sR, hX_sL, hX_sD, hX_sIa, hX_sRa, hV_sI, hV_sR, hV_sL, hV_sD, hV_sIa, hV_sRa, hX_new, hV_new] at o0 o1 o2 ⊢); omega)) (show us + (Int32.toNatClampNeg (300 : Int32)) ≤ MS from (by have o0 := hm2.2; have o1 := hN; have o2 := hv; (try simp only [hX_sI, hX_sR, hX_sL, hX_sD, hX_sIa, hX_sRa, hV_sI, hV_sR, hV_sL, hV_sD, hV_sIa, hV_sRa, hX_new, hV_new] at o0 o1 o2 ⊢); omega)) ?_
  refine p_pick [0] ?_
  exact wX7_init_b10 X hG hnm hM hN (by have o0 := hu; (try simp only [hX_sI, hX_sR, hX_sL, hX_sD, hX_sIa, hX_sRa, hV_sI, hV_sR, hV_sL, hV_sD, hV_sIa, hV_sRa, hX_new, hV_new] at o0 ⊢); omega) (by have o0 := hv; (try simp only [hX_sI, hX_sR, hX_sL, hX_sD, hX_sIa, hX_sRa, hV_sI, hV_sR, hV_sL, hV_sD, hV_sIa, hV_sRa, hX_new, hV_new] at o0 ⊢); omega) hf 
noncomputable def fX7_init (v0 : Nat) (h : PH) : Option PH :=
  fX7_init_b0 v0 h
set_option maxRecDepth 100000 in
theorem mX7_init {v0 : Nat} {h : PH} {r : PH} (hf : fX7_init v0 h = some r) : lez h (hX r) (hV r) := by
  unfold fX7_init at hf
  have hle := lez_rf h
  exact lez_rt (mX7_init_b0 hf) hle
set_option maxRecDepth 100000 in
theorem wX7_init {E : PE} {l : Launch} (hG : Gs E l) {v0 : Nat} {h : PH} {r : PH} (hf : fX7_init v0 h = some r) : Ct E l 1 ((hX r) - hX h) ((hV r) - hV h) yX7_init cX7_init 1 (none) [.ref v0] h (fun v u => v = none ∧ u = r) := by
  have hm0 := mX7_init hf
  refine ct_of hG (by decide) (Nat.le_of_ble_eq_true rfl) ?_
  intro p e s m args below meth c X hnm
  show PW E p l e _ s m args below meth c _ 0 0 _ h 0 [(0, some (.ref v0))] []
  unfold fX7_init at hf
  have hM := Nat.sub_add_cancel hm0.1
  have hN := Nat.sub_add_cancel hm0.2
  refine p_pick [0] ?_
  exact wX7_init_b0 X hG hnm hM hN (Nat.zero_add _) (Nat.zero_add _) hf
theorem dc_X7_bytesOf : decs cX7_bytesOf [(0, .iconst 0, 1), (1, .istore_n 1, 1), (2, .bipush 24, 2), (4, .istore_n 2, 1), (5, .iload_n 2, 1), (6, .ifCond .lt 22, 3), (9, .iload_n 0, 1), (10, .iload_n 2, 1), (11, .iushr, 1), (12, .sipush 255, 3), (15, .iand, 1), (16, .ifCond .eq 6, 3), (19, .iinc 1 1, 3), (22, .iinc 2 (-8), 3), (25, .goto (-20), 3), (28, .iload_n 1, 1), (29, .ireturn, 1)] = true := by decide +kernel
noncomputable def fX7_bytesOf_b22 (v0 : Int32) (v1 : Int32) (v2 : Int32) : Option ((Int32 × Int32) ⊕ Int32) :=
  some (.inl (v1, (v2 + (-8))))
set_option maxRecDepth 100000 in
theorem wX7_bytesOf_b22 {E : PE} {p : Program} {l : Launch} {e : Env} {s : State} {m : MethodId} {args : Array Value} {below : List Frame} {meth : Method} {c : Code} (X : Cx E p l e (rmv 0 0 0) s m args below meth c RX7 cX7_bytesOf 3 (some .int)) (hG : Gs E l) (hnm : meth.name = yX7_bytesOf.name) {v0 : Int32} {v1 : Int32} {v2 : Int32} {h : PH} {r : Int32} {x : ((Int32 × Int32) ⊕ Int32)} (hf : fX7_bytesOf_b22 v0 v1 v2 = some x) (k0 : ∀ z : (Int32 × Int32), x = .inl z → PW E p l e (rmv 0 0 0) s m args below meth c 3 0 0 (MQ below (QG E (fun v u => v = some (.int r) ∧ u = h)) args s 0 0 (pA E)) h 5 [(0, some (.int v0)), (1, some (.int (z.1))), (2, some (.int (z.2)))] []) (kf : ∀ z : Int32, x = .inr z → z = r) : PW E p l e (rmv 0 0 0) s m args below meth c 3 0 0 (MQ below (QG E (fun v u => v = some (.int r) ∧ u = h)) args s 0 0 (pA E)) h 22 [(0, some (.int v0)), (1, some (.int v1)), (2, some (.int v2))] [] := by
  unfold fX7_bytesOf_b22 at hf
  refine p_iinc (v := -8) X (dcg dc_X7_bytesOf 13 rfl) rfl (by decide) (by decide) rfl ?_
  refine p_goto (tgt := 5) X (dcg dc_X7_bytesOf 14 rfl) (by decide) ?_
  refine p_pick [0, 1, 2] ?_
  exact k0 _ (Option.some.inj hf).symm
noncomputable def fX7_bytesOf_c5 (v0 : Int32) (v1 : Int32) (v2 : Int32) : Option ((Int32 × Int32) ⊕ Int32) :=
  if (v2 < 0) then (mr (some (v1))) else
  if (((Int32.toUInt32 v0 >>> (Int32.toUInt32 v2 &&& Int32.toUInt32 31)).toInt32 &&& (255 : Int32)) = 0) then (fX7_bytesOf_b22 v0 v1 v2) else
  fX7_bytesOf_b22 v0 (v1 + 1) v2
set_option maxRecDepth 100000 in
theorem wX7_bytesOf_c5 {E : PE} {p : Program} {l : Launch} {e : Env} {s : State} {m : MethodId} {args : Array Value} {below : List Frame} {meth : Method} {c : Code} (X : Cx E p l e (rmv 0 0 0) s m args below meth c RX7 cX7_bytesOf 3 (some .int)) (hG : Gs E l) (hnm : meth.name = yX7_bytesOf.name) {v0 : Int32} {v1 : Int32} {v2 : Int32} {h : PH} {r : Int32} {x : ((Int32 × Int32) ⊕ Int32)} (hf : fX7_bytesOf_c5 v0 v1 v2 = some x) (k0 : ∀ z : (Int32 × Int32), x = .inl z → PW E p l e (rmv 0 0 0) s m args below meth c 3 0 0 (MQ below (QG E (fun v u => v = some (.int r) ∧ u = h)) args s 0 0 (pA E)) h 5 [(0, some (.int v0)), (1, some (.int (z.1))), (2, some (.int (z.2)))] []) (kf : ∀ z : Int32, x = .inr z → z = r) : PW E p l e (rmv 0 0 0) s m args below meth c 3 0 0 (MQ below (QG E (fun v u => v = some (.int r) ∧ u = h)) args s 0 0 (pA E)) h 5 [(0, some (.int v0)), (1, some (.int v1)), (2, some (.int v2))] [] := by
  unfold fX7_bytesOf_c5 at hf
  refine p_iload_n X (dcg dc_X7_bytesOf 4 rfl) rfl rfl ?_
  refine p_if_lt (tgt := 28) X (dcg dc_X7_bytesOf 5 rfl) (by decide) (fun q => ?_) (fun q => ?_)
  · have hf := if_t q hf
    obtain ⟨y1, hf, hy2⟩ := mr_some hf
    have hy2f := kf y1 hy2
    subst hy2f
    refine p_iload_n X (dcg dc_X7_bytesOf 15 rfl) rfl rfl ?_
    have er := Option.some.inj hf
    subst er
    exact p_iret X rfl (dcg dc_X7_bytesOf 16 rfl) ⟨rfl, rfl⟩ (Nat.le_refl _) (Nat.le_refl _)
  · have hf := if_f q hf
    refine p_iload_n X (dcg dc_X7_bytesOf 6 rfl) rfl rfl ?_
    refine p_iload_n X (dcg dc_X7_bytesOf 7 rfl) rfl rfl ?_
    refine p_iushr X (dcg dc_X7_bytesOf 8 rfl) ?_
    refine p_sipush (v := 255) X (dcg dc_X7_bytesOf 9 rfl) (by decide) ?_
    refine p_iand X (dcg dc_X7_bytesOf 10 rfl) ?_
    refine p_if_eq (tgt := 22) X (dcg dc_X7_bytesOf 11 rfl) (by decide) (fun q => ?_) (fun q => ?_)
    · have hf := if_t q hf
      refine p_pick [0, 1, 2] ?_
      exact wX7_bytesOf_b22 X hG hnm hf k0 kf
    · have hf := if_f q hf
      refine p_iinc (v := 1) X (dcg dc_X7_bytesOf 12 rfl) rfl (by decide) (by decide) rfl ?_
      refine p_pick [0, 1, 2] ?_
      exact wX7_bytesOf_b22 X hG hnm hf k0 kf
noncomputable def fX7_bytesOf_l5 (v0 : Int32) (v1 : Int32) (v2 : Int32) : Option Int32 := wh (fun z : (Int32 × Int32) => fX7_bytesOf_c5 v0 (z.1) (z.2)) (v1, v2)
set_option maxRecDepth 100000 in
theorem wX7_bytesOf_l5 {E : PE} {p : Program} {l : Launch} {e : Env} {s : State} {m : MethodId} {args : Array Value} {below : List Frame} {meth : Method} {c : Code} (X : Cx E p l e (rmv 0 0 0) s m args below meth c RX7 cX7_bytesOf 3 (some .int)) (hG : Gs E l) (hnm : meth.name = yX7_bytesOf.name) {v0 : Int32} {v1 : Int32} {v2 : Int32} {h : PH} {r : Int32} (hf : fX7_bytesOf_l5 v0 v1 v2 = some r)  : PW E p l e (rmv 0 0 0) s m args below meth c 3 0 0 (MQ below (QG E (fun v u => v = some (.int r) ∧ u = h)) args s 0 0 (pA E)) h 5 [(0, some (.int v0)), (1, some (.int v1)), (2, some (.int v2))] [] := by
  unfold fX7_bytesOf_l5 at hf
  refine wh_ind (P := fun z => PW E p l e (rmv 0 0 0) s m args below meth c 3 0 0 (MQ below (QG E (fun v u => v = some (.int r) ∧ u = h)) args s 0 0 (pA E)) h 5 [(0, some (.int v0)), (1, some (.int (z.1))), (2, some (.int (z.2)))] []) (fun z x0 hs i1 i2 => ?_) _ hf
  exact wX7_bytesOf_c5 (r := r) (v0 := v0) (v1 := z.1) (v2 := z.2) (h := h) X hG hnm hs i1  i2
noncomputable def fX7_bytesOf (v0 : Int32) : Option Int32 :=
  fX7_bytesOf_l5 v0 (0 : Int32) (24 : Int32)
set_option maxRecDepth 100000 in
theorem wX7_bytesOf {E : PE} {l : Launch} (hG : Gs E l) {v0 : Int32} {h : PH} {r : Int32} (hf : fX7_bytesOf v0 = some r) : Ct E l 0 0 0 yX7_bytesOf cX7_bytesOf 3 (some .int) [.int v0] h (fun v u => v = some (.int r) ∧ u = h) := by
  refine ct_of hG (by decide) (Nat.le_of_ble_eq_true rfl) ?_
  intro p e s m args below meth c X hnm
  show PW E p l e _ s m args below meth c _ 0 0 _ h 0 [(0, some (.int v0))] []
  unfold fX7_bytesOf at hf
  refine p_iconst (v := 0) X (dcg dc_X7_bytesOf 0 rfl) (by decide) ?_
  refine p_istore_n X (dcg dc_X7_bytesOf 1 rfl) rfl (by decide) rfl ?_
  refine p_bipush (v := 24) X (dcg dc_X7_bytesOf 2 rfl) (by decide) ?_
  refine p_istore_n X (dcg dc_X7_bytesOf 3 rfl) rfl (by decide) rfl ?_
  refine p_pick [0, 1, 2] ?_
  exact wX7_bytesOf_l5 X hG hnm hf 
theorem dc_X7_addBytes : decs cX7_addBytes [(0, .bipush 24, 2), (2, .istore_n 2, 1), (3, .iload_n 2, 1), (4, .ifCond .lt 51, 3), (7, .iload_n 1, 1), (8, .iload_n 2, 1), (9, .iushr, 1), (10, .sipush 255, 3), (13, .iand, 1), (14, .istore_n 3, 1), (15, .iload_n 3, 1), (16, .ifCond .eq 33, 3), (19, .aload_n 0, 1), (20, .getfield 19, 3), (23, .sipush 300, 3), (26, .if_icmp .ge 23, 3), (29, .aload_n 0, 1), (30, .getfield 11, 3), (33, .aload_n 0, 1), (34, .getfield 19, 3), (37, .iload_n 3, 1), (38, .iastore, 1), (39, .aload_n 0, 1), (40, .dup, 1), (41, .getfield 19, 3), (44, .iconst 1, 1), (45, .iadd, 1), (46, .putfield 19, 3), (49, .iinc 2 (-8), 3), (52, .goto (-49), 3), (55, .return_, 1)] = true := by decide +kernel
noncomputable def fX7_addBytes_b49 (v0 : Nat) (v1 : Int32) (v2 : Int32) (h : PH) : Option ((Int32 × PH) ⊕ PH) :=
  some (.inl ((v2 + (-8)), h))
set_option maxRecDepth 100000 in
theorem mX7_addBytes_b49 {v0 : Nat} {v1 : Int32} {v2 : Int32} {h : PH} {x : ((Int32 × PH) ⊕ PH)} (hf : fX7_addBytes_b49 v0 v1 v2 h = some x) : (∀ w9 : (Int32 × PH), x = .inl w9 → eqz h (hX (w9.2)) (hV (w9.2))) ∧ (∀ w9 : PH, x = .inr w9 → eqz h (hX w9) (hV w9)) := by
  unfold fX7_addBytes_b49 at hf
  have hle := eqz_rf h
  have ee := Option.some.inj hf; subst ee
  exact ⟨(fun z e => by have ee := Sum.inl.inj (e); subst ee; exact hle), (fun z e => nomatch e)⟩
set_option maxRecDepth 100000 in
theorem wX7_addBytes_b49 {E : PE} {p : Program} {l : Launch} {e : Env} {s : State} {m : MethodId} {args : Array Value} {below : List Frame} {meth : Method} {c : Code} (X : Cx E p l e (rmv 0 0 0) s m args below meth c RX7 cX7_addBytes 4 (none)) (hG : Gs E l) (hnm : meth.name = yX7_addBytes.name) {v0 : Nat} {v1 : Int32} {v2 : Int32} {h : PH} {r : PH} {x : ((Int32 × PH) ⊕ PH)} (hf : fX7_addBytes_b49 v0 v1 v2 h = some x) (k0 : ∀ z : (Int32 × PH), x = .inl z → PW E p l e (rmv 0 0 0) s m args below meth c 4 0 0 (MQ below (QG E (fun v u => v = none ∧ u = r)) args s 0 0 (pA E)) (z.2) 3 [(0, some (.ref v0)), (1, some (.int v1)), (2, some (.int (z.1)))] []) (kf : ∀ z : PH, x = .inr z → z = r) : PW E p l e (rmv 0 0 0) s m args below meth c 4 0 0 (MQ below (QG E (fun v u => v = none ∧ u = r)) args s 0 0 (pA E)) h 49 [(0, some (.ref v0)), (1, some (.int v1)), (2, some (.int v2))] [] := by
  unfold fX7_addBytes_b49 at hf
  refine p_iinc (v := -8) X (dcg dc_X7_addBytes 28 rfl) rfl (by decide) (by decide) rfl ?_
  refine p_goto (tgt := 3) X (dcg dc_X7_addBytes 29 rfl) (by decide) ?_
  refine p_pick [0, 1, 2] ?_
  exact k0 _ (Option.some.inj hf).symm
noncomputable def fX7_addBytes_c3 (v0 : Nat) (v1 : Int32) (v2 : Int32) (h : PH) : Option ((Int32 × PH) ⊕ PH) :=
  if (v2 < 0) then (mr (some (h))) else
  if (((Int32.toUInt32 v1 >>> (Int32.toUInt32 v2 &&& Int32.toUInt32 31)).toInt32 &&& (255 : Int32)) = 0) then (fX7_addBytes_b49 v0 v1 v2 h) else
  gd (hK h v0 = 7) (if ((300 : Int32) ≤ (hI h 7 v0 1)) then (fX7_addBytes_b49 v0 v1 v2 h) else
  gs (hR h 7 v0 0) (fun a4 =>
  gd (hK h a4 = 20 ∧ inb (hI h 7 v0 1) (hN h a4)) (lt (sI h 20 a4 (Int32.toNatClampNeg (hI h 7 v0 1)) ((Int32.toUInt32 v1 >>> (Int32.toUInt32 v2 &&& Int32.toUInt32 31)).toInt32 &&& (255 : Int32))) (fun h8 =>
  lt (sI h8 7 v0 1 ((hI h8 7 v0 1) + (1 : Int32))) (fun h9 =>
  fX7_addBytes_b49 v0 v1 v2 h9)))))
set_option maxRecDepth 100000 in
theorem mX7_addBytes_c3 {v0 : Nat} {v1 : Int32} {v2 : Int32} {h : PH} {x : ((Int32 × PH) ⊕ PH)} (hf : fX7_addBytes_c3 v0 v1 v2 h = some x) : (∀ w9 : (Int32 × PH), x = .inl w9 → eqz h (hX (w9.2)) (hV (w9.2))) ∧ (∀ w9 : PH, x = .inr w9 → eqz h (hX w9) (hV w9)) := by
  unfold fX7_addBytes_c3 at hf
  have hle := eqz_rf h
  rcases ite_or hf with ⟨q, hf⟩ | ⟨q, hf⟩
  · have hf := if_t q hf
    obtain ⟨y1, hfm, rfl⟩ := mr_some hf; have hf := hfm; clear hfm
    have ee := Option.some.inj hf; subst ee
    exact ⟨(fun z e => nomatch e), (fun z e => by have ee := Sum.inr.inj (e); subst ee; exact hle)⟩
  · have hf := if_f q hf
    rcases ite_or hf with ⟨q, hf⟩ | ⟨q, hf⟩
    · have hf := if_t q hf
      obtain ⟨c0, cf⟩ := mX7_addBytes_b49 hf
      exact ⟨fun z e => eqz_rt (c0 z (e)) hle, fun z e => eqz_rt (cf z (e)) hle⟩
    · have hf := if_f q hf
      obtain ⟨hk3, hf⟩ := gd_some hf
      rcases ite_or hf with ⟨q, hf⟩ | ⟨q, hf⟩
      · have hf := if_t q hf
        obtain ⟨c0, cf⟩ := mX7_addBytes_b49 hf
        exact ⟨fun z e => eqz_rt (c0 z (e)) hle, fun z e => eqz_rt (cf z (e)) hle⟩
      · have hf := if_f q hf
        obtain ⟨a4, e5, hf⟩ := gs_some hf
        obtain ⟨⟨hk7, hb6⟩, hf⟩ := gd_some hf
        obtain ⟨h8, rfl, hf⟩ := lt_some hf
        obtain ⟨h9, rfl, hf⟩ := lt_some hf
        obtain ⟨c0, cf⟩ := mX7_addBytes_b49 hf
        exact ⟨fun z e => eqz_rt (c0 z (e)) hle, fun z e => eqz_rt (cf z (e)) hle⟩
set_option maxRecDepth 100000 in
theorem wX7_addBytes_c3 {E : PE} {p : Program} {l : Launch} {e : Env} {s : State} {m : MethodId} {args : Array Value} {below : List Frame} {meth : Method} {c : Code} (X : Cx E p l e (rmv 0 0 0) s m args below meth c RX7 cX7_addBytes 4 (none)) (hG : Gs E l) (hnm : meth.name = yX7_addBytes.name) {v0 : Nat} {v1 : Int32} {v2 : Int32} {h : PH} {r : PH} {x : ((Int32 × PH) ⊕ PH)} (hf : fX7_addBytes_c3 v0 v1 v2 h = some x) (k0 : ∀ z : (Int32 × PH), x = .inl z → PW E p l e (rmv 0 0 0) s m args below meth c 4 0 0 (MQ below (QG E (fun v u => v = none ∧ u = r)) args s 0 0 (pA E)) (z.2) 3 [(0, some (.ref v0)), (1, some (.int v1)), (2, some (.int (z.1)))] []) (kf : ∀ z : PH, x = .inr z → z = r) : PW E p l e (rmv 0 0 0) s m args below meth c 4 0 0 (MQ below (QG E (fun v u => v = none ∧ u = r)) args s 0 0 (pA E)) h 3 [(0, some (.ref v0)), (1, some (.int v1)), (2, some (.int v2))] [] := by
  unfold fX7_addBytes_c3 at hf
  refine p_iload_n X (dcg dc_X7_addBytes 2 rfl) rfl rfl ?_
  refine p_if_lt (tgt := 55) X (dcg dc_X7_addBytes 3 rfl) (by decide) (fun q => ?_) (fun q => ?_)
  · have hf := if_t q hf
    obtain ⟨y1, hf, hy2⟩ := mr_some hf
    have hy2f := kf y1 hy2
    subst hy2f
    have er := Option.some.inj hf
    subst er
    exact p_vret X rfl (dcg dc_X7_addBytes 30 rfl) ⟨rfl, rfl⟩ (Nat.le_refl _) (Nat.le_refl _)
  · have hf := if_f q hf
    refine p_iload_n X (dcg dc_X7_addBytes 4 rfl) rfl rfl ?_
    refine p_iload_n X (dcg dc_X7_addBytes 5 rfl) rfl rfl ?_
    refine p_iushr X (dcg dc_X7_addBytes 6 rfl) ?_
    refine p_sipush (v := 255) X (dcg dc_X7_addBytes 7 rfl) (by decide) ?_
    refine p_iand X (dcg dc_X7_addBytes 8 rfl) ?_
    refine p_istore_n X (dcg dc_X7_addBytes 9 rfl) rfl (by decide) rfl ?_
    refine p_iload_n X (dcg dc_X7_addBytes 10 rfl) rfl rfl ?_
    refine p_if_eq (tgt := 49) X (dcg dc_X7_addBytes 11 rfl) (by decide) (fun q => ?_) (fun q => ?_)
    · have hf := if_t q hf
      refine p_pick [0, 1, 2] ?_
      exact wX7_addBytes_b49 X hG hnm hf k0 kf
    · have hf := if_f q hf
      refine p_aload_n X (dcg dc_X7_addBytes 12 rfl) rfl rfl ?_
      obtain ⟨hk3, hf⟩ := gd_some hf
      refine p_getI X fl_X7_19 rfl (by decide) (dcg dc_X7_addBytes 13 rfl) hk3 ?_
      refine p_sipush (v := 300) X (dcg dc_X7_addBytes 14 rfl) (by decide) ?_
      refine p_icmp_ge (tgt := 49) X (dcg dc_X7_addBytes 15 rfl) (by decide) (fun q => ?_) (fun q => ?_)
      · have hf := if_t q hf
        refine p_pick [0, 1, 2] ?_
        exact wX7_addBytes_b49 X hG hnm hf k0 kf
      · have hf := if_f q hf
        refine p_aload_n X (dcg dc_X7_addBytes 16 rfl) rfl rfl ?_
        refine p_getR X fl_X7_11 rfl (by decide) (dcg dc_X7_addBytes 17 rfl) hk3 ?_
        refine p_aload_n X (dcg dc_X7_addBytes 18 rfl) rfl rfl ?_
        refine p_getI X fl_X7_19 rfl (by decide) (dcg dc_X7_addBytes 19 rfl) hk3 ?_
        refine p_iload_n X (dcg dc_X7_addBytes 20 rfl) rfl rfl ?_
        obtain ⟨a4, e5, hf⟩ := gs_some hf
        first | subst e5 | (try rw [e5])
        obtain ⟨⟨hk7, hb6⟩, hf⟩ := gd_some hf
        refine p_iast X (dcg dc_X7_addBytes 21 rfl) hk7 (vp_of_inb hb6) ?_
        obtain ⟨h8, rfl, hf⟩ := lt_some hf
        refine p_aload_n X (dcg dc_X7_addBytes 22 rfl) rfl rfl ?_
        refine p_dup X (dcg dc_X7_addBytes 23 rfl) rfl ?_
        refine p_getI X fl_X7_19 rfl (by decide) (dcg dc_X7_addBytes 24 rfl) hk3 ?_
        refine p_iconst (v := 1) X (dcg dc_X7_addBytes 25 rfl) (by decide) ?_
        refine p_iadd X (dcg dc_X7_addBytes 26 rfl) ?_
        refine p_putI X fl_X7_19 rfl (by decide) (fun q hq => by cases hq; rfl) rfl rfl (dcg dc_X7_addBytes 27 rfl) hk3 ?_
        obtain ⟨h9, rfl, hf⟩ := lt_some hf
        refine p_pick [0, 1, 2] ?_
        exact wX7_addBytes_b49 X hG hnm hf k0 kf
noncomputable def fX7_addBytes_l3 (v0 : Nat) (v1 : Int32) (v2 : Int32) (h : PH) : Option PH := wh (fun z : (Int32 × PH) => fX7_addBytes_c3 v0 v1 (z.1) (z.2)) (v2, h)
set_option maxRecDepth 100000 in
theorem mX7_addBytes_l3 {v0 : Nat} {v1 : Int32} {v2 : Int32} {h : PH} {r : PH} (hf : fX7_addBytes_l3 v0 v1 v2 h = some r) : eqz h (hX r) (hV r) := by
  unfold fX7_addBytes_l3 at hf
  refine wh_ind (P := fun z => eqz (z.2) (hX r) (hV r)) (fun z x0 hs i1 i2 => ?_) _ hf
  obtain ⟨c0, cf⟩ := mX7_addBytes_c3 (v0 := v0) (v1 := v1) (v2 := z.1) (h := z.2) hs
  rcases hxx : x0 with zz | zz
  · exact eqz_tr (c0 zz hxx) (i1 zz hxx)
  · have ee := i2 zz hxx; subst ee; exact cf zz hxx
set_option maxRecDepth 100000 in
theorem wX7_addBytes_l3 {E : PE} {p : Program} {l : Launch} {e : Env} {s : State} {m : MethodId} {args : Array Value} {below : List Frame} {meth : Method} {c : Code} (X : Cx E p l e (rmv 0 0 0) s m args below meth c RX7 cX7_addBytes 4 (none)) (hG : Gs E l) (hnm : meth.name = yX7_addBytes.name) {v0 : Nat} {v1 : Int32} {v2 : Int32} {h : PH} {r : PH} (hf : fX7_addBytes_l3 v0 v1 v2 h = some r)  : PW E p l e (rmv 0 0 0) s m args below meth c 4 0 0 (MQ below (QG E (fun v u => v = none ∧ u = r)) args s 0 0 (pA E)) h 3 [(0, some (.ref v0)), (1, some (.int v1)), (2, some (.int v2))] [] := by
  unfold fX7_addBytes_l3 at hf
  refine wh_ind (P := fun z => PW E p l e (rmv 0 0 0) s m args below meth c 4 0 0 (MQ below (QG E (fun v u => v = none ∧ u = r)) args s 0 0 (pA E)) (z.2) 3 [(0, some (.ref v0)), (1, some (.int v1)), (2, some (.int (z.1)))] []) (fun z x0 hs i1 i2 => ?_) _ hf
  exact wX7_addBytes_c3 (r := r) (v0 := v0) (v1 := v1) (v2 := z.1) (h := z.2) X hG hnm hs i1  i2
noncomputable def fX7_addBytes (v0 : Nat) (v1 : Int32) (h : PH) : Option PH :=
  fX7_addBytes_l3 v0 v1 (24 : Int32) h
set_option maxRecDepth 100000 in
theorem mX7_addBytes {v0 : Nat} {v1 : Int32} {h : PH} {r : PH} (hf : fX7_addBytes v0 v1 h = some r) : eqz h (hX r) (hV r) := by
  unfold fX7_addBytes at hf
  have hle := eqz_rf h
  exact eqz_rt (mX7_addBytes_l3 hf) hle
set_option maxRecDepth 100000 in
theorem wX7_addBytes {E : PE} {l : Launch} (hG : Gs E l) {v0 : Nat} {v1 : Int32} {h : PH} {r : PH} (hf : fX7_addBytes v0 v1 h = some r) : Ct E l 0 0 0 yX7_addBytes cX7_addBytes 4 (none) [.ref v0, .int v1] h (fun v u => v = none ∧ u = r) := by
  refine ct_of hG (by decide) (Nat.le_of_ble_eq_true rfl) ?_
  intro p e s m args below meth c X hnm
  show PW E p l e _ s m args below meth c _ 0 0 _ h 0 [(0, some (.ref v0)), (1, some (.int v1))] []
  unfold fX7_addBytes at hf
  refine p_bipush (v := 24) X (dcg dc_X7_addBytes 0 rfl) (by decide) ?_
  refine p_istore_n X (dcg dc_X7_addBytes 1 rfl) rfl (by decide) rfl ?_
  refine p_pick [0, 1, 2] ?_
  exact wX7_addBytes_l3 X hG hnm hf 
theorem dc_X7_letterAtByte : decs cX7_letterAtByte [(0, .iload_n 0, 1), (1, .bipush 97, 2), (3, .if_icmp .lt 16, 3), (6, .iload_n 0, 1), (7, .bipush 122, 2), (9, .if_icmp .gt 10, 3), (12, .iload_n 0, 1), (13, .bipush 97, 2), (15, .isub, 1), (16, .iconst 1, 1), (17, .iadd, 1), (18, .ireturn, 1), (19, .iload_n 0, 1), (20, .bipush 65, 2), (22, .if_icmp .lt 18, 3), (25, .iload_n 0, 1), (26, .bipush 90, 2), (28, .if_icmp .gt 12, 3), (31, .iload_n 0, 1), (32, .bipush 65, 2), (34, .isub, 1), (35, .iconst 1, 1), (36, .iadd, 1), (37, .goto 4, 3), (40, .iconst 0, 1), (41, .ireturn, 1)] = true := by decide +kernel
noncomputable def fX7_letterAtByte_b41 (t0 : Int32) : Option Int32 :=
  some (t0)
set_option maxRecDepth 100000 in
theorem wX7_letterAtByte_b41 {E : PE} {p : Program} {l : Launch} {e : Env} {s : State} {m : MethodId} {args : Array Value} {below : List Frame} {meth : Method} {c : Code} (X : Cx E p l e (rmv 0 0 0) s m args below meth c RX7 cX7_letterAtByte 1 (some .int)) (hG : Gs E l) (hnm : meth.name = yX7_letterAtByte.name) {t0 : Int32} {h : PH} {r : Int32} (hf : fX7_letterAtByte_b41 t0 = some r)  : PW E p l e (rmv 0 0 0) s m args below meth c 1 0 0 (MQ below (QG E (fun v u => v = some (.int r) ∧ u = h)) args s 0 0 (pA E)) h 41 [] [.int t0] := by
  unfold fX7_letterAtByte_b41 at hf
  have er := Option.some.inj hf
  subst er
  exact p_iret X rfl (dcg dc_X7_letterAtByte 25 rfl) ⟨rfl, rfl⟩ (Nat.le_refl _) (Nat.le_refl _)
noncomputable def fX7_letterAtByte_b40  : Option Int32 :=
  fX7_letterAtByte_b41 (0 : Int32)
set_option maxRecDepth 100000 in
theorem wX7_letterAtByte_b40 {E : PE} {p : Program} {l : Launch} {e : Env} {s : State} {m : MethodId} {args : Array Value} {below : List Frame} {meth : Method} {c : Code} (X : Cx E p l e (rmv 0 0 0) s m args below meth c RX7 cX7_letterAtByte 1 (some .int)) (hG : Gs E l) (hnm : meth.name = yX7_letterAtByte.name)  {h : PH} {r : Int32} (hf : fX7_letterAtByte_b40  = some r)  : PW E p l e (rmv 0 0 0) s m args below meth c 1 0 0 (MQ below (QG E (fun v u => v = some (.int r) ∧ u = h)) args s 0 0 (pA E)) h 40 [] [] := by
  unfold fX7_letterAtByte_b40 at hf
  refine p_iconst (v := 0) X (dcg dc_X7_letterAtByte 24 rfl) (by decide) ?_
  refine p_pick [] ?_
  exact wX7_letterAtByte_b41 X hG hnm hf 
noncomputable def fX7_letterAtByte_b19 (v0 : Int32) : Option Int32 :=
  if (v0 < (65 : Int32)) then (fX7_letterAtByte_b40 ) else
  if ((90 : Int32) < v0) then (fX7_letterAtByte_b40 ) else
  fX7_letterAtByte_b41 ((v0 - (65 : Int32)) + (1 : Int32))
set_option maxRecDepth 100000 in
theorem wX7_letterAtByte_b19 {E : PE} {p : Program} {l : Launch} {e : Env} {s : State} {m : MethodId} {args : Array Value} {below : List Frame} {meth : Method} {c : Code} (X : Cx E p l e (rmv 0 0 0) s m args below meth c RX7 cX7_letterAtByte 1 (some .int)) (hG : Gs E l) (hnm : meth.name = yX7_letterAtByte.name) {v0 : Int32} {h : PH} {r : Int32} (hf : fX7_letterAtByte_b19 v0 = some r)  : PW E p l e (rmv 0 0 0) s m args below meth c 1 0 0 (MQ below (QG E (fun v u => v = some (.int r) ∧ u = h)) args s 0 0 (pA E)) h 19 [(0, some (.int v0))] [] := by
  unfold fX7_letterAtByte_b19 at hf
  refine p_iload_n X (dcg dc_X7_letterAtByte 12 rfl) rfl rfl ?_
  refine p_bipush (v := 65) X (dcg dc_X7_letterAtByte 13 rfl) (by decide) ?_
  refine p_icmp_lt (tgt := 40) X (dcg dc_X7_letterAtByte 14 rfl) (by decide) (fun q => ?_) (fun q => ?_)
  · have hf := if_t q hf
    refine p_pick [] ?_
    exact wX7_letterAtByte_b40 X hG hnm hf 
  · have hf := if_f q hf
    refine p_iload_n X (dcg dc_X7_letterAtByte 15 rfl) rfl rfl ?_
    refine p_bipush (v := 90) X (dcg dc_X7_letterAtByte 16 rfl) (by decide) ?_
    refine p_icmp_gt (tgt := 40) X (dcg dc_X7_letterAtByte 17 rfl) (by decide) (fun q => ?_) (fun q => ?_)
    · have hf := if_t q hf
      refine p_pick [] ?_
      exact wX7_letterAtByte_b40 X hG hnm hf 
    · have hf := if_f q hf
      refine p_iload_n X (dcg dc_X7_letterAtByte 18 rfl) rfl rfl ?_
      refine p_bipush (v := 65) X (dcg dc_X7_letterAtByte 19 rfl) (by decide) ?_
      refine p_isub X (dcg dc_X7_letterAtByte 20 rfl) ?_
      refine p_iconst (v := 1) X (dcg dc_X7_letterAtByte 21 rfl) (by decide) ?_
      refine p_iadd X (dcg dc_X7_letterAtByte 22 rfl) ?_
      refine p_goto (tgt := 41) X (dcg dc_X7_letterAtByte 23 rfl) (by decide) ?_
      refine p_pick [] ?_
      exact wX7_letterAtByte_b41 X hG hnm hf 
noncomputable def fX7_letterAtByte (v0 : Int32) : Option Int32 :=
  if (v0 < (97 : Int32)) then (fX7_letterAtByte_b19 v0) else
  if ((122 : Int32) < v0) then (fX7_letterAtByte_b19 v0) else
  some (((v0 - (97 : Int32)) + (1 : Int32)))
set_option maxRecDepth 100000 in
theorem wX7_letterAtByte {E : PE} {l : Launch} (hG : Gs E l) {v0 : Int32} {h : PH} {r : Int32} (hf : fX7_letterAtByte v0 = some r) : Ct E l 0 0 0 yX7_letterAtByte cX7_letterAtByte 1 (some .int) [.int v0] h (fun v u => v = some (.int r) ∧ u = h) := by
  refine ct_of hG (by decide) (Nat.le_of_ble_eq_true rfl) ?_
  intro p e s m args below meth c X hnm
  show PW E p l e _ s m args below meth c _ 0 0 _ h 0 [(0, some (.int v0))] []
  unfold fX7_letterAtByte at hf
  refine p_iload_n X (dcg dc_X7_letterAtByte 0 rfl) rfl rfl ?_
  refine p_bipush (v := 97) X (dcg dc_X7_letterAtByte 1 rfl) (by decide) ?_
  refine p_icmp_lt (tgt := 19) X (dcg dc_X7_letterAtByte 2 rfl) (by decide) (fun q => ?_) (fun q => ?_)
  · have hf := if_t q hf
    refine p_pick [0] ?_
    exact wX7_letterAtByte_b19 X hG hnm hf 
  · have hf := if_f q hf
    refine p_iload_n X (dcg dc_X7_letterAtByte 3 rfl) rfl rfl ?_
    refine p_bipush (v := 122) X (dcg dc_X7_letterAtByte 4 rfl) (by decide) ?_
    refine p_icmp_gt (tgt := 19) X (dcg dc_X7_letterAtByte 5 rfl) (by decide) (fun q => ?_) (fun q => ?_)
    · have hf := if_t q hf
      refine p_pick [0] ?_
      exact wX7_letterAtByte_b19 X hG hnm hf 
    · have hf := if_f q hf
      refine p_iload_n X (dcg dc_X7_letterAtByte 6 rfl) rfl rfl ?_
      refine p_bipush (v := 97) X (dcg dc_X7_letterAtByte 7 rfl) (by decide) ?_
      refine p_isub X (dcg dc_X7_letterAtByte 8 rfl) ?_
      refine p_iconst (v := 1) X (dcg dc_X7_letterAtByte 9 rfl) (by decide) ?_
      refine p_iadd X (dcg dc_X7_letterAtByte 10 rfl) ?_
      have er := Option.some.inj hf
      subst er
      exact p_iret X rfl (dcg dc_X7_letterAtByte 11 rfl) ⟨rfl, rfl⟩ (Nat.le_refl _) (Nat.le_refl _)
theorem dc_X7_fillText : decs cX7_fillText [(0, .iconst 0, 1), (1, .istore_n 2, 1), (2, .iconst 0, 1), (3, .istore_n 3, 1), (4, .iconst 0, 1), (5, .istore 4, 2), (7, .iload 4, 2), (9, .aload_n 0, 1), (10, .getfield 19, 3), (13, .if_icmp .ge 75, 3), (16, .aload_n 0, 1), (17, .getfield 11, 3), (20, .iload 4, 2), (22, .iaload, 1), (23, .invokestatic 33, 3), (26, .istore 5, 2), (28, .iload 5, 2), (30, .ifCond .ne 19, 3), (33, .iload_n 2, 1), (34, .ifCond .le 8, 3), (37, .aload_n 1, 1), (38, .iload_n 3, 1), (39, .invokevirtual 37, 3), (42, .iconst 0, 1), (43, .istore_n 2, 1), (44, .iconst 0, 1), (45, .istore_n 3, 1), (46, .goto 36, 3), (49, .iinc 2 1, 3), (52, .iload_n 3, 1), (53, .bipush 27, 2), (55, .imul, 1), (56, .iload 5, 2), (58, .iadd, 1), (59, .istore_n 3, 1), (60, .iload_n 2, 1), (61, .bipush 6, 2), (63, .if_icmp .gt 12, 3), (66, .aload_n 1, 1), (67, .invokevirtual 42, 3), (70, .bipush 40, 2), (72, .if_icmp .ne 10, 3), (75, .iload 4, 2), (77, .iload_n 2, 1), (78, .isub, 1), (79, .iconst 1, 1), (80, .iadd, 1), (81, .ireturn, 1), (82, .iinc 4 1, 3), (85, .goto (-78), 3), (88, .iload_n 2, 1), (89, .ifCond .le 8, 3), (92, .aload_n 1, 1), (93, .iload_n 3, 1), (94, .invokevirtual 37, 3), (97, .iconst (-1), 1), (98, .ireturn, 1)] = true := by decide +kernel
noncomputable def fX7_fillText_b97  (h : PH) : Option (Int32 × PH) :=
  some (((-1 : Int32), h))
set_option maxRecDepth 100000 in
theorem mX7_fillText_b97  {h : PH} {r : (Int32 × PH)} (hf : fX7_fillText_b97  h = some r) : eqz h (hX r.2) (hV r.2) := by
  unfold fX7_fillText_b97 at hf
  have hle := eqz_rf h
  have ee := Option.some.inj hf; subst ee; exact hle
set_option maxRecDepth 100000 in
theorem wX7_fillText_b97 {E : PE} {p : Program} {l : Launch} {e : Env} {s : State} {m : MethodId} {args : Array Value} {below : List Frame} {meth : Method} {c : Code} (X : Cx E p l e (rmv 1 0 0) s m args below meth c RX7 cX7_fillText 6 (some .int)) (hG : Gs E l) (hnm : meth.name = yX7_fillText.name)  {h : PH} {r : (Int32 × PH)} (hf : fX7_fillText_b97  h = some r)  : PW E p l e (rmv 1 0 0) s m args below meth c 6 0 0 (MQ below (QG E (fun v u => v = some (.int r.1) ∧ u = r.2)) args s 0 0 (pA E)) h 97 [] [] := by
  unfold fX7_fillText_b97 at hf
  refine p_iconst (v := -1) X (dcg dc_X7_fillText 55 rfl) (by decide) ?_
  have er := Option.some.inj hf
  subst er
  exact p_iret X rfl (dcg dc_X7_fillText 56 rfl) ⟨rfl, rfl⟩ (Nat.le_refl _) (Nat.le_refl _)
noncomputable def fX7_fillText_b75 (v2 : Int32) (v4 : Int32) (h : PH) : Option (Int32 × PH) :=
  some ((((v4 - v2) + (1 : Int32)), h))
set_option maxRecDepth 100000 in
theorem mX7_fillText_b75 {v2 : Int32} {v4 : Int32} {h : PH} {r : (Int32 × PH)} (hf : fX7_fillText_b75 v2 v4 h = some r) : eqz h (hX r.2) (hV r.2) := by
  unfold fX7_fillText_b75 at hf
  have hle := eqz_rf h
  have ee := Option.some.inj hf; subst ee; exact hle
set_option maxRecDepth 100000 in
theorem wX7_fillText_b75 {E : PE} {p : Program} {l : Launch} {e : Env} {s : State} {m : MethodId} {args : Array Value} {below : List Frame} {meth : Method} {c : Code} (X : Cx E p l e (rmv 1 0 0) s m args below meth c RX7 cX7_fillText 6 (some .int)) (hG : Gs E l) (hnm : meth.name = yX7_fillText.name) {v2 : Int32} {v4 : Int32} {h : PH} {r : (Int32 × PH)} (hf : fX7_fillText_b75 v2 v4 h = some r)  : PW E p l e (rmv 1 0 0) s m args below meth c 6 0 0 (MQ below (QG E (fun v u => v = some (.int r.1) ∧ u = r.2)) args s 0 0 (pA E)) h 75 [(2, some (.int v2)), (4, some (.int v4))] [] := by
  unfold fX7_fillText_b75 at hf
  refine p_iload X (dcg dc_X7_fillText 42 rfl) rfl ?_
  refine p_iload_n X (dcg dc_X7_fillText 43 rfl) rfl rfl ?_
  refine p_isub X (dcg dc_X7_fillText 44 rfl) ?_
  refine p_iconst (v := 1) X (dcg dc_X7_fillText 45 rfl) (by decide) ?_
  refine p_iadd X (dcg dc_X7_fillText 46 rfl) ?_
  have er := Option.some.inj hf
  subst er
  exact p_iret X rfl (dcg dc_X7_fillText 47 rfl) ⟨rfl, rfl⟩ (Nat.le_refl _) (Nat.le_refl _)
noncomputable def fX7_fillText_b82 (v0 : Nat) (v1 : Option Nat) (v2 : Int32) (v3 : Int32) (v4 : Int32) (h : PH) : Option ((Int32 × Int32 × Int32 × PH) ⊕ (Int32 × PH)) :=
  some (.inl (v2, v3, (v4 + 1), h))
set_option maxRecDepth 100000 in
theorem mX7_fillText_b82 {v0 : Nat} {v1 : Option Nat} {v2 : Int32} {v3 : Int32} {v4 : Int32} {h : PH} {x : ((Int32 × Int32 × Int32 × PH) ⊕ (Int32 × PH))} (hf : fX7_fillText_b82 v0 v1 v2 v3 v4 h = some x) : (∀ w9 : (Int32 × Int32 × Int32 × PH), x = .inl w9 → eqz h (hX (w9.2.2.2)) (hV (w9.2.2.2))) ∧ (∀ w9 : (Int32 × PH), x = .inr w9 → eqz h (hX w9.2) (hV w9.2)) := by
  unfold fX7_fillText_b82 at hf
  have hle := eqz_rf h
  have ee := Option.some.inj hf; subst ee
  exact ⟨(fun z e => by have ee := Sum.inl.inj (e); subst ee; exact hle), (fun z e => nomatch e)⟩
set_option maxRecDepth 100000 in
theorem wX7_fillText_b82 {E : PE} {p : Program} {l : Launch} {e : Env} {s : State} {m : MethodId} {args : Array Value} {below : List Frame} {meth : Method} {c : Code} (X : Cx E p l e (rmv 1 0 0) s m args below meth c RX7 cX7_fillText 6 (some .int)) (hG : Gs E l) (hnm : meth.name = yX7_fillText.name) {v0 : Nat} {v1 : Option Nat} {v2 : Int32} {v3 : Int32} {v4 : Int32} {h : PH} {r : (Int32 × PH)} {x : ((Int32 × Int32 × Int32 × PH) ⊕ (Int32 × PH))} (hf : fX7_fillText_b82 v0 v1 v2 v3 v4 h = some x) (k0 : ∀ z : (Int32 × Int32 × Int32 × PH), x = .inl z → PW E p l e (rmv 1 0 0) s m args below meth c 6 0 0 (MQ below (QG E (fun v u => v = some (.int r.1) ∧ u = r.2)) args s 0 0 (pA E)) (z.2.2.2) 7 [(0, some (.ref v0)), (1, some (va_rf v1)), (2, some (.int (z.1))), (3, some (.int (z.2.1))), (4, some (.int (z.2.2.1)))] []) (kf : ∀ z : (Int32 × PH), x = .inr z → z = r) : PW E p l e (rmv 1 0 0) s m args below meth c 6 0 0 (MQ below (QG E (fun v u => v = some (.int r.1) ∧ u = r.2)) args s 0 0 (pA E)) h 82 [(0, some (.ref v0)), (1, some (va_rf v1)), (2, some (.int v2)), (3, some (.int v3)), (4, some (.int v4))] [] := by
  unfold fX7_fillText_b82 at hf
  refine p_iinc (v := 1) X (dcg dc_X7_fillText 48 rfl) rfl (by decide) (by decide) rfl ?_
  refine p_goto (tgt := 7) X (dcg dc_X7_fillText 49 rfl) (by decide) ?_
  refine p_pick [0, 1, 2, 3, 4] ?_
  exact k0 _ (Option.some.inj hf).symm
noncomputable def fX7_fillText_b42 (v0 : Nat) (v1 : Option Nat) (v4 : Int32) (h : PH) : Option ((Int32 × Int32 × Int32 × PH) ⊕ (Int32 × PH)) :=
  fX7_fillText_b82 v0 v1 (0 : Int32) (0 : Int32) v4 h
set_option maxRecDepth 100000 in
theorem mX7_fillText_b42 {v0 : Nat} {v1 : Option Nat} {v4 : Int32} {h : PH} {x : ((Int32 × Int32 × Int32 × PH) ⊕ (Int32 × PH))} (hf : fX7_fillText_b42 v0 v1 v4 h = some x) : (∀ w9 : (Int32 × Int32 × Int32 × PH), x = .inl w9 → eqz h (hX (w9.2.2.2)) (hV (w9.2.2.2))) ∧ (∀ w9 : (Int32 × PH), x = .inr w9 → eqz h (hX w9.2) (hV w9.2)) := by
  unfold fX7_fillText_b42 at hf
  have hle := eqz_rf h
  obtain ⟨c0, cf⟩ := mX7_fillText_b82 hf
  exact ⟨fun z e => eqz_rt (c0 z (e)) hle, fun z e => eqz_rt (cf z (e)) hle⟩
set_option maxRecDepth 100000 in
theorem wX7_fillText_b42 {E : PE} {p : Program} {l : Launch} {e : Env} {s : State} {m : MethodId} {args : Array Value} {below : List Frame} {meth : Method} {c : Code} (X : Cx E p l e (rmv 1 0 0) s m args below meth c RX7 cX7_fillText 6 (some .int)) (hG : Gs E l) (hnm : meth.name = yX7_fillText.name) {v0 : Nat} {v1 : Option Nat} {v4 : Int32} {h : PH} {r : (Int32 × PH)} {x : ((Int32 × Int32 × Int32 × PH) ⊕ (Int32 × PH))} (hf : fX7_fillText_b42 v0 v1 v4 h = some x) (k0 : ∀ z : (Int32 × Int32 × Int32 × PH), x = .inl z → PW E p l e (rmv 1 0 0) s m args below meth c 6 0 0 (MQ below (QG E (fun v u => v = some (.int r.1) ∧ u = r.2)) args s 0 0 (pA E)) (z.2.2.2) 7 [(0, some (.ref v0)), (1, some (va_rf v1)), (2, some (.int (z.1))), (3, some (.int (z.2.1))), (4, some (.int (z.2.2.1)))] []) (kf : ∀ z : (Int32 × PH), x = .inr z → z = r) : PW E p l e (rmv 1 0 0) s m args below meth c 6 0 0 (MQ below (QG E (fun v u => v = some (.int r.1) ∧ u = r.2)) args s 0 0 (pA E)) h 42 [(0, some (.ref v0)), (1, some (va_rf v1)), (4, some (.int v4))] [] := by
  unfold fX7_fillText_b42 at hf
  refine p_iconst (v := 0) X (dcg dc_X7_fillText 23 rfl) (by decide) ?_
  refine p_istore_n X (dcg dc_X7_fillText 24 rfl) rfl (by decide) (nwq (k := 1) rfl) ?_
  refine p_iconst (v := 0) X (dcg dc_X7_fillText 25 rfl) (by decide) ?_
  refine p_istore_n X (dcg dc_X7_fillText 26 rfl) rfl (by decide) rfl ?_
  refine p_goto (tgt := 82) X (dcg dc_X7_fillText 27 rfl) (by decide) ?_
  refine p_pick [0, 1, 2, 3, 4] ?_
  exact wX7_fillText_b82 X hG hnm hf k0 kf
noncomputable def fX7_fillText_c7 (v0 : Nat) (v1 : Option Nat) (v2 : Int32) (v3 : Int32) (v4 : Int32) (h : PH) : Option ((Int32 × Int32 × Int32 × PH) ⊕ (Int32 × PH)) :=
  gd (hK h v0 = 7) (if ((hI h 7 v0 1) ≤ v4) then (mr (if (v2 ≤ 0) then (fX7_fillText_b97  h) else
  gs v1 (fun a4 =>
  gd (hK h a4 = 8) (bd (fX8_add a4 v3 h) (fun z7 =>
  fX7_fillText_b97  z7))))) else
  gs (hR h 7 v0 0) (fun a8 =>
  gd (hK h a8 = 20 ∧ inb v4 (hN h a8)) (bd (fX7_letterAtByte (hI h 20 a8 (Int32.toNatClampNeg v4))) (fun z12 =>
  if (¬ z12 = 0) then (if ((6 : Int32) < (v2 + 1)) then (mr (fX7_fillText_b75 (v2 + 1) v4 h)) else
  gs v1 (fun a15 =>
  gd (hK h a15 = 8) (bd (fX8_size a15 h) (fun z18 =>
  if (¬ z18 = (40 : Int32)) then (fX7_fillText_b82 v0 (some a15) (v2 + 1) ((v3 * (27 : Int32)) + z12) v4 h) else
  mr (fX7_fillText_b75 (v2 + 1) v4 h))))) else
  if (v2 ≤ 0) then (fX7_fillText_b42 v0 v1 v4 h) else
  gs v1 (fun a21 =>
  gd (hK h a21 = 8) (bd (fX8_add a21 v3 h) (fun z24 =>
  fX7_fillText_b42 v0 (some a21) v4 z24)))))))
set_option maxRecDepth 100000 in
theorem mX7_fillText_c7 {v0 : Nat} {v1 : Option Nat} {v2 : Int32} {v3 : Int32} {v4 : Int32} {h : PH} {x : ((Int32 × Int32 × Int32 × PH) ⊕ (Int32 × PH))} (hf : fX7_fillText_c7 v0 v1 v2 v3 v4 h = some x) : (∀ w9 : (Int32 × Int32 × Int32 × PH), x = .inl w9 → eqz h (hX (w9.2.2.2)) (hV (w9.2.2.2))) ∧ (∀ w9 : (Int32 × PH), x = .inr w9 → eqz h (hX w9.2) (hV w9.2)) := by
  unfold fX7_fillText_c7 at hf
  have hle := eqz_rf h
  obtain ⟨hk1, hf⟩ := gd_some hf
  rcases ite_or hf with ⟨q, hf⟩ | ⟨q, hf⟩
  · have hf := if_t q hf
    obtain ⟨y2, hfm, rfl⟩ := mr_some hf; have hf := hfm; clear hfm
    rcases ite_or hf with ⟨q, hf⟩ | ⟨q, hf⟩
    · have hf := if_t q hf
      have cf := mX7_fillText_b97 hf
      exact ⟨(fun z e => nomatch e), (fun z e => by cases e <;> exact eqz_rt cf hle)⟩
    · have hf := if_f q hf
      obtain ⟨a4, e5, hf⟩ := gs_some hf
      obtain ⟨hk6, hf⟩ := gd_some hf
      obtain ⟨z7, hz7, hf⟩ := bd_some hf
      have hle := eqz_rt (mX8_add hz7) hle
      have cf := mX7_fillText_b97 hf
      exact ⟨(fun z e => nomatch e), (fun z e => by cases e <;> exact eqz_rt cf hle)⟩
  · have hf := if_f q hf
    obtain ⟨a8, e9, hf⟩ := gs_some hf
    obtain ⟨⟨hk11, hb10⟩, hf⟩ := gd_some hf
    obtain ⟨z12, hz12, hf⟩ := bd_some hf
    rcases ite_or hf with ⟨q, hf⟩ | ⟨q, hf⟩
    · have hf := if_t q hf
      rcases ite_or hf with ⟨q, hf⟩ | ⟨q, hf⟩
      · have hf := if_t q hf
        obtain ⟨y13, hfm, rfl⟩ := mr_some hf; have hf := hfm; clear hfm
        have cf := mX7_fillText_b75 hf
        exact ⟨(fun z e => nomatch e), (fun z e => by cases e <;> exact eqz_rt cf hle)⟩
      · have hf := if_f q hf
        obtain ⟨a15, e16, hf⟩ := gs_some hf
        obtain ⟨hk17, hf⟩ := gd_some hf
        obtain ⟨z18, hz18, hf⟩ := bd_some hf
        rcases ite_or hf with ⟨q, hf⟩ | ⟨q, hf⟩
        · have hf := if_t q hf
          obtain ⟨c0, cf⟩ := mX7_fillText_b82 hf
          exact ⟨fun z e => eqz_rt (c0 z (e)) hle, fun z e => eqz_rt (cf z (e)) hle⟩
        · have hf := if_f q hf
          obtain ⟨y19, hfm, rfl⟩ := mr_some hf; have hf := hfm; clear hfm
          have cf := mX7_fillText_b75 hf
          exact ⟨(fun z e => nomatch e), (fun z e => by cases e <;> exact eqz_rt cf hle)⟩
    · have hf := if_f q hf
      rcases ite_or hf with ⟨q, hf⟩ | ⟨q, hf⟩
      · have hf := if_t q hf
        obtain ⟨c0, cf⟩ := mX7_fillText_b42 hf
        exact ⟨fun z e => eqz_rt (c0 z (e)) hle, fun z e => eqz_rt (cf z (e)) hle⟩
      · have hf := if_f q hf
        obtain ⟨a21, e22, hf⟩ := gs_some hf
        obtain ⟨hk23, hf⟩ := gd_some hf
        obtain ⟨z24, hz24, hf⟩ := bd_some hf
        have hle := eqz_rt (mX8_add hz24) hle
        obtain ⟨c0, cf⟩ := mX7_fillText_b42 hf
        exact ⟨fun z e => eqz_rt (c0 z (e)) hle, fun z e => eqz_rt (cf z (e)) hle⟩
set_option maxRecDepth 100000 in
theorem wX7_fillText_c7 {E : PE} {p : Program} {l : Launch} {e : Env} {s : State} {m : MethodId} {args : Array Value} {below : List Frame} {meth : Method} {c : Code} (X : Cx E p l e (rmv 1 0 0) s m args below meth c RX7 cX7_fillText 6 (some .int)) (hG : Gs E l) (hnm : meth.name = yX7_fillText.name) {v0 : Nat} {v1 : Option Nat} {v2 : Int32} {v3 : Int32} {v4 : Int32} {h : PH} {r : (Int32 × PH)} {x : ((Int32 × Int32 × Int32 × PH) ⊕ (Int32 × PH))} (hf : fX7_fillText_c7 v0 v1 v2 v3 v4 h = some x) (k0 : ∀ z : (Int32 × Int32 × Int32 × PH), x = .inl z → PW E p l e (rmv 1 0 0) s m args below meth c 6 0 0 (MQ below (QG E (fun v u => v = some (.int r.1) ∧ u = r.2)) args s 0 0 (pA E)) (z.2.2.2) 7 [(0, some (.ref v0)), (1, some (va_rf v1)), (2, some (.int (z.1))), (3, some (.int (z.2.1))), (4, some (.int (z.2.2.1)))] []) (kf : ∀ z : (Int32 × PH), x = .inr z → z = r) : PW E p l e (rmv 1 0 0) s m args below meth c 6 0 0 (MQ below (QG E (fun v u => v = some (.int r.1) ∧ u = r.2)) args s 0 0 (pA E)) h 7 [(0, some (.ref v0)), (1, some (va_rf v1)), (2, some (.int v2)), (3, some (.int v3)), (4, some (.int v4))] [] := by
  unfold fX7_fillText_c7 at hf
  refine p_iload X (dcg dc_X7_fillText 6 rfl) rfl ?_
  refine p_aload_n X (dcg dc_X7_fillText 7 rfl) rfl rfl ?_
  obtain ⟨hk1, hf⟩ := gd_some hf
  refine p_getI X fl_X7_19 rfl (by decide) (dcg dc_X7_fillText 8 rfl) hk1 ?_
  refine p_icmp_ge (tgt := 88) X (dcg dc_X7_fillText 9 rfl) (by decide) (fun q => ?_) (fun q => ?_)
  · have hf := if_t q hf
    obtain ⟨y2, hf, hy3⟩ := mr_some hf
    have hy3f := kf y2 hy3
    subst hy3f
    refine p_iload_n X (dcg dc_X7_fillText 50 rfl) rfl rfl ?_
    refine p_if_le (tgt := 97) X (dcg dc_X7_fillText 51 rfl) (by decide) (fun q => ?_) (fun q => ?_)
    · have hf := if_t q hf
      refine p_pick [] ?_
      exact wX7_fillText_b97 X hG hnm hf 
    · have hf := if_f q hf
      refine p_aloadq_n X (dcg dc_X7_fillText 52 rfl) rfl rfl ?_
      refine p_iload_n X (dcg dc_X7_fillText 53 rfl) rfl rfl ?_
      obtain ⟨a4, e5, hf⟩ := gs_some hf
      first | subst e5 | (try rw [e5])
      obtain ⟨hk6, hf⟩ := gd_some hf
      obtain ⟨z7, hz7, hf⟩ := bd_some hf
      refine p_callV (As := [_]) X ml_X7_37 (dcg dc_X7_fillText 54 rfl) rfl rfl hk6 (wX8_add hG hz7) (by decide) (room4 (Nat.le_of_ble_eq_true rfl)) (Nat.le_refl _) (Nat.le_refl _) ?_
      rintro _ u9 ⟨rfl, e9⟩; have e9 := e9.symm; subst e9
      refine p_pick [] ?_
      exact wX7_fillText_b97 X hG hnm hf 
  · have hf := if_f q hf
    refine p_aload_n X (dcg dc_X7_fillText 10 rfl) rfl rfl ?_
    refine p_getR X fl_X7_11 rfl (by decide) (dcg dc_X7_fillText 11 rfl) hk1 ?_
    refine p_iload X (dcg dc_X7_fillText 12 rfl) rfl ?_
    obtain ⟨a8, e9, hf⟩ := gs_some hf
    first | subst e9 | (try rw [e9])
    obtain ⟨⟨hk11, hb10⟩, hf⟩ := gd_some hf
    refine p_iald X (dcg dc_X7_fillText 13 rfl) hk11 (vp_of_inb hb10) ?_
    obtain ⟨z12, hz12, hf⟩ := bd_some hf
    refine p_callS (As := [_]) X ml_X7_33 (dcg dc_X7_fillText 14 rfl) rfl rfl  (wX7_letterAtByte hG hz12) (by decide) (room4 (Nat.le_of_ble_eq_true rfl)) (Nat.le_refl _) (Nat.le_refl _) ?_
    rintro _ u9 ⟨rfl, e9⟩; have e9 := e9.symm; subst e9
    refine p_istore X (dcg dc_X7_fillText 15 rfl) (by decide) rfl ?_
    refine p_iload X (dcg dc_X7_fillText 16 rfl) rfl ?_
    refine p_if_ne (tgt := 49) X (dcg dc_X7_fillText 17 rfl) (by decide) (fun q => ?_) (fun q => ?_)
    · have hf := if_t q hf
      refine p_iinc (v := 1) X (dcg dc_X7_fillText 28 rfl) rfl (by decide) (by decide) (nwq (k := 1) rfl) ?_
      refine p_iload_n X (dcg dc_X7_fillText 29 rfl) rfl rfl ?_
      refine p_bipush (v := 27) X (dcg dc_X7_fillText 30 rfl) (by decide) ?_
      refine p_imul X (dcg dc_X7_fillText 31 rfl) ?_
      refine p_iload X (dcg dc_X7_fillText 32 rfl) rfl ?_
      refine p_iadd X (dcg dc_X7_fillText 33 rfl) ?_
      refine p_istore_n X (dcg dc_X7_fillText 34 rfl) rfl (by decide) rfl ?_
      refine p_iload_n X (dcg dc_X7_fillText 35 rfl) rfl rfl ?_
      refine p_bipush (v := 6) X (dcg dc_X7_fillText 36 rfl) (by decide) ?_
      refine p_icmp_gt (tgt := 75) X (dcg dc_X7_fillText 37 rfl) (by decide) (fun q => ?_) (fun q => ?_)
      · have hf := if_t q hf
        obtain ⟨y13, hf, hy14⟩ := mr_some hf
        have hy14f := kf y13 hy14
        subst hy14f
        refine p_pick [2, 4] ?_
        exact wX7_fillText_b75 X hG hnm hf 
      · have hf := if_f q hf
        refine p_aloadq_n X (dcg dc_X7_fillText 38 rfl) rfl rfl ?_
        obtain ⟨a15, e16, hf⟩ := gs_some hf
        first | subst e16 | (try rw [e16])
        obtain ⟨hk17, hf⟩ := gd_some hf
        obtain ⟨z18, hz18, hf⟩ := bd_some hf
        refine p_callV (As := []) X ml_X7_42 (dcg dc_X7_fillText 39 rfl) rfl rfl hk17 (wX8_size hG hz18) (by decide) (room4 (Nat.le_of_ble_eq_true rfl)) (Nat.le_refl _) (Nat.le_refl _) ?_
        rintro _ u9 ⟨rfl, e9⟩; have e9 := e9.symm; subst e9
        refine p_bipush (v := 40) X (dcg dc_X7_fillText 40 rfl) (by decide) ?_
        refine p_icmp_ne (tgt := 82) X (dcg dc_X7_fillText 41 rfl) (by decide) (fun q => ?_) (fun q => ?_)
        · have hf := if_t q hf
          refine p_pick [0, 1, 2, 3, 4] ?_
          exact wX7_fillText_b82 X hG hnm hf k0 kf
        · have hf := if_f q hf
          obtain ⟨y19, hf, hy20⟩ := mr_some hf
          have hy20f := kf y19 hy20
          subst hy20f
          refine p_pick [2, 4] ?_
          exact wX7_fillText_b75 X hG hnm hf 
    · have hf := if_f q hf
      refine p_iload_n X (dcg dc_X7_fillText 18 rfl) rfl rfl ?_
      refine p_if_le (tgt := 42) X (dcg dc_X7_fillText 19 rfl) (by decide) (fun q => ?_) (fun q => ?_)
      · have hf := if_t q hf
        refine p_pick [0, 1, 4] ?_
        exact wX7_fillText_b42 X hG hnm hf k0 kf
      · have hf := if_f q hf
        refine p_aloadq_n X (dcg dc_X7_fillText 20 rfl) rfl rfl ?_
        refine p_iload_n X (dcg dc_X7_fillText 21 rfl) rfl rfl ?_
        obtain ⟨a21, e22, hf⟩ := gs_some hf
        first | subst e22 | (try rw [e22])
        obtain ⟨hk23, hf⟩ := gd_some hf
        obtain ⟨z24, hz24, hf⟩ := bd_some hf
        refine p_callV (As := [_]) X ml_X7_37 (dcg dc_X7_fillText 22 rfl) rfl rfl hk23 (wX8_add hG hz24) (by decide) (room4 (Nat.le_of_ble_eq_true rfl)) (Nat.le_refl _) (Nat.le_refl _) ?_
        rintro _ u9 ⟨rfl, e9⟩; have e9 := e9.symm; subst e9
        refine p_pick [0, 1, 4] ?_
        exact wX7_fillText_b42 X hG hnm hf k0 kf
noncomputable def fX7_fillText_l7 (v0 : Nat) (v1 : Option Nat) (v2 : Int32) (v3 : Int32) (v4 : Int32) (h : PH) : Option (Int32 × PH) := wh (fun z : (Int32 × Int32 × Int32 × PH) => fX7_fillText_c7 v0 v1 (z.1) (z.2.1) (z.2.2.1) (z.2.2.2)) (v2, v3, v4, h)
set_option maxRecDepth 100000 in
theorem mX7_fillText_l7 {v0 : Nat} {v1 : Option Nat} {v2 : Int32} {v3 : Int32} {v4 : Int32} {h : PH} {r : (Int32 × PH)} (hf : fX7_fillText_l7 v0 v1 v2 v3 v4 h = some r) : eqz h (hX r.2) (hV r.2) := by
  unfold fX7_fillText_l7 at hf
  refine wh_ind (P := fun z => eqz (z.2.2.2) (hX r.2) (hV r.2)) (fun z x0 hs i1 i2 => ?_) _ hf
  obtain ⟨c0, cf⟩ := mX7_fillText_c7 (v0 := v0) (v1 := v1) (v2 := z.1) (v3 := z.2.1) (v4 := z.2.2.1) (h := z.2.2.2) hs
  rcases hxx : x0 with zz | zz
  · exact eqz_tr (c0 zz hxx) (i1 zz hxx)
  · have ee := i2 zz hxx; subst ee; exact cf zz hxx
set_option maxRecDepth 100000 in
theorem wX7_fillText_l7 {E : PE} {p : Program} {l : Launch} {e : Env} {s : State} {m : MethodId} {args : Array Value} {below : List Frame} {meth : Method} {c : Code} (X : Cx E p l e (rmv 1 0 0) s m args below meth c RX7 cX7_fillText 6 (some .int)) (hG : Gs E l) (hnm : meth.name = yX7_fillText.name) {v0 : Nat} {v1 : Option Nat} {v2 : Int32} {v3 : Int32} {v4 : Int32} {h : PH} {r : (Int32 × PH)} (hf : fX7_fillText_l7 v0 v1 v2 v3 v4 h = some r)  : PW E p l e (rmv 1 0 0) s m args below meth c 6 0 0 (MQ below (QG E (fun v u => v = some (.int r.1) ∧ u = r.2)) args s 0 0 (pA E)) h 7 [(0, some (.ref v0)), (1, some (va_rf v1)), (2, some (.int v2)), (3, some (.int v3)), (4, some (.int v4))] [] := by
  unfold fX7_fillText_l7 at hf
  refine wh_ind (P := fun z => PW E p l e (rmv 1 0 0) s m args below meth c 6 0 0 (MQ below (QG E (fun v u => v = some (.int r.1) ∧ u = r.2)) args s 0 0 (pA E)) (z.2.2.2) 7 [(0, some (.ref v0)), (1, some (va_rf v1)), (2, some (.int (z.1))), (3, some (.int (z.2.1))), (4, some (.int (z.2.2.1)))] []) (fun z x0 hs i1 i2 => ?_) _ hf
  exact wX7_fillText_c7 (r := r) (v0 := v0) (v1 := v1) (v2 := z.1) (v3 := z.2.1) (v4 := z.2.2.1) (h := z.2.2.2) X hG hnm hs i1  i2
noncomputable def fX7_fillText (v0 : Nat) (v1 : Option Nat) (h : PH) : Option (Int32 × PH) :=
  fX7_fillText_l7 v0 v1 (0 : Int32) (0 : Int32) (0 : Int32) h
set_option maxRecDepth 100000 in
theorem mX7_fillText {v0 : Nat} {v1 : Option Nat} {h : PH} {r : (Int32 × PH)} (hf : fX7_fillText v0 v1 h = some r) : eqz h (hX r.2) (hV r.2) := by
  unfold fX7_fillText at hf
  have hle := eqz_rf h
  exact eqz_rt (mX7_fillText_l7 hf) hle
set_option maxRecDepth 100000 in
theorem wX7_fillText {E : PE} {l : Launch} (hG : Gs E l) {v0 : Nat} {v1 : Option Nat} {h : PH} {r : (Int32 × PH)} (hf : fX7_fillText v0 v1 h = some r) : Ct E l 1 0 0 yX7_fillText cX7_fillText 6 (some .int) [.ref v0, va_rf v1] h (fun v u => v = some (.int r.1) ∧ u = r.2) := by
  refine ct_of hG (by decide) (by simp [lg_sl, cat_rf, cat_r, cat_i, cat_l, cat_d, cat_f]) ?_
  intro p e s m args below meth c X hnm
  rw [show pargs 0 [.ref v0, va_rf v1] = [(0, some (.ref v0)), (1, some (va_rf v1))] from by simp [pargs, cat_rf, cat_r, cat_i, cat_l, cat_d, cat_f]]
  unfold fX7_fillText at hf
  refine p_iconst (v := 0) X (dcg dc_X7_fillText 0 rfl) (by decide) ?_
  refine p_istore_n X (dcg dc_X7_fillText 1 rfl) rfl (by decide) (nwq (k := 1) rfl) ?_
  refine p_iconst (v := 0) X (dcg dc_X7_fillText 2 rfl) (by decide) ?_
  refine p_istore_n X (dcg dc_X7_fillText 3 rfl) rfl (by decide) rfl ?_
  refine p_iconst (v := 0) X (dcg dc_X7_fillText 4 rfl) (by decide) ?_
  refine p_istore X (dcg dc_X7_fillText 5 rfl) (by decide) rfl ?_
  refine p_pick [0, 1, 2, 3, 4] ?_
  exact wX7_fillText_l7 X hG hnm hf 
