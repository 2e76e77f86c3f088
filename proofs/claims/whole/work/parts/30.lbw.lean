/-! the law's wrappers (by program: wip/whole/mklaw.py) -/
theorem dc_L_append : decs cL_append [(0, .aload 6, 2), (2, .iconst 0, 1), (3, .aload_n 0, 1), (4, .iload_n 1, 1), (5, .iload_n 2, 1), (6, .iload_n 3, 1), (7, .iload 4, 2), (9, .iload 5, 2), (11, .invokevirtual 7, 3), (14, .i2l, 1), (15, .lastore, 1), (16, .goto 7, 3), (19, .astore 7, 2), (21, .iconst 1, 1), (22, .ireturn, 1), (23, .iconst 0, 1), (24, .ireturn, 1)] = true := by decide +kernel
set_option maxRecDepth 100000 in
theorem wL_append {E : PE} {l : Launch} (hG : Gs E l) (hgn : Gn E) {v0 : Nat} {v1 : Int32} {v2 : Int32} {v3 : Int32} {v4 : Int32} {v5 : Int32} {vo : Nat} {h : PH} {r : ((Int32 × PH) ⊕ (Nat × PH))} (hf : fX11_append v0 v1 v2 v3 v4 v5 h = some r) (hk : hK h v0 = 11) (hko : ∀ z, r = .inl z → hK z.2 vo = 23 ∧ 0 < hN z.2 vo) (hcd : ∀ z, r = .inr z → z.1 = 0) : CtH E l 9 (xT2 r - hX h) (vT2 r - hV h) yL_append cL_append 8 (some .int) [(0, 16, 19, 13)] [.ref v0, .int v1, .int v2, .int v3, .int v4, .int v5, .ref vo] h (fun v u => (∃ z : Int32 × PH, r = .inl z ∧ v = some (.int 0) ∧ u = sL z.2 23 vo (Int32.toNatClampNeg 0) (Int32.toInt64 z.1)) ∨ (∃ (z : Nat × PH) (n : Nat), r = .inr z ∧ hX z.2 ≤ n ∧ u = hbump z.2 n ∧ ((z.1 = 0 ∧ v = some (.int 1))))) := by
  refine cth_of hG (by decide) (Nat.le_of_ble_eq_true rfl) ?_
  intro p e s m args below meth c X hex
  show PW E p l e _ s m args below meth c _ 0 0 _ h 0 [(0, some (.ref v0)), (1, some (.int v1)), (2, some (.int v2)), (3, some (.int v3)), (4, some (.int v4)), (5, some (.int v5)), (6, some (.ref vo))] []
  refine p_aload X (dcg dc_L_append 0 rfl) rfl ?_
  refine p_iconst (v := 0) X (dcg dc_L_append 1 rfl) (by decide) ?_
  refine p_aload_n X (dcg dc_L_append 2 rfl) rfl rfl ?_
  refine p_iload_n X (dcg dc_L_append 3 rfl) rfl rfl ?_
  refine p_iload_n X (dcg dc_L_append 4 rfl) rfl rfl ?_
  refine p_iload_n X (dcg dc_L_append 5 rfl) rfl rfl ?_
  refine p_iload X (dcg dc_L_append 6 rfl) rfl ?_
  refine p_iload X (dcg dc_L_append 7 rfl) rfl ?_
  refine p_callVC (As := [_, _, _, _, _]) X ml_L_7 (dcg dc_L_append 8 rfl) rfl rfl hk (wX11_append hG hf) (by decide) (room4 (Nat.le_of_ble_eq_true rfl)) (Nat.le_of_eq (Nat.zero_add _)) (Nat.le_of_eq (Nat.zero_add _)) ?_ ?_
  · rintro En u ⟨z, n, hz, rfl, hn, rfl⟩ H1 locs1 ls q ce rl hS hl c1 c2 c3
    have hc := hcd z hz
    rw [hc] at c3
    refine p_catch (k := 0) (f := 0) (t := 16) (hp := 19) (ct := 13) (v := 2) (i := 7) (pre := []) (pk := []) X hgn hex rfl (by decide) rfl  (fun _ h9 => absurd h9 List.not_mem_nil) (by decide) (by decide) (by decide) tw_1113 cst_0 (Or.inr ⟨rfl, (dcg dc_L_append 12 rfl)⟩) (by decide) rl hS hl c1 c2 c3 ?_
    refine p_iconst (v := 1) X (dcg dc_L_append 13 rfl) (by decide) ?_
    exact p_iret X rfl (dcg dc_L_append 14 rfl) (Or.inr ⟨z, n, hz, hn, rfl, ⟨hc, rfl⟩⟩) (Nat.le_of_eq (Nat.zero_add _)) (Nat.le_of_eq (Nat.zero_add _))
  · rintro _ _ ⟨z, hz, rfl, rfl⟩
    refine p_i2l X (dcg dc_L_append 9 rfl) ?_
    refine p_last X (dcg dc_L_append 10 rfl) (hko z hz).1 (vp_of_inb ⟨by decide, (hko z hz).2⟩) ?_
    refine p_goto (tgt := 23) X (dcg dc_L_append 11 rfl) (by decide) ?_
    refine p_iconst (v := 0) X (dcg dc_L_append 15 rfl) (by decide) ?_
    exact p_iret X rfl (dcg dc_L_append 16 rfl) (Or.inl ⟨z, hz, rfl, rfl⟩) (Nat.le_of_eq (Nat.zero_add _)) (Nat.le_of_eq (Nat.zero_add _))
theorem dc_L_addText : decs cL_addText [(0, .aload_n 1, 1), (1, .iconst 0, 1), (2, .aload_n 0, 1), (3, .invokevirtual 15, 3), (6, .i2l, 1), (7, .lastore, 1), (8, .goto 9, 3), (11, .astore_n 2, 1), (12, .iconst 1, 1), (13, .ireturn, 1), (14, .astore_n 2, 1), (15, .iconst 2, 1), (16, .ireturn, 1), (17, .iconst 0, 1), (18, .ireturn, 1)] = true := by decide +kernel
set_option maxRecDepth 100000 in
theorem wL_addText {E : PE} {l : Launch} (hG : Gs E l) (hgn : Gn E) {v0 : Nat} {vo : Nat} {h : PH} {r : ((Int32 × PH) ⊕ (Nat × PH))} (hf : fX11_addText v0 h = some r) (hk : hK h v0 = 11) (hko : ∀ z, r = .inl z → hK z.2 vo = 23 ∧ 0 < hN z.2 vo) (hcd : ∀ z, r = .inr z → z.1 = 0 ∨ z.1 = 1) : CtH E l 52 (xT2 r - hX h) (vT2 r - hV h) yL_addText cL_addText 3 (some .int) [(0, 8, 11, 13), (0, 8, 14, 19)] [.ref v0, .ref vo] h (fun v u => (∃ z : Int32 × PH, r = .inl z ∧ v = some (.int 0) ∧ u = sL z.2 23 vo (Int32.toNatClampNeg 0) (Int32.toInt64 z.1)) ∨ (∃ (z : Nat × PH) (n : Nat), r = .inr z ∧ hX z.2 ≤ n ∧ u = hbump z.2 n ∧ ((z.1 = 0 ∧ v = some (.int 1)) ∨ (z.1 = 1 ∧ v = some (.int 2))))) := by
  refine cth_of hG (by decide) (Nat.le_of_ble_eq_true rfl) ?_
  intro p e s m args below meth c X hex
  show PW E p l e _ s m args below meth c _ 0 0 _ h 0 [(0, some (.ref v0)), (1, some (.ref vo))] []
  refine p_aload_n X (dcg dc_L_addText 0 rfl) rfl rfl ?_
  refine p_iconst (v := 0) X (dcg dc_L_addText 1 rfl) (by decide) ?_
  refine p_aload_n X (dcg dc_L_addText 2 rfl) rfl rfl ?_
  refine p_callVC (As := []) X ml_L_15 (dcg dc_L_addText 3 rfl) rfl rfl hk (wX11_addText hG hf) (by decide) (room4 (Nat.le_of_ble_eq_true rfl)) (Nat.le_of_eq (Nat.zero_add _)) (Nat.le_of_eq (Nat.zero_add _)) ?_ ?_
  · rintro En u ⟨z, n, hz, rfl, hn, rfl⟩ H1 locs1 ls q ce rl hS hl c1 c2 c3
    rcases hcd z hz with hc | hc
    · rw [hc] at c3
      refine p_catch (k := 0) (f := 0) (t := 8) (hp := 11) (ct := 13) (v := 1) (i := 2) (pre := []) (pk := []) X hgn hex rfl (by decide) rfl  (fun _ h9 => absurd h9 List.not_mem_nil) (by decide) (by decide) (by decide) tw_1113 cst_0 (Or.inl ⟨2, rfl, rfl, (dcg dc_L_addText 7 rfl)⟩) (by decide) rl hS hl c1 c2 c3 ?_
      refine p_iconst (v := 1) X (dcg dc_L_addText 8 rfl) (by decide) ?_
      exact p_iret X rfl (dcg dc_L_addText 9 rfl) (Or.inr ⟨z, n, hz, hn, rfl, Or.inl ⟨hc, rfl⟩⟩) (Nat.le_of_eq (Nat.zero_add _)) (Nat.le_of_eq (Nat.zero_add _))
    · rw [hc] at c3
      refine p_catch (k := 1) (f := 0) (t := 8) (hp := 14) (ct := 19) (v := 1) (i := 2) (pre := [(0, 8, 11, 13)]) (pk := [0]) X hgn hex rfl (by decide) rfl (List.forall_mem_cons.mpr ⟨⟨by decide, by decide, by decide, tw_1113⟩, (fun _ h9 => absurd h9 List.not_mem_nil)⟩) (by decide) (by decide) (by decide) tw_1149 cst_1 (Or.inl ⟨2, rfl, rfl, (dcg dc_L_addText 10 rfl)⟩) (by decide) rl hS hl c1 c2 c3 ?_
      refine p_iconst (v := 2) X (dcg dc_L_addText 11 rfl) (by decide) ?_
      exact p_iret X rfl (dcg dc_L_addText 12 rfl) (Or.inr ⟨z, n, hz, hn, rfl, Or.inr (⟨hc, rfl⟩)⟩) (Nat.le_of_eq (Nat.zero_add _)) (Nat.le_of_eq (Nat.zero_add _))
  · rintro _ _ ⟨z, hz, rfl, rfl⟩
    refine p_i2l X (dcg dc_L_addText 4 rfl) ?_
    refine p_last X (dcg dc_L_addText 5 rfl) (hko z hz).1 (vp_of_inb ⟨by decide, (hko z hz).2⟩) ?_
    refine p_goto (tgt := 17) X (dcg dc_L_addText 6 rfl) (by decide) ?_
    refine p_iconst (v := 0) X (dcg dc_L_addText 13 rfl) (by decide) ?_
    exact p_iret X rfl (dcg dc_L_addText 14 rfl) (Or.inl ⟨z, hz, rfl, rfl⟩) (Nat.le_of_eq (Nat.zero_add _)) (Nat.le_of_eq (Nat.zero_add _))
theorem dc_L_replaceText : decs cL_replaceText [(0, .aload_n 2, 1), (1, .iconst 0, 1), (2, .aload_n 0, 1), (3, .iload_n 1, 1), (4, .invokevirtual 21, 3), (7, .i2l, 1), (8, .lastore, 1), (9, .goto 9, 3), (12, .astore_n 3, 1), (13, .iconst 1, 1), (14, .ireturn, 1), (15, .astore_n 3, 1), (16, .iconst 2, 1), (17, .ireturn, 1), (18, .iconst 0, 1), (19, .ireturn, 1)] = true := by decide +kernel
set_option maxRecDepth 100000 in
theorem wL_replaceText {E : PE} {l : Launch} (hG : Gs E l) (hgn : Gn E) {v0 : Nat} {v1 : Int32} {vo : Nat} {h : PH} {r : ((Int32 × PH) ⊕ (Nat × PH))} (hf : fX11_replaceText v0 v1 h = some r) (hk : hK h v0 = 11) (hko : ∀ z, r = .inl z → hK z.2 vo = 23 ∧ 0 < hN z.2 vo) (hcd : ∀ z, r = .inr z → z.1 = 2 ∨ z.1 = 1) : CtH E l 52 (xT2 r - hX h) (vT2 r - hV h) yL_replaceText cL_replaceText 4 (some .int) [(0, 9, 12, 25), (0, 9, 15, 19)] [.ref v0, .int v1, .ref vo] h (fun v u => (∃ z : Int32 × PH, r = .inl z ∧ v = some (.int 0) ∧ u = sL z.2 23 vo (Int32.toNatClampNeg 0) (Int32.toInt64 z.1)) ∨ (∃ (z : Nat × PH) (n : Nat), r = .inr z ∧ hX z.2 ≤ n ∧ u = hbump z.2 n ∧ ((z.1 = 2 ∧ v = some (.int 1)) ∨ (z.1 = 1 ∧ v = some (.int 2))))) := by
  refine cth_of hG (by decide) (Nat.le_of_ble_eq_true rfl) ?_
  intro p e s m args below meth c X hex
  show PW E p l e _ s m args below meth c _ 0 0 _ h 0 [(0, some (.ref v0)), (1, some (.int v1)), (2, some (.ref vo))] []
  refine p_aload_n X (dcg dc_L_replaceText 0 rfl) rfl rfl ?_
  refine p_iconst (v := 0) X (dcg dc_L_replaceText 1 rfl) (by decide) ?_
  refine p_aload_n X (dcg dc_L_replaceText 2 rfl) rfl rfl ?_
  refine p_iload_n X (dcg dc_L_replaceText 3 rfl) rfl rfl ?_
  refine p_callVC (As := [_]) X ml_L_21 (dcg dc_L_replaceText 4 rfl) rfl rfl hk (wX11_replaceText hG hf) (by decide) (room4 (Nat.le_of_ble_eq_true rfl)) (Nat.le_of_eq (Nat.zero_add _)) (Nat.le_of_eq (Nat.zero_add _)) ?_ ?_
  · rintro En u ⟨z, n, hz, rfl, hn, rfl⟩ H1 locs1 ls q ce rl hS hl c1 c2 c3
    rcases hcd z hz with hc | hc
    · rw [hc] at c3
      refine p_catch (k := 2) (f := 0) (t := 9) (hp := 12) (ct := 25) (v := 1) (i := 3) (pre := []) (pk := []) X hgn hex rfl (by decide) rfl  (fun _ h9 => absurd h9 List.not_mem_nil) (by decide) (by decide) (by decide) tw_1196 cst_2 (Or.inl ⟨3, rfl, rfl, (dcg dc_L_replaceText 8 rfl)⟩) (by decide) rl hS hl c1 c2 c3 ?_
      refine p_iconst (v := 1) X (dcg dc_L_replaceText 9 rfl) (by decide) ?_
      exact p_iret X rfl (dcg dc_L_replaceText 10 rfl) (Or.inr ⟨z, n, hz, hn, rfl, Or.inl ⟨hc, rfl⟩⟩) (Nat.le_of_eq (Nat.zero_add _)) (Nat.le_of_eq (Nat.zero_add _))
    · rw [hc] at c3
      refine p_catch (k := 1) (f := 0) (t := 9) (hp := 15) (ct := 19) (v := 1) (i := 3) (pre := [(0, 9, 12, 25)]) (pk := [2]) X hgn hex rfl (by decide) rfl (List.forall_mem_cons.mpr ⟨⟨by decide, by decide, by decide, tw_1196⟩, (fun _ h9 => absurd h9 List.not_mem_nil)⟩) (by decide) (by decide) (by decide) tw_1149 cst_1 (Or.inl ⟨3, rfl, rfl, (dcg dc_L_replaceText 11 rfl)⟩) (by decide) rl hS hl c1 c2 c3 ?_
      refine p_iconst (v := 2) X (dcg dc_L_replaceText 12 rfl) (by decide) ?_
      exact p_iret X rfl (dcg dc_L_replaceText 13 rfl) (Or.inr ⟨z, n, hz, hn, rfl, Or.inr (⟨hc, rfl⟩)⟩) (Nat.le_of_eq (Nat.zero_add _)) (Nat.le_of_eq (Nat.zero_add _))
  · rintro _ _ ⟨z, hz, rfl, rfl⟩
    refine p_i2l X (dcg dc_L_replaceText 5 rfl) ?_
    refine p_last X (dcg dc_L_replaceText 6 rfl) (hko z hz).1 (vp_of_inb ⟨by decide, (hko z hz).2⟩) ?_
    refine p_goto (tgt := 18) X (dcg dc_L_replaceText 7 rfl) (by decide) ?_
    refine p_iconst (v := 0) X (dcg dc_L_replaceText 14 rfl) (by decide) ?_
    exact p_iret X rfl (dcg dc_L_replaceText 15 rfl) (Or.inl ⟨z, hz, rfl, rfl⟩) (Nat.le_of_eq (Nat.zero_add _)) (Nat.le_of_eq (Nat.zero_add _))
theorem dc_L_removeText : decs cL_removeText [(0, .aload_n 2, 1), (1, .iconst 0, 1), (2, .aload_n 0, 1), (3, .iload_n 1, 1), (4, .invokevirtual 27, 3), (7, .i2l, 1), (8, .lastore, 1), (9, .goto 6, 3), (12, .astore_n 3, 1), (13, .iconst 1, 1), (14, .ireturn, 1), (15, .iconst 0, 1), (16, .ireturn, 1)] = true := by decide +kernel
set_option maxRecDepth 100000 in
theorem wL_removeText {E : PE} {l : Launch} (hG : Gs E l) (hgn : Gn E) {v0 : Nat} {v1 : Int32} {vo : Nat} {h : PH} {r : ((Int32 × PH) ⊕ (Nat × PH))} (hf : fX11_removeText v0 v1 h = some r) (hk : hK h v0 = 11) (hko : ∀ z, r = .inl z → hK z.2 vo = 23 ∧ 0 < hN z.2 vo) (hcd : ∀ z, r = .inr z → z.1 = 2) : CtH E l 52 (xT2 r - hX h) (vT2 r - hV h) yL_removeText cL_removeText 4 (some .int) [(0, 9, 12, 25)] [.ref v0, .int v1, .ref vo] h (fun v u => (∃ z : Int32 × PH, r = .inl z ∧ v = some (.int 0) ∧ u = sL z.2 23 vo (Int32.toNatClampNeg 0) (Int32.toInt64 z.1)) ∨ (∃ (z : Nat × PH) (n : Nat), r = .inr z ∧ hX z.2 ≤ n ∧ u = hbump z.2 n ∧ ((z.1 = 2 ∧ v = some (.int 1))))) := by
  refine cth_of hG (by decide) (Nat.le_of_ble_eq_true rfl) ?_
  intro p e s m args below meth c X hex
  show PW E p l e _ s m args below meth c _ 0 0 _ h 0 [(0, some (.ref v0)), (1, some (.int v1)), (2, some (.ref vo))] []
  refine p_aload_n X (dcg dc_L_removeText 0 rfl) rfl rfl ?_
  refine p_iconst (v := 0) X (dcg dc_L_removeText 1 rfl) (by decide) ?_
  refine p_aload_n X (dcg dc_L_removeText 2 rfl) rfl rfl ?_
  refine p_iload_n X (dcg dc_L_removeText 3 rfl) rfl rfl ?_
  refine p_callVC (As := [_]) X ml_L_27 (dcg dc_L_removeText 4 rfl) rfl rfl hk (wX11_removeText hG hf) (by decide) (room4 (Nat.le_of_ble_eq_true rfl)) (Nat.le_of_eq (Nat.zero_add _)) (Nat.le_of_eq (Nat.zero_add _)) ?_ ?_
  · rintro En u ⟨z, n, hz, rfl, hn, rfl⟩ H1 locs1 ls q ce rl hS hl c1 c2 c3
    have hc := hcd z hz
    rw [hc] at c3
    refine p_catch (k := 2) (f := 0) (t := 9) (hp := 12) (ct := 25) (v := 1) (i := 3) (pre := []) (pk := []) X hgn hex rfl (by decide) rfl  (fun _ h9 => absurd h9 List.not_mem_nil) (by decide) (by decide) (by decide) tw_1196 cst_2 (Or.inl ⟨3, rfl, rfl, (dcg dc_L_removeText 8 rfl)⟩) (by decide) rl hS hl c1 c2 c3 ?_
    refine p_iconst (v := 1) X (dcg dc_L_removeText 9 rfl) (by decide) ?_
    exact p_iret X rfl (dcg dc_L_removeText 10 rfl) (Or.inr ⟨z, n, hz, hn, rfl, ⟨hc, rfl⟩⟩) (Nat.le_of_eq (Nat.zero_add _)) (Nat.le_of_eq (Nat.zero_add _))
  · rintro _ _ ⟨z, hz, rfl, rfl⟩
    refine p_i2l X (dcg dc_L_removeText 5 rfl) ?_
    refine p_last X (dcg dc_L_removeText 6 rfl) (hko z hz).1 (vp_of_inb ⟨by decide, (hko z hz).2⟩) ?_
    refine p_goto (tgt := 15) X (dcg dc_L_removeText 7 rfl) (by decide) ?_
    refine p_iconst (v := 0) X (dcg dc_L_removeText 11 rfl) (by decide) ?_
    exact p_iret X rfl (dcg dc_L_removeText 12 rfl) (Or.inl ⟨z, hz, rfl, rfl⟩) (Nat.le_of_eq (Nat.zero_add _)) (Nat.le_of_eq (Nat.zero_add _))
theorem dc_L_putWord : decs cL_putWord [(0, .aload 4, 2), (2, .iconst 0, 1), (3, .aload_n 0, 1), (4, .iload_n 1, 1), (5, .iload_n 2, 1), (6, .iload_n 3, 1), (7, .invokevirtual 30, 3), (10, .i2l, 1), (11, .lastore, 1), (12, .goto 15, 3), (15, .astore 5, 2), (17, .iconst 1, 1), (18, .ireturn, 1), (19, .astore 5, 2), (21, .iconst 2, 1), (22, .ireturn, 1), (23, .astore 5, 2), (25, .iconst 3, 1), (26, .ireturn, 1), (27, .iconst 0, 1), (28, .ireturn, 1)] = true := by decide +kernel
set_option maxRecDepth 100000 in
theorem wL_putWord {E : PE} {l : Launch} (hG : Gs E l) (hgn : Gn E) {v0 : Nat} {v1 : Int32} {v2 : Int32} {v3 : Int32} {vo : Nat} {h : PH} {r : ((Int32 × PH) ⊕ (Nat × PH))} (hf : fX11_putWord v0 v1 v2 v3 h = some r) (hk : hK h v0 = 11) (hko : ∀ z, r = .inl z → hK z.2 vo = 23 ∧ 0 < hN z.2 vo) (hcd : ∀ z, r = .inr z → z.1 = 2 ∨ z.1 = 1 ∨ z.1 = 0) : CtH E l 52 (xT2 r - hX h) (vT2 r - hV h) yL_putWord cL_putWord 6 (some .int) [(0, 12, 15, 25), (0, 12, 19, 19), (0, 12, 23, 13)] [.ref v0, .int v1, .int v2, .int v3, .ref vo] h (fun v u => (∃ z : Int32 × PH, r = .inl z ∧ v = some (.int 0) ∧ u = sL z.2 23 vo (Int32.toNatClampNeg 0) (Int32.toInt64 z.1)) ∨ (∃ (z : Nat × PH) (n : Nat), r = .inr z ∧ hX z.2 ≤ n ∧ u = hbump z.2 n ∧ ((z.1 = 2 ∧ v = some (.int 1)) ∨ (z.1 = 1 ∧ v = some (.int 2)) ∨ (z.1 = 0 ∧ v = some (.int 3))))) := by
  refine cth_of hG (by decide) (Nat.le_of_ble_eq_true rfl) ?_
  intro p e s m args below meth c X hex
  show PW E p l e _ s m args below meth c _ 0 0 _ h 0 [(0, some (.ref v0)), (1, some (.int v1)), (2, some (.int v2)), (3, some (.int v3)), (4, some (.ref vo))] []
  refine p_aload X (dcg dc_L_putWord 0 rfl) rfl ?_
  refine p_iconst (v := 0) X (dcg dc_L_putWord 1 rfl) (by decide) ?_
  refine p_aload_n X (dcg dc_L_putWord 2 rfl) rfl rfl ?_
  refine p_iload_n X (dcg dc_L_putWord 3 rfl) rfl rfl ?_
  refine p_iload_n X (dcg dc_L_putWord 4 rfl) rfl rfl ?_
  refine p_iload_n X (dcg dc_L_putWord 5 rfl) rfl rfl ?_
  refine p_callVC (As := [_, _, _]) X ml_L_30 (dcg dc_L_putWord 6 rfl) rfl rfl hk (wX11_putWord hG hf) (by decide) (room4 (Nat.le_of_ble_eq_true rfl)) (Nat.le_of_eq (Nat.zero_add _)) (Nat.le_of_eq (Nat.zero_add _)) ?_ ?_
  · rintro En u ⟨z, n, hz, rfl, hn, rfl⟩ H1 locs1 ls q ce rl hS hl c1 c2 c3
    rcases hcd z hz with hc | hc | hc
    · rw [hc] at c3
      refine p_catch (k := 2) (f := 0) (t := 12) (hp := 15) (ct := 25) (v := 2) (i := 5) (pre := []) (pk := []) X hgn hex rfl (by decide) rfl  (fun _ h9 => absurd h9 List.not_mem_nil) (by decide) (by decide) (by decide) tw_1196 cst_2 (Or.inr ⟨rfl, (dcg dc_L_putWord 10 rfl)⟩) (by decide) rl hS hl c1 c2 c3 ?_
      refine p_iconst (v := 1) X (dcg dc_L_putWord 11 rfl) (by decide) ?_
      exact p_iret X rfl (dcg dc_L_putWord 12 rfl) (Or.inr ⟨z, n, hz, hn, rfl, Or.inl ⟨hc, rfl⟩⟩) (Nat.le_of_eq (Nat.zero_add _)) (Nat.le_of_eq (Nat.zero_add _))
    · rw [hc] at c3
      refine p_catch (k := 1) (f := 0) (t := 12) (hp := 19) (ct := 19) (v := 2) (i := 5) (pre := [(0, 12, 15, 25)]) (pk := [2]) X hgn hex rfl (by decide) rfl (List.forall_mem_cons.mpr ⟨⟨by decide, by decide, by decide, tw_1196⟩, (fun _ h9 => absurd h9 List.not_mem_nil)⟩) (by decide) (by decide) (by decide) tw_1149 cst_1 (Or.inr ⟨rfl, (dcg dc_L_putWord 13 rfl)⟩) (by decide) rl hS hl c1 c2 c3 ?_
      refine p_iconst (v := 2) X (dcg dc_L_putWord 14 rfl) (by decide) ?_
      exact p_iret X rfl (dcg dc_L_putWord 15 rfl) (Or.inr ⟨z, n, hz, hn, rfl, Or.inr (Or.inl ⟨hc, rfl⟩)⟩) (Nat.le_of_eq (Nat.zero_add _)) (Nat.le_of_eq (Nat.zero_add _))
    · rw [hc] at c3
      refine p_catch (k := 0) (f := 0) (t := 12) (hp := 23) (ct := 13) (v := 2) (i := 5) (pre := [(0, 12, 15, 25), (0, 12, 19, 19)]) (pk := [2, 1]) X hgn hex rfl (by decide) rfl (List.forall_mem_cons.mpr ⟨⟨by decide, by decide, by decide, tw_1196⟩, (List.forall_mem_cons.mpr ⟨⟨by decide, by decide, by decide, tw_1149⟩, (fun _ h9 => absurd h9 List.not_mem_nil)⟩)⟩) (by decide) (by decide) (by decide) tw_1113 cst_0 (Or.inr ⟨rfl, (dcg dc_L_putWord 16 rfl)⟩) (by decide) rl hS hl c1 c2 c3 ?_
      refine p_iconst (v := 3) X (dcg dc_L_putWord 17 rfl) (by decide) ?_
      exact p_iret X rfl (dcg dc_L_putWord 18 rfl) (Or.inr ⟨z, n, hz, hn, rfl, Or.inr (Or.inr (⟨hc, rfl⟩))⟩) (Nat.le_of_eq (Nat.zero_add _)) (Nat.le_of_eq (Nat.zero_add _))
  · rintro _ _ ⟨z, hz, rfl, rfl⟩
    refine p_i2l X (dcg dc_L_putWord 7 rfl) ?_
    refine p_last X (dcg dc_L_putWord 8 rfl) (hko z hz).1 (vp_of_inb ⟨by decide, (hko z hz).2⟩) ?_
    refine p_goto (tgt := 27) X (dcg dc_L_putWord 9 rfl) (by decide) ?_
    refine p_iconst (v := 0) X (dcg dc_L_putWord 19 rfl) (by decide) ?_
    exact p_iret X rfl (dcg dc_L_putWord 20 rfl) (Or.inl ⟨z, hz, rfl, rfl⟩) (Nat.le_of_eq (Nat.zero_add _)) (Nat.le_of_eq (Nat.zero_add _))
theorem dc_L_takeWord : decs cL_takeWord [(0, .aload_n 3, 1), (1, .iconst 0, 1), (2, .aload_n 0, 1), (3, .iload_n 1, 1), (4, .iload_n 2, 1), (5, .invokevirtual 34, 3), (8, .i2l, 1), (9, .lastore, 1), (10, .goto 7, 3), (13, .astore 4, 2), (15, .iconst 1, 1), (16, .ireturn, 1), (17, .iconst 0, 1), (18, .ireturn, 1)] = true := by decide +kernel
set_option maxRecDepth 100000 in
theorem wL_takeWord {E : PE} {l : Launch} (hG : Gs E l) (hgn : Gn E) {v0 : Nat} {v1 : Int32} {v2 : Int32} {vo : Nat} {h : PH} {r : ((Int32 × PH) ⊕ (Nat × PH))} (hf : fX11_takeWord v0 v1 v2 h = some r) (hk : hK h v0 = 11) (hko : ∀ z, r = .inl z → hK z.2 vo = 23 ∧ 0 < hN z.2 vo) (hcd : ∀ z, r = .inr z → z.1 = 2) : CtH E l 52 (xT2 r - hX h) (vT2 r - hV h) yL_takeWord cL_takeWord 5 (some .int) [(0, 10, 13, 25)] [.ref v0, .int v1, .int v2, .ref vo] h (fun v u => (∃ z : Int32 × PH, r = .inl z ∧ v = some (.int 0) ∧ u = sL z.2 23 vo (Int32.toNatClampNeg 0) (Int32.toInt64 z.1)) ∨ (∃ (z : Nat × PH) (n : Nat), r = .inr z ∧ hX z.2 ≤ n ∧ u = hbump z.2 n ∧ ((z.1 = 2 ∧ v = some (.int 1))))) := by
  refine cth_of hG (by decide) (Nat.le_of_ble_eq_true rfl) ?_
  intro p e s m args below meth c X hex
  show PW E p l e _ s m args below meth c _ 0 0 _ h 0 [(0, some (.ref v0)), (1, some (.int v1)), (2, some (.int v2)), (3, some (.ref vo))] []
  refine p_aload_n X (dcg dc_L_takeWord 0 rfl) rfl rfl ?_
  refine p_iconst (v := 0) X (dcg dc_L_takeWord 1 rfl) (by decide) ?_
  refine p_aload_n X (dcg dc_L_takeWord 2 rfl) rfl rfl ?_
  refine p_iload_n X (dcg dc_L_takeWord 3 rfl) rfl rfl ?_
  refine p_iload_n X (dcg dc_L_takeWord 4 rfl) rfl rfl ?_
  refine p_callVC (As := [_, _]) X ml_L_34 (dcg dc_L_takeWord 5 rfl) rfl rfl hk (wX11_takeWord hG hf) (by decide) (room4 (Nat.le_of_ble_eq_true rfl)) (Nat.le_of_eq (Nat.zero_add _)) (Nat.le_of_eq (Nat.zero_add _)) ?_ ?_
  · rintro En u ⟨z, n, hz, rfl, hn, rfl⟩ H1 locs1 ls q ce rl hS hl c1 c2 c3
    have hc := hcd z hz
    rw [hc] at c3
    refine p_catch (k := 2) (f := 0) (t := 10) (hp := 13) (ct := 25) (v := 2) (i := 4) (pre := []) (pk := []) X hgn hex rfl (by decide) rfl  (fun _ h9 => absurd h9 List.not_mem_nil) (by decide) (by decide) (by decide) tw_1196 cst_2 (Or.inr ⟨rfl, (dcg dc_L_takeWord 9 rfl)⟩) (by decide) rl hS hl c1 c2 c3 ?_
    refine p_iconst (v := 1) X (dcg dc_L_takeWord 10 rfl) (by decide) ?_
    exact p_iret X rfl (dcg dc_L_takeWord 11 rfl) (Or.inr ⟨z, n, hz, hn, rfl, ⟨hc, rfl⟩⟩) (Nat.le_of_eq (Nat.zero_add _)) (Nat.le_of_eq (Nat.zero_add _))
  · rintro _ _ ⟨z, hz, rfl, rfl⟩
    refine p_i2l X (dcg dc_L_takeWord 6 rfl) ?_
    refine p_last X (dcg dc_L_takeWord 7 rfl) (hko z hz).1 (vp_of_inb ⟨by decide, (hko z hz).2⟩) ?_
    refine p_goto (tgt := 17) X (dcg dc_L_takeWord 8 rfl) (by decide) ?_
    refine p_iconst (v := 0) X (dcg dc_L_takeWord 12 rfl) (by decide) ?_
    exact p_iret X rfl (dcg dc_L_takeWord 13 rfl) (Or.inl ⟨z, hz, rfl, rfl⟩) (Nat.le_of_eq (Nat.zero_add _)) (Nat.le_of_eq (Nat.zero_add _))
theorem dc_L_setWord : decs cL_setWord [(0, .aload 4, 2), (2, .iconst 0, 1), (3, .aload_n 0, 1), (4, .iload_n 1, 1), (5, .iload_n 2, 1), (6, .iload_n 3, 1), (7, .invokevirtual 38, 3), (10, .i2l, 1), (11, .lastore, 1), (12, .goto 11, 3), (15, .astore 5, 2), (17, .iconst 1, 1), (18, .ireturn, 1), (19, .astore 5, 2), (21, .iconst 2, 1), (22, .ireturn, 1), (23, .iconst 0, 1), (24, .ireturn, 1)] = true := by decide +kernel
set_option maxRecDepth 100000 in
theorem wL_setWord {E : PE} {l : Launch} (hG : Gs E l) (hgn : Gn E) {v0 : Nat} {v1 : Int32} {v2 : Int32} {v3 : Int32} {vo : Nat} {h : PH} {r : ((Int32 × PH) ⊕ (Nat × PH))} (hf : fX11_setWord v0 v1 v2 v3 h = some r) (hk : hK h v0 = 11) (hko : ∀ z, r = .inl z → hK z.2 vo = 23 ∧ 0 < hN z.2 vo) (hcd : ∀ z, r = .inr z → z.1 = 2 ∨ z.1 = 1) : CtH E l 52 (xT2 r - hX h) (vT2 r - hV h) yL_setWord cL_setWord 6 (some .int) [(0, 12, 15, 25), (0, 12, 19, 19)] [.ref v0, .int v1, .int v2, .int v3, .ref vo] h (fun v u => (∃ z : Int32 × PH, r = .inl z ∧ v = some (.int 0) ∧ u = sL z.2 23 vo (Int32.toNatClampNeg 0) (Int32.toInt64 z.1)) ∨ (∃ (z : Nat × PH) (n : Nat), r = .inr z ∧ hX z.2 ≤ n ∧ u = hbump z.2 n ∧ ((z.1 = 2 ∧ v = some (.int 1)) ∨ (z.1 = 1 ∧ v = some (.int 2))))) := by
  refine cth_of hG (by decide) (Nat.le_of_ble_eq_true rfl) ?_
  intro p e s m args below meth c X hex
  show PW E p l e _ s m args below meth c _ 0 0 _ h 0 [(0, some (.ref v0)), (1, some (.int v1)), (2, some (.int v2)), (3, some (.int v3)), (4, some (.ref vo))] []
  refine p_aload X (dcg dc_L_setWord 0 rfl) rfl ?_
  refine p_iconst (v := 0) X (dcg dc_L_setWord 1 rfl) (by decide) ?_
  refine p_aload_n X (dcg dc_L_setWord 2 rfl) rfl rfl ?_
  refine p_iload_n X (dcg dc_L_setWord 3 rfl) rfl rfl ?_
  refine p_iload_n X (dcg dc_L_setWord 4 rfl) rfl rfl ?_
  refine p_iload_n X (dcg dc_L_setWord 5 rfl) rfl rfl ?_
  refine p_callVC (As := [_, _, _]) X ml_L_38 (dcg dc_L_setWord 6 rfl) rfl rfl hk (wX11_setWord hG hf) (by decide) (room4 (Nat.le_of_ble_eq_true rfl)) (Nat.le_of_eq (Nat.zero_add _)) (Nat.le_of_eq (Nat.zero_add _)) ?_ ?_
  · rintro En u ⟨z, n, hz, rfl, hn, rfl⟩ H1 locs1 ls q ce rl hS hl c1 c2 c3
    rcases hcd z hz with hc | hc
    · rw [hc] at c3
      refine p_catch (k := 2) (f := 0) (t := 12) (hp := 15) (ct := 25) (v := 2) (i := 5) (pre := []) (pk := []) X hgn hex rfl (by decide) rfl  (fun _ h9 => absurd h9 List.not_mem_nil) (by decide) (by decide) (by decide) tw_1196 cst_2 (Or.inr ⟨rfl, (dcg dc_L_setWord 10 rfl)⟩) (by decide) rl hS hl c1 c2 c3 ?_
      refine p_iconst (v := 1) X (dcg dc_L_setWord 11 rfl) (by decide) ?_
      exact p_iret X rfl (dcg dc_L_setWord 12 rfl) (Or.inr ⟨z, n, hz, hn, rfl, Or.inl ⟨hc, rfl⟩⟩) (Nat.le_of_eq (Nat.zero_add _)) (Nat.le_of_eq (Nat.zero_add _))
    · rw [hc] at c3
      refine p_catch (k := 1) (f := 0) (t := 12) (hp := 19) (ct := 19) (v := 2) (i := 5) (pre := [(0, 12, 15, 25)]) (pk := [2]) X hgn hex rfl (by decide) rfl (List.forall_mem_cons.mpr ⟨⟨by decide, by decide, by decide, tw_1196⟩, (fun _ h9 => absurd h9 List.not_mem_nil)⟩) (by decide) (by decide) (by decide) tw_1149 cst_1 (Or.inr ⟨rfl, (dcg dc_L_setWord 13 rfl)⟩) (by decide) rl hS hl c1 c2 c3 ?_
      refine p_iconst (v := 2) X (dcg dc_L_setWord 14 rfl) (by decide) ?_
      exact p_iret X rfl (dcg dc_L_setWord 15 rfl) (Or.inr ⟨z, n, hz, hn, rfl, Or.inr (⟨hc, rfl⟩)⟩) (Nat.le_of_eq (Nat.zero_add _)) (Nat.le_of_eq (Nat.zero_add _))
  · rintro _ _ ⟨z, hz, rfl, rfl⟩
    refine p_i2l X (dcg dc_L_setWord 7 rfl) ?_
    refine p_last X (dcg dc_L_setWord 8 rfl) (hko z hz).1 (vp_of_inb ⟨by decide, (hko z hz).2⟩) ?_
    refine p_goto (tgt := 23) X (dcg dc_L_setWord 9 rfl) (by decide) ?_
    refine p_iconst (v := 0) X (dcg dc_L_setWord 16 rfl) (by decide) ?_
    exact p_iret X rfl (dcg dc_L_setWord 17 rfl) (Or.inl ⟨z, hz, rfl, rfl⟩) (Nat.le_of_eq (Nat.zero_add _)) (Nat.le_of_eq (Nat.zero_add _))
theorem dc_L_length : decs cL_length [(0, .aload_n 2, 1), (1, .iconst 0, 1), (2, .aload_n 0, 1), (3, .iload_n 1, 1), (4, .invokevirtual 41, 3), (7, .i2l, 1), (8, .lastore, 1), (9, .goto 6, 3), (12, .astore_n 3, 1), (13, .iconst 1, 1), (14, .ireturn, 1), (15, .iconst 0, 1), (16, .ireturn, 1)] = true := by decide +kernel
set_option maxRecDepth 100000 in
theorem wL_length {E : PE} {l : Launch} (hG : Gs E l) (hgn : Gn E) {v0 : Nat} {v1 : Int32} {vo : Nat} {h : PH} {r : ((Int32 × PH) ⊕ (Nat × PH))} (hf : fX11_length v0 v1 h = some r) (hk : hK h v0 = 11) (hko : ∀ z, r = .inl z → hK z.2 vo = 23 ∧ 0 < hN z.2 vo) (hcd : ∀ z, r = .inr z → z.1 = 2) : CtH E l 10 (xT2 r - hX h) (vT2 r - hV h) yL_length cL_length 4 (some .int) [(0, 9, 12, 25)] [.ref v0, .int v1, .ref vo] h (fun v u => (∃ z : Int32 × PH, r = .inl z ∧ v = some (.int 0) ∧ u = sL z.2 23 vo (Int32.toNatClampNeg 0) (Int32.toInt64 z.1)) ∨ (∃ (z : Nat × PH) (n : Nat), r = .inr z ∧ hX z.2 ≤ n ∧ u = hbump z.2 n ∧ ((z.1 = 2 ∧ v = some (.int 1))))) := by
  refine cth_of hG (by decide) (Nat.le_of_ble_eq_true rfl) ?_
  intro p e s m args below meth c X hex
  show PW E p l e _ s m args below meth c _ 0 0 _ h 0 [(0, some (.ref v0)), (1, some (.int v1)), (2, some (.ref vo))] []
  refine p_aload_n X (dcg dc_L_length 0 rfl) rfl rfl ?_
  refine p_iconst (v := 0) X (dcg dc_L_length 1 rfl) (by decide) ?_
  refine p_aload_n X (dcg dc_L_length 2 rfl) rfl rfl ?_
  refine p_iload_n X (dcg dc_L_length 3 rfl) rfl rfl ?_
  refine p_callVC (As := [_]) X ml_L_41 (dcg dc_L_length 4 rfl) rfl rfl hk (wX11_length hG hf) (by decide) (room4 (Nat.le_of_ble_eq_true rfl)) (Nat.le_of_eq (Nat.zero_add _)) (Nat.le_of_eq (Nat.zero_add _)) ?_ ?_
  · rintro En u ⟨z, n, hz, rfl, hn, rfl⟩ H1 locs1 ls q ce rl hS hl c1 c2 c3
    have hc := hcd z hz
    rw [hc] at c3
    refine p_catch (k := 2) (f := 0) (t := 9) (hp := 12) (ct := 25) (v := 1) (i := 3) (pre := []) (pk := []) X hgn hex rfl (by decide) rfl  (fun _ h9 => absurd h9 List.not_mem_nil) (by decide) (by decide) (by decide) tw_1196 cst_2 (Or.inl ⟨3, rfl, rfl, (dcg dc_L_length 8 rfl)⟩) (by decide) rl hS hl c1 c2 c3 ?_
    refine p_iconst (v := 1) X (dcg dc_L_length 9 rfl) (by decide) ?_
    exact p_iret X rfl (dcg dc_L_length 10 rfl) (Or.inr ⟨z, n, hz, hn, rfl, ⟨hc, rfl⟩⟩) (Nat.le_of_eq (Nat.zero_add _)) (Nat.le_of_eq (Nat.zero_add _))
  · rintro _ _ ⟨z, hz, rfl, rfl⟩
    refine p_i2l X (dcg dc_L_length 5 rfl) ?_
    refine p_last X (dcg dc_L_length 6 rfl) (hko z hz).1 (vp_of_inb ⟨by decide, (hko z hz).2⟩) ?_
    refine p_goto (tgt := 15) X (dcg dc_L_length 7 rfl) (by decide) ?_
    refine p_iconst (v := 0) X (dcg dc_L_length 11 rfl) (by decide) ?_
    exact p_iret X rfl (dcg dc_L_length 12 rfl) (Or.inl ⟨z, hz, rfl, rfl⟩) (Nat.le_of_eq (Nat.zero_add _)) (Nat.le_of_eq (Nat.zero_add _))
theorem dc_L_wordAt : decs cL_wordAt [(0, .aload_n 3, 1), (1, .iconst 0, 1), (2, .aload_n 0, 1), (3, .iload_n 1, 1), (4, .iload_n 2, 1), (5, .invokevirtual 44, 3), (8, .i2l, 1), (9, .lastore, 1), (10, .goto 7, 3), (13, .astore 4, 2), (15, .iconst 1, 1), (16, .ireturn, 1), (17, .iconst 0, 1), (18, .ireturn, 1)] = true := by decide +kernel
set_option maxRecDepth 100000 in
theorem wL_wordAt {E : PE} {l : Launch} (hG : Gs E l) (hgn : Gn E) {v0 : Nat} {v1 : Int32} {v2 : Int32} {vo : Nat} {h : PH} {r : ((Int32 × PH) ⊕ (Nat × PH))} (hf : fX11_wordAt v0 v1 v2 h = some r) (hk : hK h v0 = 11) (hko : ∀ z, r = .inl z → hK z.2 vo = 23 ∧ 0 < hN z.2 vo) (hcd : ∀ z, r = .inr z → z.1 = 2) : CtH E l 10 (xT2 r - hX h) (vT2 r - hV h) yL_wordAt cL_wordAt 5 (some .int) [(0, 10, 13, 25)] [.ref v0, .int v1, .int v2, .ref vo] h (fun v u => (∃ z : Int32 × PH, r = .inl z ∧ v = some (.int 0) ∧ u = sL z.2 23 vo (Int32.toNatClampNeg 0) (Int32.toInt64 z.1)) ∨ (∃ (z : Nat × PH) (n : Nat), r = .inr z ∧ hX z.2 ≤ n ∧ u = hbump z.2 n ∧ ((z.1 = 2 ∧ v = some (.int 1))))) := by
  refine cth_of hG (by decide) (Nat.le_of_ble_eq_true rfl) ?_
  intro p e s m args below meth c X hex
  show PW E p l e _ s m args below meth c _ 0 0 _ h 0 [(0, some (.ref v0)), (1, some (.int v1)), (2, some (.int v2)), (3, some (.ref vo))] []
  refine p_aload_n X (dcg dc_L_wordAt 0 rfl) rfl rfl ?_
  refine p_iconst (v := 0) X (dcg dc_L_wordAt 1 rfl) (by decide) ?_
  refine p_aload_n X (dcg dc_L_wordAt 2 rfl) rfl rfl ?_
  refine p_iload_n X (dcg dc_L_wordAt 3 rfl) rfl rfl ?_
  refine p_iload_n X (dcg dc_L_wordAt 4 rfl) rfl rfl ?_
  refine p_callVC (As := [_, _]) X ml_L_44 (dcg dc_L_wordAt 5 rfl) rfl rfl hk (wX11_wordAt hG hf) (by decide) (room4 (Nat.le_of_ble_eq_true rfl)) (Nat.le_of_eq (Nat.zero_add _)) (Nat.le_of_eq (Nat.zero_add _)) ?_ ?_
  · rintro En u ⟨z, n, hz, rfl, hn, rfl⟩ H1 locs1 ls q ce rl hS hl c1 c2 c3
    have hc := hcd z hz
    rw [hc] at c3
    refine p_catch (k := 2) (f := 0) (t := 10) (hp := 13) (ct := 25) (v := 2) (i := 4) (pre := []) (pk := []) X hgn hex rfl (by decide) rfl  (fun _ h9 => absurd h9 List.not_mem_nil) (by decide) (by decide) (by decide) tw_1196 cst_2 (Or.inr ⟨rfl, (dcg dc_L_wordAt 9 rfl)⟩) (by decide) rl hS hl c1 c2 c3 ?_
    refine p_iconst (v := 1) X (dcg dc_L_wordAt 10 rfl) (by decide) ?_
    exact p_iret X rfl (dcg dc_L_wordAt 11 rfl) (Or.inr ⟨z, n, hz, hn, rfl, ⟨hc, rfl⟩⟩) (Nat.le_of_eq (Nat.zero_add _)) (Nat.le_of_eq (Nat.zero_add _))
  · rintro _ _ ⟨z, hz, rfl, rfl⟩
    refine p_i2l X (dcg dc_L_wordAt 6 rfl) ?_
    refine p_last X (dcg dc_L_wordAt 7 rfl) (hko z hz).1 (vp_of_inb ⟨by decide, (hko z hz).2⟩) ?_
    refine p_goto (tgt := 17) X (dcg dc_L_wordAt 8 rfl) (by decide) ?_
    refine p_iconst (v := 0) X (dcg dc_L_wordAt 12 rfl) (by decide) ?_
    exact p_iret X rfl (dcg dc_L_wordAt 13 rfl) (Or.inl ⟨z, hz, rfl, rfl⟩) (Nat.le_of_eq (Nat.zero_add _)) (Nat.le_of_eq (Nat.zero_add _))
theorem dc_L_letterAt : decs cL_letterAt [(0, .aload 4, 2), (2, .iconst 0, 1), (3, .aload_n 0, 1), (4, .iload_n 1, 1), (5, .iload_n 2, 1), (6, .iload_n 3, 1), (7, .invokevirtual 47, 3), (10, .i2l, 1), (11, .lastore, 1), (12, .goto 7, 3), (15, .astore 5, 2), (17, .iconst 1, 1), (18, .ireturn, 1), (19, .iconst 0, 1), (20, .ireturn, 1)] = true := by decide +kernel
set_option maxRecDepth 100000 in
theorem wL_letterAt {E : PE} {l : Launch} (hG : Gs E l) (hgn : Gn E) {v0 : Nat} {v1 : Int32} {v2 : Int32} {v3 : Int32} {vo : Nat} {h : PH} {r : ((Int32 × PH) ⊕ (Nat × PH))} (hf : fX11_letterAt v0 v1 v2 v3 h = some r) (hk : hK h v0 = 11) (hko : ∀ z, r = .inl z → hK z.2 vo = 23 ∧ 0 < hN z.2 vo) (hcd : ∀ z, r = .inr z → z.1 = 2) : CtH E l 10 (xT2 r - hX h) (vT2 r - hV h) yL_letterAt cL_letterAt 6 (some .int) [(0, 12, 15, 25)] [.ref v0, .int v1, .int v2, .int v3, .ref vo] h (fun v u => (∃ z : Int32 × PH, r = .inl z ∧ v = some (.int 0) ∧ u = sL z.2 23 vo (Int32.toNatClampNeg 0) (Int32.toInt64 z.1)) ∨ (∃ (z : Nat × PH) (n : Nat), r = .inr z ∧ hX z.2 ≤ n ∧ u = hbump z.2 n ∧ ((z.1 = 2 ∧ v = some (.int 1))))) := by
  refine cth_of hG (by decide) (Nat.le_of_ble_eq_true rfl) ?_
  intro p e s m args below meth c X hex
  show PW E p l e _ s m args below meth c _ 0 0 _ h 0 [(0, some (.ref v0)), (1, some (.int v1)), (2, some (.int v2)), (3, some (.int v3)), (4, some (.ref vo))] []
  refine p_aload X (dcg dc_L_letterAt 0 rfl) rfl ?_
  refine p_iconst (v := 0) X (dcg dc_L_letterAt 1 rfl) (by decide) ?_
  refine p_aload_n X (dcg dc_L_letterAt 2 rfl) rfl rfl ?_
  refine p_iload_n X (dcg dc_L_letterAt 3 rfl) rfl rfl ?_
  refine p_iload_n X (dcg dc_L_letterAt 4 rfl) rfl rfl ?_
  refine p_iload_n X (dcg dc_L_letterAt 5 rfl) rfl rfl ?_
  refine p_callVC (As := [_, _, _]) X ml_L_47 (dcg dc_L_letterAt 6 rfl) rfl rfl hk (wX11_letterAt hG hf) (by decide) (room4 (Nat.le_of_ble_eq_true rfl)) (Nat.le_of_eq (Nat.zero_add _)) (Nat.le_of_eq (Nat.zero_add _)) ?_ ?_
  · rintro En u ⟨z, n, hz, rfl, hn, rfl⟩ H1 locs1 ls q ce rl hS hl c1 c2 c3
    have hc := hcd z hz
    rw [hc] at c3
    refine p_catch (k := 2) (f := 0) (t := 12) (hp := 15) (ct := 25) (v := 2) (i := 5) (pre := []) (pk := []) X hgn hex rfl (by decide) rfl  (fun _ h9 => absurd h9 List.not_mem_nil) (by decide) (by decide) (by decide) tw_1196 cst_2 (Or.inr ⟨rfl, (dcg dc_L_letterAt 10 rfl)⟩) (by decide) rl hS hl c1 c2 c3 ?_
    refine p_iconst (v := 1) X (dcg dc_L_letterAt 11 rfl) (by decide) ?_
    exact p_iret X rfl (dcg dc_L_letterAt 12 rfl) (Or.inr ⟨z, n, hz, hn, rfl, ⟨hc, rfl⟩⟩) (Nat.le_of_eq (Nat.zero_add _)) (Nat.le_of_eq (Nat.zero_add _))
  · rintro _ _ ⟨z, hz, rfl, rfl⟩
    refine p_i2l X (dcg dc_L_letterAt 7 rfl) ?_
    refine p_last X (dcg dc_L_letterAt 8 rfl) (hko z hz).1 (vp_of_inb ⟨by decide, (hko z hz).2⟩) ?_
    refine p_goto (tgt := 19) X (dcg dc_L_letterAt 9 rfl) (by decide) ?_
    refine p_iconst (v := 0) X (dcg dc_L_letterAt 13 rfl) (by decide) ?_
    exact p_iret X rfl (dcg dc_L_letterAt 14 rfl) (Or.inl ⟨z, hz, rfl, rfl⟩) (Nat.le_of_eq (Nat.zero_add _)) (Nat.le_of_eq (Nat.zero_add _))
theorem dc_L_indexWord : decs cL_indexWord [(0, .aload_n 2, 1), (1, .iconst 0, 1), (2, .aload_n 0, 1), (3, .iload_n 1, 1), (4, .invokevirtual 51, 3), (7, .i2l, 1), (8, .lastore, 1), (9, .goto 6, 3), (12, .astore_n 3, 1), (13, .iconst 1, 1), (14, .ireturn, 1), (15, .iconst 0, 1), (16, .ireturn, 1)] = true := by decide +kernel
set_option maxRecDepth 100000 in
theorem wL_indexWord {E : PE} {l : Launch} (hG : Gs E l) (hgn : Gn E) {v0 : Nat} {v1 : Int32} {vo : Nat} {h : PH} {r : ((Int32 × PH) ⊕ (Nat × PH))} (hf : fX11_indexWord v0 v1 h = some r) (hk : hK h v0 = 11) (hko : ∀ z, r = .inl z → hK z.2 vo = 23 ∧ 0 < hN z.2 vo) (hcd : ∀ z, r = .inr z → z.1 = 2) : CtH E l 9 (xT2 r - hX h) (vT2 r - hV h) yL_indexWord cL_indexWord 4 (some .int) [(0, 9, 12, 25)] [.ref v0, .int v1, .ref vo] h (fun v u => (∃ z : Int32 × PH, r = .inl z ∧ v = some (.int 0) ∧ u = sL z.2 23 vo (Int32.toNatClampNeg 0) (Int32.toInt64 z.1)) ∨ (∃ (z : Nat × PH) (n : Nat), r = .inr z ∧ hX z.2 ≤ n ∧ u = hbump z.2 n ∧ ((z.1 = 2 ∧ v = some (.int 1))))) := by
  refine cth_of hG (by decide) (Nat.le_of_ble_eq_true rfl) ?_
  intro p e s m args below meth c X hex
  show PW E p l e _ s m args below meth c _ 0 0 _ h 0 [(0, some (.ref v0)), (1, some (.int v1)), (2, some (.ref vo))] []
  refine p_aload_n X (dcg dc_L_indexWord 0 rfl) rfl rfl ?_
  refine p_iconst (v := 0) X (dcg dc_L_indexWord 1 rfl) (by decide) ?_
  refine p_aload_n X (dcg dc_L_indexWord 2 rfl) rfl rfl ?_
  refine p_iload_n X (dcg dc_L_indexWord 3 rfl) rfl rfl ?_
  refine p_callVC (As := [_]) X ml_L_51 (dcg dc_L_indexWord 4 rfl) rfl rfl hk (wX11_indexWord hG hf) (by decide) (room4 (Nat.le_of_ble_eq_true rfl)) (Nat.le_of_eq (Nat.zero_add _)) (Nat.le_of_eq (Nat.zero_add _)) ?_ ?_
  · rintro En u ⟨z, n, hz, rfl, hn, rfl⟩ H1 locs1 ls q ce rl hS hl c1 c2 c3
    have hc := hcd z hz
    rw [hc] at c3
    refine p_catch (k := 2) (f := 0) (t := 9) (hp := 12) (ct := 25) (v := 1) (i := 3) (pre := []) (pk := []) X hgn hex rfl (by decide) rfl  (fun _ h9 => absurd h9 List.not_mem_nil) (by decide) (by decide) (by decide) tw_1196 cst_2 (Or.inl ⟨3, rfl, rfl, (dcg dc_L_indexWord 8 rfl)⟩) (by decide) rl hS hl c1 c2 c3 ?_
    refine p_iconst (v := 1) X (dcg dc_L_indexWord 9 rfl) (by decide) ?_
    exact p_iret X rfl (dcg dc_L_indexWord 10 rfl) (Or.inr ⟨z, n, hz, hn, rfl, ⟨hc, rfl⟩⟩) (Nat.le_of_eq (Nat.zero_add _)) (Nat.le_of_eq (Nat.zero_add _))
  · rintro _ _ ⟨z, hz, rfl, rfl⟩
    refine p_i2l X (dcg dc_L_indexWord 5 rfl) ?_
    refine p_last X (dcg dc_L_indexWord 6 rfl) (hko z hz).1 (vp_of_inb ⟨by decide, (hko z hz).2⟩) ?_
    refine p_goto (tgt := 15) X (dcg dc_L_indexWord 7 rfl) (by decide) ?_
    refine p_iconst (v := 0) X (dcg dc_L_indexWord 11 rfl) (by decide) ?_
    exact p_iret X rfl (dcg dc_L_indexWord 12 rfl) (Or.inl ⟨z, hz, rfl, rfl⟩) (Nat.le_of_eq (Nat.zero_add _)) (Nat.le_of_eq (Nat.zero_add _))
theorem dc_L_firstWord : decs cL_firstWord [(0, .aload_n 1, 1), (1, .iconst 0, 1), (2, .aload_n 0, 1), (3, .invokevirtual 54, 3), (6, .i2l, 1), (7, .lastore, 1), (8, .goto 6, 3), (11, .astore_n 2, 1), (12, .iconst 1, 1), (13, .ireturn, 1), (14, .iconst 0, 1), (15, .ireturn, 1)] = true := by decide +kernel
set_option maxRecDepth 100000 in
theorem wL_firstWord {E : PE} {l : Launch} (hG : Gs E l) (hgn : Gn E) {v0 : Nat} {vo : Nat} {h : PH} {r : ((Int32 × PH) ⊕ (Nat × PH))} (hf : fX11_firstWord v0 h = some r) (hk : hK h v0 = 11) (hko : ∀ z, r = .inl z → hK z.2 vo = 23 ∧ 0 < hN z.2 vo) (hcd : ∀ z, r = .inr z → z.1 = 3) : CtH E l 9 (xT2 r - hX h) (vT2 r - hV h) yL_firstWord cL_firstWord 3 (some .int) [(0, 8, 11, 57)] [.ref v0, .ref vo] h (fun v u => (∃ z : Int32 × PH, r = .inl z ∧ v = some (.int 0) ∧ u = sL z.2 23 vo (Int32.toNatClampNeg 0) (Int32.toInt64 z.1)) ∨ (∃ (z : Nat × PH) (n : Nat), r = .inr z ∧ hX z.2 ≤ n ∧ u = hbump z.2 n ∧ ((z.1 = 3 ∧ v = some (.int 1))))) := by
  refine cth_of hG (by decide) (Nat.le_of_ble_eq_true rfl) ?_
  intro p e s m args below meth c X hex
  show PW E p l e _ s m args below meth c _ 0 0 _ h 0 [(0, some (.ref v0)), (1, some (.ref vo))] []
  refine p_aload_n X (dcg dc_L_firstWord 0 rfl) rfl rfl ?_
  refine p_iconst (v := 0) X (dcg dc_L_firstWord 1 rfl) (by decide) ?_
  refine p_aload_n X (dcg dc_L_firstWord 2 rfl) rfl rfl ?_
  refine p_callVC (As := []) X ml_L_54 (dcg dc_L_firstWord 3 rfl) rfl rfl hk (wX11_firstWord hG hf) (by decide) (room4 (Nat.le_of_ble_eq_true rfl)) (Nat.le_of_eq (Nat.zero_add _)) (Nat.le_of_eq (Nat.zero_add _)) ?_ ?_
  · rintro En u ⟨z, n, hz, rfl, hn, rfl⟩ H1 locs1 ls q ce rl hS hl c1 c2 c3
    have hc := hcd z hz
    rw [hc] at c3
    refine p_catch (k := 3) (f := 0) (t := 8) (hp := 11) (ct := 57) (v := 1) (i := 2) (pre := []) (pk := []) X hgn hex rfl (by decide) rfl  (fun _ h9 => absurd h9 List.not_mem_nil) (by decide) (by decide) (by decide) tw_1302 cst_3 (Or.inl ⟨2, rfl, rfl, (dcg dc_L_firstWord 7 rfl)⟩) (by decide) rl hS hl c1 c2 c3 ?_
    refine p_iconst (v := 1) X (dcg dc_L_firstWord 8 rfl) (by decide) ?_
    exact p_iret X rfl (dcg dc_L_firstWord 9 rfl) (Or.inr ⟨z, n, hz, hn, rfl, ⟨hc, rfl⟩⟩) (Nat.le_of_eq (Nat.zero_add _)) (Nat.le_of_eq (Nat.zero_add _))
  · rintro _ _ ⟨z, hz, rfl, rfl⟩
    refine p_i2l X (dcg dc_L_firstWord 4 rfl) ?_
    refine p_last X (dcg dc_L_firstWord 5 rfl) (hko z hz).1 (vp_of_inb ⟨by decide, (hko z hz).2⟩) ?_
    refine p_goto (tgt := 14) X (dcg dc_L_firstWord 6 rfl) (by decide) ?_
    refine p_iconst (v := 0) X (dcg dc_L_firstWord 10 rfl) (by decide) ?_
    exact p_iret X rfl (dcg dc_L_firstWord 11 rfl) (Or.inl ⟨z, hz, rfl, rfl⟩) (Nat.le_of_eq (Nat.zero_add _)) (Nat.le_of_eq (Nat.zero_add _))
theorem dc_L_lastWord : decs cL_lastWord [(0, .aload_n 1, 1), (1, .iconst 0, 1), (2, .aload_n 0, 1), (3, .invokevirtual 59, 3), (6, .i2l, 1), (7, .lastore, 1), (8, .goto 6, 3), (11, .astore_n 2, 1), (12, .iconst 1, 1), (13, .ireturn, 1), (14, .iconst 0, 1), (15, .ireturn, 1)] = true := by decide +kernel
set_option maxRecDepth 100000 in
theorem wL_lastWord {E : PE} {l : Launch} (hG : Gs E l) (hgn : Gn E) {v0 : Nat} {vo : Nat} {h : PH} {r : ((Int32 × PH) ⊕ (Nat × PH))} (hf : fX11_lastWord v0 h = some r) (hk : hK h v0 = 11) (hko : ∀ z, r = .inl z → hK z.2 vo = 23 ∧ 0 < hN z.2 vo) (hcd : ∀ z, r = .inr z → z.1 = 3) : CtH E l 9 (xT2 r - hX h) (vT2 r - hV h) yL_lastWord cL_lastWord 3 (some .int) [(0, 8, 11, 57)] [.ref v0, .ref vo] h (fun v u => (∃ z : Int32 × PH, r = .inl z ∧ v = some (.int 0) ∧ u = sL z.2 23 vo (Int32.toNatClampNeg 0) (Int32.toInt64 z.1)) ∨ (∃ (z : Nat × PH) (n : Nat), r = .inr z ∧ hX z.2 ≤ n ∧ u = hbump z.2 n ∧ ((z.1 = 3 ∧ v = some (.int 1))))) := by
  refine cth_of hG (by decide) (Nat.le_of_ble_eq_true rfl) ?_
  intro p e s m args below meth c X hex
  show PW E p l e _ s m args below meth c _ 0 0 _ h 0 [(0, some (.ref v0)), (1, some (.ref vo))] []
  refine p_aload_n X (dcg dc_L_lastWord 0 rfl) rfl rfl ?_
  refine p_iconst (v := 0) X (dcg dc_L_lastWord 1 rfl) (by decide) ?_
  refine p_aload_n X (dcg dc_L_lastWord 2 rfl) rfl rfl ?_
  refine p_callVC (As := []) X ml_L_59 (dcg dc_L_lastWord 3 rfl) rfl rfl hk (wX11_lastWord hG hf) (by decide) (room4 (Nat.le_of_ble_eq_true rfl)) (Nat.le_of_eq (Nat.zero_add _)) (Nat.le_of_eq (Nat.zero_add _)) ?_ ?_
  · rintro En u ⟨z, n, hz, rfl, hn, rfl⟩ H1 locs1 ls q ce rl hS hl c1 c2 c3
    have hc := hcd z hz
    rw [hc] at c3
    refine p_catch (k := 3) (f := 0) (t := 8) (hp := 11) (ct := 57) (v := 1) (i := 2) (pre := []) (pk := []) X hgn hex rfl (by decide) rfl  (fun _ h9 => absurd h9 List.not_mem_nil) (by decide) (by decide) (by decide) tw_1302 cst_3 (Or.inl ⟨2, rfl, rfl, (dcg dc_L_lastWord 7 rfl)⟩) (by decide) rl hS hl c1 c2 c3 ?_
    refine p_iconst (v := 1) X (dcg dc_L_lastWord 8 rfl) (by decide) ?_
    exact p_iret X rfl (dcg dc_L_lastWord 9 rfl) (Or.inr ⟨z, n, hz, hn, rfl, ⟨hc, rfl⟩⟩) (Nat.le_of_eq (Nat.zero_add _)) (Nat.le_of_eq (Nat.zero_add _))
  · rintro _ _ ⟨z, hz, rfl, rfl⟩
    refine p_i2l X (dcg dc_L_lastWord 4 rfl) ?_
    refine p_last X (dcg dc_L_lastWord 5 rfl) (hko z hz).1 (vp_of_inb ⟨by decide, (hko z hz).2⟩) ?_
    refine p_goto (tgt := 14) X (dcg dc_L_lastWord 6 rfl) (by decide) ?_
    refine p_iconst (v := 0) X (dcg dc_L_lastWord 10 rfl) (by decide) ?_
    exact p_iret X rfl (dcg dc_L_lastWord 11 rfl) (Or.inl ⟨z, hz, rfl, rfl⟩) (Nat.le_of_eq (Nat.zero_add _)) (Nat.le_of_eq (Nat.zero_add _))
theorem dc_L_beside : decs cL_beside [(0, .aload_n 3, 1), (1, .iconst 0, 1), (2, .aload_n 0, 1), (3, .iload_n 1, 1), (4, .iload_n 2, 1), (5, .invokevirtual 62, 3), (8, .i2l, 1), (9, .lastore, 1), (10, .goto 7, 3), (13, .astore 4, 2), (15, .iconst 1, 1), (16, .ireturn, 1), (17, .iconst 0, 1), (18, .ireturn, 1)] = true := by decide +kernel
set_option maxRecDepth 100000 in
theorem wL_beside {E : PE} {l : Launch} (hG : Gs E l) (hgn : Gn E) {v0 : Nat} {v1 : Int32} {v2 : Int32} {vo : Nat} {h : PH} {r : ((Int32 × PH) ⊕ (Nat × PH))} (hf : fX11_beside v0 v1 v2 h = some r) (hk : hK h v0 = 11) (hko : ∀ z, r = .inl z → hK z.2 vo = 23 ∧ 0 < hN z.2 vo) (hcd : ∀ z, r = .inr z → z.1 = 1) : CtH E l 10 (xT2 r - hX h) (vT2 r - hV h) yL_beside cL_beside 5 (some .int) [(0, 10, 13, 19)] [.ref v0, .int v1, .int v2, .ref vo] h (fun v u => (∃ z : Int32 × PH, r = .inl z ∧ v = some (.int 0) ∧ u = sL z.2 23 vo (Int32.toNatClampNeg 0) (Int32.toInt64 z.1)) ∨ (∃ (z : Nat × PH) (n : Nat), r = .inr z ∧ hX z.2 ≤ n ∧ u = hbump z.2 n ∧ ((z.1 = 1 ∧ v = some (.int 1))))) := by
  refine cth_of hG (by decide) (Nat.le_of_ble_eq_true rfl) ?_
  intro p e s m args below meth c X hex
  show PW E p l e _ s m args below meth c _ 0 0 _ h 0 [(0, some (.ref v0)), (1, some (.int v1)), (2, some (.int v2)), (3, some (.ref vo))] []
  refine p_aload_n X (dcg dc_L_beside 0 rfl) rfl rfl ?_
  refine p_iconst (v := 0) X (dcg dc_L_beside 1 rfl) (by decide) ?_
  refine p_aload_n X (dcg dc_L_beside 2 rfl) rfl rfl ?_
  refine p_iload_n X (dcg dc_L_beside 3 rfl) rfl rfl ?_
  refine p_iload_n X (dcg dc_L_beside 4 rfl) rfl rfl ?_
  refine p_callVC (As := [_, _]) X ml_L_62 (dcg dc_L_beside 5 rfl) rfl rfl hk (wX11_beside hG hf) (by decide) (room4 (Nat.le_of_ble_eq_true rfl)) (Nat.le_of_eq (Nat.zero_add _)) (Nat.le_of_eq (Nat.zero_add _)) ?_ ?_
  · rintro En u ⟨z, n, hz, rfl, hn, rfl⟩ H1 locs1 ls q ce rl hS hl c1 c2 c3
    have hc := hcd z hz
    rw [hc] at c3
    refine p_catch (k := 1) (f := 0) (t := 10) (hp := 13) (ct := 19) (v := 2) (i := 4) (pre := []) (pk := []) X hgn hex rfl (by decide) rfl  (fun _ h9 => absurd h9 List.not_mem_nil) (by decide) (by decide) (by decide) tw_1149 cst_1 (Or.inr ⟨rfl, (dcg dc_L_beside 9 rfl)⟩) (by decide) rl hS hl c1 c2 c3 ?_
    refine p_iconst (v := 1) X (dcg dc_L_beside 10 rfl) (by decide) ?_
    exact p_iret X rfl (dcg dc_L_beside 11 rfl) (Or.inr ⟨z, n, hz, hn, rfl, ⟨hc, rfl⟩⟩) (Nat.le_of_eq (Nat.zero_add _)) (Nat.le_of_eq (Nat.zero_add _))
  · rintro _ _ ⟨z, hz, rfl, rfl⟩
    refine p_i2l X (dcg dc_L_beside 6 rfl) ?_
    refine p_last X (dcg dc_L_beside 7 rfl) (hko z hz).1 (vp_of_inb ⟨by decide, (hko z hz).2⟩) ?_
    refine p_goto (tgt := 17) X (dcg dc_L_beside 8 rfl) (by decide) ?_
    refine p_iconst (v := 0) X (dcg dc_L_beside 12 rfl) (by decide) ?_
    exact p_iret X rfl (dcg dc_L_beside 13 rfl) (Or.inl ⟨z, hz, rfl, rfl⟩) (Nat.le_of_eq (Nat.zero_add _)) (Nat.le_of_eq (Nat.zero_add _))
theorem dc_L_between : decs cL_between [(0, .aload_n 3, 1), (1, .iconst 0, 1), (2, .aload_n 0, 1), (3, .iload_n 1, 1), (4, .iload_n 2, 1), (5, .invokevirtual 66, 3), (8, .i2l, 1), (9, .lastore, 1), (10, .goto 7, 3), (13, .astore 4, 2), (15, .iconst 1, 1), (16, .ireturn, 1), (17, .iconst 0, 1), (18, .ireturn, 1)] = true := by decide +kernel
set_option maxRecDepth 100000 in
theorem wL_between {E : PE} {l : Launch} (hG : Gs E l) (hgn : Gn E) {v0 : Nat} {v1 : Int32} {v2 : Int32} {vo : Nat} {h : PH} {r : ((Int32 × PH) ⊕ (Nat × PH))} (hf : fX11_between v0 v1 v2 h = some r) (hk : hK h v0 = 11) (hko : ∀ z, r = .inl z → hK z.2 vo = 23 ∧ 0 < hN z.2 vo) (hcd : ∀ z, r = .inr z → z.1 = 1) : CtH E l 10 (xT2 r - hX h) (vT2 r - hV h) yL_between cL_between 5 (some .int) [(0, 10, 13, 19)] [.ref v0, .int v1, .int v2, .ref vo] h (fun v u => (∃ z : Int32 × PH, r = .inl z ∧ v = some (.int 0) ∧ u = sL z.2 23 vo (Int32.toNatClampNeg 0) (Int32.toInt64 z.1)) ∨ (∃ (z : Nat × PH) (n : Nat), r = .inr z ∧ hX z.2 ≤ n ∧ u = hbump z.2 n ∧ ((z.1 = 1 ∧ v = some (.int 1))))) := by
  refine cth_of hG (by decide) (Nat.le_of_ble_eq_true rfl) ?_
  intro p e s m args below meth c X hex
  show PW E p l e _ s m args below meth c _ 0 0 _ h 0 [(0, some (.ref v0)), (1, some (.int v1)), (2, some (.int v2)), (3, some (.ref vo))] []
  refine p_aload_n X (dcg dc_L_between 0 rfl) rfl rfl ?_
  refine p_iconst (v := 0) X (dcg dc_L_between 1 rfl) (by decide) ?_
  refine p_aload_n X (dcg dc_L_between 2 rfl) rfl rfl ?_
  refine p_iload_n X (dcg dc_L_between 3 rfl) rfl rfl ?_
  refine p_iload_n X (dcg dc_L_between 4 rfl) rfl rfl ?_
  refine p_callVC (As := [_, _]) X ml_L_66 (dcg dc_L_between 5 rfl) rfl rfl hk (wX11_between hG hf) (by decide) (room4 (Nat.le_of_ble_eq_true rfl)) (Nat.le_of_eq (Nat.zero_add _)) (Nat.le_of_eq (Nat.zero_add _)) ?_ ?_
  · rintro En u ⟨z, n, hz, rfl, hn, rfl⟩ H1 locs1 ls q ce rl hS hl c1 c2 c3
    have hc := hcd z hz
    rw [hc] at c3
    refine p_catch (k := 1) (f := 0) (t := 10) (hp := 13) (ct := 19) (v := 2) (i := 4) (pre := []) (pk := []) X hgn hex rfl (by decide) rfl  (fun _ h9 => absurd h9 List.not_mem_nil) (by decide) (by decide) (by decide) tw_1149 cst_1 (Or.inr ⟨rfl, (dcg dc_L_between 9 rfl)⟩) (by decide) rl hS hl c1 c2 c3 ?_
    refine p_iconst (v := 1) X (dcg dc_L_between 10 rfl) (by decide) ?_
    exact p_iret X rfl (dcg dc_L_between 11 rfl) (Or.inr ⟨z, n, hz, hn, rfl, ⟨hc, rfl⟩⟩) (Nat.le_of_eq (Nat.zero_add _)) (Nat.le_of_eq (Nat.zero_add _))
  · rintro _ _ ⟨z, hz, rfl, rfl⟩
    refine p_i2l X (dcg dc_L_between 6 rfl) ?_
    refine p_last X (dcg dc_L_between 7 rfl) (hko z hz).1 (vp_of_inb ⟨by decide, (hko z hz).2⟩) ?_
    refine p_goto (tgt := 17) X (dcg dc_L_between 8 rfl) (by decide) ?_
    refine p_iconst (v := 0) X (dcg dc_L_between 12 rfl) (by decide) ?_
    exact p_iret X rfl (dcg dc_L_between 13 rfl) (Or.inl ⟨z, hz, rfl, rfl⟩) (Nat.le_of_eq (Nat.zero_add _)) (Nat.le_of_eq (Nat.zero_add _))
theorem dc_L_beginning : decs cL_beginning [(0, .aload_n 2, 1), (1, .iconst 0, 1), (2, .aload_n 0, 1), (3, .iload_n 1, 1), (4, .invokevirtual 69, 3), (7, .i2l, 1), (8, .lastore, 1), (9, .goto 6, 3), (12, .astore_n 3, 1), (13, .iconst 1, 1), (14, .ireturn, 1), (15, .iconst 0, 1), (16, .ireturn, 1)] = true := by decide +kernel
set_option maxRecDepth 100000 in
theorem wL_beginning {E : PE} {l : Launch} (hG : Gs E l) (hgn : Gn E) {v0 : Nat} {v1 : Int32} {vo : Nat} {h : PH} {r : ((Int32 × PH) ⊕ (Nat × PH))} (hf : fX11_beginning v0 v1 h = some r) (hk : hK h v0 = 11) (hko : ∀ z, r = .inl z → hK z.2 vo = 23 ∧ 0 < hN z.2 vo) (hcd : ∀ z, r = .inr z → z.1 = 1) : CtH E l 10 (xT2 r - hX h) (vT2 r - hV h) yL_beginning cL_beginning 4 (some .int) [(0, 9, 12, 19)] [.ref v0, .int v1, .ref vo] h (fun v u => (∃ z : Int32 × PH, r = .inl z ∧ v = some (.int 0) ∧ u = sL z.2 23 vo (Int32.toNatClampNeg 0) (Int32.toInt64 z.1)) ∨ (∃ (z : Nat × PH) (n : Nat), r = .inr z ∧ hX z.2 ≤ n ∧ u = hbump z.2 n ∧ ((z.1 = 1 ∧ v = some (.int 1))))) := by
  refine cth_of hG (by decide) (Nat.le_of_ble_eq_true rfl) ?_
  intro p e s m args below meth c X hex
  show PW E p l e _ s m args below meth c _ 0 0 _ h 0 [(0, some (.ref v0)), (1, some (.int v1)), (2, some (.ref vo))] []
  refine p_aload_n X (dcg dc_L_beginning 0 rfl) rfl rfl ?_
  refine p_iconst (v := 0) X (dcg dc_L_beginning 1 rfl) (by decide) ?_
  refine p_aload_n X (dcg dc_L_beginning 2 rfl) rfl rfl ?_
  refine p_iload_n X (dcg dc_L_beginning 3 rfl) rfl rfl ?_
  refine p_callVC (As := [_]) X ml_L_69 (dcg dc_L_beginning 4 rfl) rfl rfl hk (wX11_beginning hG hf) (by decide) (room4 (Nat.le_of_ble_eq_true rfl)) (Nat.le_of_eq (Nat.zero_add _)) (Nat.le_of_eq (Nat.zero_add _)) ?_ ?_
  · rintro En u ⟨z, n, hz, rfl, hn, rfl⟩ H1 locs1 ls q ce rl hS hl c1 c2 c3
    have hc := hcd z hz
    rw [hc] at c3
    refine p_catch (k := 1) (f := 0) (t := 9) (hp := 12) (ct := 19) (v := 1) (i := 3) (pre := []) (pk := []) X hgn hex rfl (by decide) rfl  (fun _ h9 => absurd h9 List.not_mem_nil) (by decide) (by decide) (by decide) tw_1149 cst_1 (Or.inl ⟨3, rfl, rfl, (dcg dc_L_beginning 8 rfl)⟩) (by decide) rl hS hl c1 c2 c3 ?_
    refine p_iconst (v := 1) X (dcg dc_L_beginning 9 rfl) (by decide) ?_
    exact p_iret X rfl (dcg dc_L_beginning 10 rfl) (Or.inr ⟨z, n, hz, hn, rfl, ⟨hc, rfl⟩⟩) (Nat.le_of_eq (Nat.zero_add _)) (Nat.le_of_eq (Nat.zero_add _))
  · rintro _ _ ⟨z, hz, rfl, rfl⟩
    refine p_i2l X (dcg dc_L_beginning 5 rfl) ?_
    refine p_last X (dcg dc_L_beginning 6 rfl) (hko z hz).1 (vp_of_inb ⟨by decide, (hko z hz).2⟩) ?_
    refine p_goto (tgt := 15) X (dcg dc_L_beginning 7 rfl) (by decide) ?_
    refine p_iconst (v := 0) X (dcg dc_L_beginning 11 rfl) (by decide) ?_
    exact p_iret X rfl (dcg dc_L_beginning 12 rfl) (Or.inl ⟨z, hz, rfl, rfl⟩) (Nat.le_of_eq (Nat.zero_add _)) (Nat.le_of_eq (Nat.zero_add _))
theorem dc_L_textsWith : decs cL_textsWith [(0, .aload_n 2, 1), (1, .iconst 0, 1), (2, .aload_n 0, 1), (3, .iload_n 1, 1), (4, .invokevirtual 72, 3), (7, .i2l, 1), (8, .lastore, 1), (9, .goto 6, 3), (12, .astore_n 3, 1), (13, .iconst 1, 1), (14, .ireturn, 1), (15, .iconst 0, 1), (16, .ireturn, 1)] = true := by decide +kernel
set_option maxRecDepth 100000 in
theorem wL_textsWith {E : PE} {l : Launch} (hG : Gs E l) (hgn : Gn E) {v0 : Nat} {v1 : Int32} {vo : Nat} {h : PH} {r : ((Int32 × PH) ⊕ (Nat × PH))} (hf : fX11_textsWith v0 v1 h = some r) (hk : hK h v0 = 11) (hko : ∀ z, r = .inl z → hK z.2 vo = 23 ∧ 0 < hN z.2 vo) (hcd : ∀ z, r = .inr z → z.1 = 1) : CtH E l 10 (xT2 r - hX h) (vT2 r - hV h) yL_textsWith cL_textsWith 4 (some .int) [(0, 9, 12, 19)] [.ref v0, .int v1, .ref vo] h (fun v u => (∃ z : Int32 × PH, r = .inl z ∧ v = some (.int 0) ∧ u = sL z.2 23 vo (Int32.toNatClampNeg 0) (Int32.toInt64 z.1)) ∨ (∃ (z : Nat × PH) (n : Nat), r = .inr z ∧ hX z.2 ≤ n ∧ u = hbump z.2 n ∧ ((z.1 = 1 ∧ v = some (.int 1))))) := by
  refine cth_of hG (by decide) (Nat.le_of_ble_eq_true rfl) ?_
  intro p e s m args below meth c X hex
  show PW E p l e _ s m args below meth c _ 0 0 _ h 0 [(0, some (.ref v0)), (1, some (.int v1)), (2, some (.ref vo))] []
  refine p_aload_n X (dcg dc_L_textsWith 0 rfl) rfl rfl ?_
  refine p_iconst (v := 0) X (dcg dc_L_textsWith 1 rfl) (by decide) ?_
  refine p_aload_n X (dcg dc_L_textsWith 2 rfl) rfl rfl ?_
  refine p_iload_n X (dcg dc_L_textsWith 3 rfl) rfl rfl ?_
  refine p_callVC (As := [_]) X ml_L_72 (dcg dc_L_textsWith 4 rfl) rfl rfl hk (wX11_textsWith hG hf) (by decide) (room4 (Nat.le_of_ble_eq_true rfl)) (Nat.le_of_eq (Nat.zero_add _)) (Nat.le_of_eq (Nat.zero_add _)) ?_ ?_
  · rintro En u ⟨z, n, hz, rfl, hn, rfl⟩ H1 locs1 ls q ce rl hS hl c1 c2 c3
    have hc := hcd z hz
    rw [hc] at c3
    refine p_catch (k := 1) (f := 0) (t := 9) (hp := 12) (ct := 19) (v := 1) (i := 3) (pre := []) (pk := []) X hgn hex rfl (by decide) rfl  (fun _ h9 => absurd h9 List.not_mem_nil) (by decide) (by decide) (by decide) tw_1149 cst_1 (Or.inl ⟨3, rfl, rfl, (dcg dc_L_textsWith 8 rfl)⟩) (by decide) rl hS hl c1 c2 c3 ?_
    refine p_iconst (v := 1) X (dcg dc_L_textsWith 9 rfl) (by decide) ?_
    exact p_iret X rfl (dcg dc_L_textsWith 10 rfl) (Or.inr ⟨z, n, hz, hn, rfl, ⟨hc, rfl⟩⟩) (Nat.le_of_eq (Nat.zero_add _)) (Nat.le_of_eq (Nat.zero_add _))
  · rintro _ _ ⟨z, hz, rfl, rfl⟩
    refine p_i2l X (dcg dc_L_textsWith 5 rfl) ?_
    refine p_last X (dcg dc_L_textsWith 6 rfl) (hko z hz).1 (vp_of_inb ⟨by decide, (hko z hz).2⟩) ?_
    refine p_goto (tgt := 15) X (dcg dc_L_textsWith 7 rfl) (by decide) ?_
    refine p_iconst (v := 0) X (dcg dc_L_textsWith 11 rfl) (by decide) ?_
    exact p_iret X rfl (dcg dc_L_textsWith 12 rfl) (Or.inl ⟨z, hz, rfl, rfl⟩) (Nat.le_of_eq (Nat.zero_add _)) (Nat.le_of_eq (Nat.zero_add _))
theorem dc_L_isIn : decs cL_isIn [(0, .aload_n 3, 1), (1, .iconst 0, 1), (2, .aload_n 0, 1), (3, .iload_n 1, 1), (4, .iload_n 2, 1), (5, .invokevirtual 75, 3), (8, .ifCond .eq 7, 3), (11, .lconst 1, 1), (12, .goto 4, 3), (15, .lconst 0, 1), (16, .lastore, 1), (17, .goto 11, 3), (20, .astore 4, 2), (22, .iconst 1, 1), (23, .ireturn, 1), (24, .astore 4, 2), (26, .iconst 2, 1), (27, .ireturn, 1), (28, .iconst 0, 1), (29, .ireturn, 1)] = true := by decide +kernel
set_option maxRecDepth 100000 in
theorem wL_isIn {E : PE} {l : Launch} (hG : Gs E l) (hgn : Gn E) {v0 : Nat} {v1 : Int32} {v2 : Int32} {vo : Nat} {h : PH} {r : ((Int32 × PH) ⊕ (Nat × PH))} (hf : fX11_isIn v0 v1 v2 h = some r) (hk : hK h v0 = 11) (hko : ∀ z, r = .inl z → hK z.2 vo = 23 ∧ 0 < hN z.2 vo) (hcd : ∀ z, r = .inr z → z.1 = 1 ∨ z.1 = 2) : CtH E l 10 (xT2 r - hX h) (vT2 r - hV h) yL_isIn cL_isIn 5 (some .int) [(0, 17, 20, 19), (0, 17, 24, 25)] [.ref v0, .int v1, .int v2, .ref vo] h (fun v u => (∃ z : Int32 × PH, r = .inl z ∧ v = some (.int 0) ∧ u = sL z.2 23 vo (Int32.toNatClampNeg 0) (if z.1 = 0 then (0 : Int64) else 1)) ∨ (∃ (z : Nat × PH) (n : Nat), r = .inr z ∧ hX z.2 ≤ n ∧ u = hbump z.2 n ∧ ((z.1 = 1 ∧ v = some (.int 1)) ∨ (z.1 = 2 ∧ v = some (.int 2))))) := by
  refine cth_of hG (by decide) (Nat.le_of_ble_eq_true rfl) ?_
  intro p e s m args below meth c X hex
  show PW E p l e _ s m args below meth c _ 0 0 _ h 0 [(0, some (.ref v0)), (1, some (.int v1)), (2, some (.int v2)), (3, some (.ref vo))] []
  refine p_aload_n X (dcg dc_L_isIn 0 rfl) rfl rfl ?_
  refine p_iconst (v := 0) X (dcg dc_L_isIn 1 rfl) (by decide) ?_
  refine p_aload_n X (dcg dc_L_isIn 2 rfl) rfl rfl ?_
  refine p_iload_n X (dcg dc_L_isIn 3 rfl) rfl rfl ?_
  refine p_iload_n X (dcg dc_L_isIn 4 rfl) rfl rfl ?_
  refine p_callVC (As := [_, _]) X ml_L_75 (dcg dc_L_isIn 5 rfl) rfl rfl hk (wX11_isIn hG hf) (by decide) (room4 (Nat.le_of_ble_eq_true rfl)) (Nat.le_of_eq (Nat.zero_add _)) (Nat.le_of_eq (Nat.zero_add _)) ?_ ?_
  · rintro En u ⟨z, n, hz, rfl, hn, rfl⟩ H1 locs1 ls q ce rl hS hl c1 c2 c3
    rcases hcd z hz with hc | hc
    · rw [hc] at c3
      refine p_catch (k := 1) (f := 0) (t := 17) (hp := 20) (ct := 19) (v := 2) (i := 4) (pre := []) (pk := []) X hgn hex rfl (by decide) rfl  (fun _ h9 => absurd h9 List.not_mem_nil) (by decide) (by decide) (by decide) tw_1149 cst_1 (Or.inr ⟨rfl, (dcg dc_L_isIn 12 rfl)⟩) (by decide) rl hS hl c1 c2 c3 ?_
      refine p_iconst (v := 1) X (dcg dc_L_isIn 13 rfl) (by decide) ?_
      exact p_iret X rfl (dcg dc_L_isIn 14 rfl) (Or.inr ⟨z, n, hz, hn, rfl, Or.inl ⟨hc, rfl⟩⟩) (Nat.le_of_eq (Nat.zero_add _)) (Nat.le_of_eq (Nat.zero_add _))
    · rw [hc] at c3
      refine p_catch (k := 2) (f := 0) (t := 17) (hp := 24) (ct := 25) (v := 2) (i := 4) (pre := [(0, 17, 20, 19)]) (pk := [1]) X hgn hex rfl (by decide) rfl (List.forall_mem_cons.mpr ⟨⟨by decide, by decide, by decide, tw_1149⟩, (fun _ h9 => absurd h9 List.not_mem_nil)⟩) (by decide) (by decide) (by decide) tw_1196 cst_2 (Or.inr ⟨rfl, (dcg dc_L_isIn 15 rfl)⟩) (by decide) rl hS hl c1 c2 c3 ?_
      refine p_iconst (v := 2) X (dcg dc_L_isIn 16 rfl) (by decide) ?_
      exact p_iret X rfl (dcg dc_L_isIn 17 rfl) (Or.inr ⟨z, n, hz, hn, rfl, Or.inr (⟨hc, rfl⟩)⟩) (Nat.le_of_eq (Nat.zero_add _)) (Nat.le_of_eq (Nat.zero_add _))
  · rintro _ _ ⟨z, hz, rfl, rfl⟩
    refine p_if_eq (tgt := 15) X (dcg dc_L_isIn 6 rfl) (by decide) (fun q => ?_) (fun q => ?_)
    · refine p_lconst (v := 0) X (dcg dc_L_isIn 9 rfl) (by decide) ?_
      refine p_last X (dcg dc_L_isIn 10 rfl) (hko z hz).1 (vp_of_inb ⟨by decide, (hko z hz).2⟩) ?_
      refine p_goto (tgt := 28) X (dcg dc_L_isIn 11 rfl) (by decide) ?_
      refine p_iconst (v := 0) X (dcg dc_L_isIn 18 rfl) (by decide) ?_
      exact p_iret X rfl (dcg dc_L_isIn 19 rfl) (Or.inl ⟨z, hz, rfl, by rw [if_pos q]⟩) (Nat.le_of_eq (Nat.zero_add _)) (Nat.le_of_eq (Nat.zero_add _))
    · refine p_lconst (v := 1) X (dcg dc_L_isIn 7 rfl) (by decide) ?_
      refine p_goto (tgt := 16) X (dcg dc_L_isIn 8 rfl) (by decide) ?_
      refine p_last X (dcg dc_L_isIn 10 rfl) (hko z hz).1 (vp_of_inb ⟨by decide, (hko z hz).2⟩) ?_
      refine p_goto (tgt := 28) X (dcg dc_L_isIn 11 rfl) (by decide) ?_
      refine p_iconst (v := 0) X (dcg dc_L_isIn 18 rfl) (by decide) ?_
      exact p_iret X rfl (dcg dc_L_isIn 19 rfl) (Or.inl ⟨z, hz, rfl, by rw [if_neg q]⟩) (Nat.le_of_eq (Nat.zero_add _)) (Nat.le_of_eq (Nat.zero_add _))
theorem dc_L_nextWith : decs cL_nextWith [(0, .aload_n 3, 1), (1, .iconst 0, 1), (2, .aload_n 0, 1), (3, .iload_n 1, 1), (4, .iload_n 2, 1), (5, .invokevirtual 79, 3), (8, .i2l, 1), (9, .lastore, 1), (10, .goto 11, 3), (13, .astore 4, 2), (15, .iconst 1, 1), (16, .ireturn, 1), (17, .astore 4, 2), (19, .iconst 2, 1), (20, .ireturn, 1), (21, .iconst 0, 1), (22, .ireturn, 1)] = true := by decide +kernel
set_option maxRecDepth 100000 in
theorem wL_nextWith {E : PE} {l : Launch} (hG : Gs E l) (hgn : Gn E) {v0 : Nat} {v1 : Int32} {v2 : Int32} {vo : Nat} {h : PH} {r : ((Int32 × PH) ⊕ (Nat × PH))} (hf : fX11_nextWith v0 v1 v2 h = some r) (hk : hK h v0 = 11) (hko : ∀ z, r = .inl z → hK z.2 vo = 23 ∧ 0 < hN z.2 vo) (hcd : ∀ z, r = .inr z → z.1 = 1 ∨ z.1 = 2) : CtH E l 10 (xT2 r - hX h) (vT2 r - hV h) yL_nextWith cL_nextWith 5 (some .int) [(0, 10, 13, 19), (0, 10, 17, 25)] [.ref v0, .int v1, .int v2, .ref vo] h (fun v u => (∃ z : Int32 × PH, r = .inl z ∧ v = some (.int 0) ∧ u = sL z.2 23 vo (Int32.toNatClampNeg 0) (Int32.toInt64 z.1)) ∨ (∃ (z : Nat × PH) (n : Nat), r = .inr z ∧ hX z.2 ≤ n ∧ u = hbump z.2 n ∧ ((z.1 = 1 ∧ v = some (.int 1)) ∨ (z.1 = 2 ∧ v = some (.int 2))))) := by
  refine cth_of hG (by decide) (Nat.le_of_ble_eq_true rfl) ?_
  intro p e s m args below meth c X hex
  show PW E p l e _ s m args below meth c _ 0 0 _ h 0 [(0, some (.ref v0)), (1, some (.int v1)), (2, some (.int v2)), (3, some (.ref vo))] []
  refine p_aload_n X (dcg dc_L_nextWith 0 rfl) rfl rfl ?_
  refine p_iconst (v := 0) X (dcg dc_L_nextWith 1 rfl) (by decide) ?_
  refine p_aload_n X (dcg dc_L_nextWith 2 rfl) rfl rfl ?_
  refine p_iload_n X (dcg dc_L_nextWith 3 rfl) rfl rfl ?_
  refine p_iload_n X (dcg dc_L_nextWith 4 rfl) rfl rfl ?_
  refine p_callVC (As := [_, _]) X ml_L_79 (dcg dc_L_nextWith 5 rfl) rfl rfl hk (wX11_nextWith hG hf) (by decide) (room4 (Nat.le_of_ble_eq_true rfl)) (Nat.le_of_eq (Nat.zero_add _)) (Nat.le_of_eq (Nat.zero_add _)) ?_ ?_
  · rintro En u ⟨z, n, hz, rfl, hn, rfl⟩ H1 locs1 ls q ce rl hS hl c1 c2 c3
    rcases hcd z hz with hc | hc
    · rw [hc] at c3
      refine p_catch (k := 1) (f := 0) (t := 10) (hp := 13) (ct := 19) (v := 2) (i := 4) (pre := []) (pk := []) X hgn hex rfl (by decide) rfl  (fun _ h9 => absurd h9 List.not_mem_nil) (by decide) (by decide) (by decide) tw_1149 cst_1 (Or.inr ⟨rfl, (dcg dc_L_nextWith 9 rfl)⟩) (by decide) rl hS hl c1 c2 c3 ?_
      refine p_iconst (v := 1) X (dcg dc_L_nextWith 10 rfl) (by decide) ?_
      exact p_iret X rfl (dcg dc_L_nextWith 11 rfl) (Or.inr ⟨z, n, hz, hn, rfl, Or.inl ⟨hc, rfl⟩⟩) (Nat.le_of_eq (Nat.zero_add _)) (Nat.le_of_eq (Nat.zero_add _))
    · rw [hc] at c3
      refine p_catch (k := 2) (f := 0) (t := 10) (hp := 17) (ct := 25) (v := 2) (i := 4) (pre := [(0, 10, 13, 19)]) (pk := [1]) X hgn hex rfl (by decide) rfl (List.forall_mem_cons.mpr ⟨⟨by decide, by decide, by decide, tw_1149⟩, (fun _ h9 => absurd h9 List.not_mem_nil)⟩) (by decide) (by decide) (by decide) tw_1196 cst_2 (Or.inr ⟨rfl, (dcg dc_L_nextWith 12 rfl)⟩) (by decide) rl hS hl c1 c2 c3 ?_
      refine p_iconst (v := 2) X (dcg dc_L_nextWith 13 rfl) (by decide) ?_
      exact p_iret X rfl (dcg dc_L_nextWith 14 rfl) (Or.inr ⟨z, n, hz, hn, rfl, Or.inr (⟨hc, rfl⟩)⟩) (Nat.le_of_eq (Nat.zero_add _)) (Nat.le_of_eq (Nat.zero_add _))
  · rintro _ _ ⟨z, hz, rfl, rfl⟩
    refine p_i2l X (dcg dc_L_nextWith 6 rfl) ?_
    refine p_last X (dcg dc_L_nextWith 7 rfl) (hko z hz).1 (vp_of_inb ⟨by decide, (hko z hz).2⟩) ?_
    refine p_goto (tgt := 21) X (dcg dc_L_nextWith 8 rfl) (by decide) ?_
    refine p_iconst (v := 0) X (dcg dc_L_nextWith 15 rfl) (by decide) ?_
    exact p_iret X rfl (dcg dc_L_nextWith 16 rfl) (Or.inl ⟨z, hz, rfl, rfl⟩) (Nat.le_of_eq (Nat.zero_add _)) (Nat.le_of_eq (Nat.zero_add _))
theorem dc_L_places : decs cL_places [(0, .aload_n 2, 1), (1, .iconst 0, 1), (2, .aload_n 0, 1), (3, .iload_n 1, 1), (4, .invokevirtual 82, 3), (7, .i2l, 1), (8, .lastore, 1), (9, .goto 6, 3), (12, .astore_n 3, 1), (13, .iconst 1, 1), (14, .ireturn, 1), (15, .iconst 0, 1), (16, .ireturn, 1)] = true := by decide +kernel
set_option maxRecDepth 100000 in
theorem wL_places {E : PE} {l : Launch} (hG : Gs E l) (hgn : Gn E) {v0 : Nat} {v1 : Int32} {vo : Nat} {h : PH} {r : ((Int32 × PH) ⊕ (Nat × PH))} (hf : fX11_places v0 v1 h = some r) (hk : hK h v0 = 11) (hko : ∀ z, r = .inl z → hK z.2 vo = 23 ∧ 0 < hN z.2 vo) (hcd : ∀ z, r = .inr z → z.1 = 1) : CtH E l 10 (xT2 r - hX h) (vT2 r - hV h) yL_places cL_places 4 (some .int) [(0, 9, 12, 19)] [.ref v0, .int v1, .ref vo] h (fun v u => (∃ z : Int32 × PH, r = .inl z ∧ v = some (.int 0) ∧ u = sL z.2 23 vo (Int32.toNatClampNeg 0) (Int32.toInt64 z.1)) ∨ (∃ (z : Nat × PH) (n : Nat), r = .inr z ∧ hX z.2 ≤ n ∧ u = hbump z.2 n ∧ ((z.1 = 1 ∧ v = some (.int 1))))) := by
  refine cth_of hG (by decide) (Nat.le_of_ble_eq_true rfl) ?_
  intro p e s m args below meth c X hex
  show PW E p l e _ s m args below meth c _ 0 0 _ h 0 [(0, some (.ref v0)), (1, some (.int v1)), (2, some (.ref vo))] []
  refine p_aload_n X (dcg dc_L_places 0 rfl) rfl rfl ?_
  refine p_iconst (v := 0) X (dcg dc_L_places 1 rfl) (by decide) ?_
  refine p_aload_n X (dcg dc_L_places 2 rfl) rfl rfl ?_
  refine p_iload_n X (dcg dc_L_places 3 rfl) rfl rfl ?_
  refine p_callVC (As := [_]) X ml_L_82 (dcg dc_L_places 4 rfl) rfl rfl hk (wX11_places hG hf) (by decide) (room4 (Nat.le_of_ble_eq_true rfl)) (Nat.le_of_eq (Nat.zero_add _)) (Nat.le_of_eq (Nat.zero_add _)) ?_ ?_
  · rintro En u ⟨z, n, hz, rfl, hn, rfl⟩ H1 locs1 ls q ce rl hS hl c1 c2 c3
    have hc := hcd z hz
    rw [hc] at c3
    refine p_catch (k := 1) (f := 0) (t := 9) (hp := 12) (ct := 19) (v := 1) (i := 3) (pre := []) (pk := []) X hgn hex rfl (by decide) rfl  (fun _ h9 => absurd h9 List.not_mem_nil) (by decide) (by decide) (by decide) tw_1149 cst_1 (Or.inl ⟨3, rfl, rfl, (dcg dc_L_places 8 rfl)⟩) (by decide) rl hS hl c1 c2 c3 ?_
    refine p_iconst (v := 1) X (dcg dc_L_places 9 rfl) (by decide) ?_
    exact p_iret X rfl (dcg dc_L_places 10 rfl) (Or.inr ⟨z, n, hz, hn, rfl, ⟨hc, rfl⟩⟩) (Nat.le_of_eq (Nat.zero_add _)) (Nat.le_of_eq (Nat.zero_add _))
  · rintro _ _ ⟨z, hz, rfl, rfl⟩
    refine p_i2l X (dcg dc_L_places 5 rfl) ?_
    refine p_last X (dcg dc_L_places 6 rfl) (hko z hz).1 (vp_of_inb ⟨by decide, (hko z hz).2⟩) ?_
    refine p_goto (tgt := 15) X (dcg dc_L_places 7 rfl) (by decide) ?_
    refine p_iconst (v := 0) X (dcg dc_L_places 11 rfl) (by decide) ?_
    exact p_iret X rfl (dcg dc_L_places 12 rfl) (Or.inl ⟨z, hz, rfl, rfl⟩) (Nat.le_of_eq (Nat.zero_add _)) (Nat.le_of_eq (Nat.zero_add _))
theorem dc_L_placeIn : decs cL_placeIn [(0, .aload 4, 2), (2, .iconst 0, 1), (3, .aload_n 0, 1), (4, .iload_n 1, 1), (5, .iload_n 2, 1), (6, .iload_n 3, 1), (7, .invokevirtual 85, 3), (10, .i2l, 1), (11, .lastore, 1), (12, .goto 11, 3), (15, .astore 5, 2), (17, .iconst 1, 1), (18, .ireturn, 1), (19, .astore 5, 2), (21, .iconst 2, 1), (22, .ireturn, 1), (23, .iconst 0, 1), (24, .ireturn, 1)] = true := by decide +kernel
set_option maxRecDepth 100000 in
theorem wL_placeIn {E : PE} {l : Launch} (hG : Gs E l) (hgn : Gn E) {v0 : Nat} {v1 : Int32} {v2 : Int32} {v3 : Int32} {vo : Nat} {h : PH} {r : ((Int32 × PH) ⊕ (Nat × PH))} (hf : fX11_placeIn v0 v1 v2 v3 h = some r) (hk : hK h v0 = 11) (hko : ∀ z, r = .inl z → hK z.2 vo = 23 ∧ 0 < hN z.2 vo) (hcd : ∀ z, r = .inr z → z.1 = 1 ∨ z.1 = 2) : CtH E l 10 (xT2 r - hX h) (vT2 r - hV h) yL_placeIn cL_placeIn 6 (some .int) [(0, 12, 15, 19), (0, 12, 19, 25)] [.ref v0, .int v1, .int v2, .int v3, .ref vo] h (fun v u => (∃ z : Int32 × PH, r = .inl z ∧ v = some (.int 0) ∧ u = sL z.2 23 vo (Int32.toNatClampNeg 0) (Int32.toInt64 z.1)) ∨ (∃ (z : Nat × PH) (n : Nat), r = .inr z ∧ hX z.2 ≤ n ∧ u = hbump z.2 n ∧ ((z.1 = 1 ∧ v = some (.int 1)) ∨ (z.1 = 2 ∧ v = some (.int 2))))) := by
  refine cth_of hG (by decide) (Nat.le_of_ble_eq_true rfl) ?_
  intro p e s m args below meth c X hex
  show PW E p l e _ s m args below meth c _ 0 0 _ h 0 [(0, some (.ref v0)), (1, some (.int v1)), (2, some (.int v2)), (3, some (.int v3)), (4, some (.ref vo))] []
  refine p_aload X (dcg dc_L_placeIn 0 rfl) rfl ?_
  refine p_iconst (v := 0) X (dcg dc_L_placeIn 1 rfl) (by decide) ?_
  refine p_aload_n X (dcg dc_L_placeIn 2 rfl) rfl rfl ?_
  refine p_iload_n X (dcg dc_L_placeIn 3 rfl) rfl rfl ?_
  refine p_iload_n X (dcg dc_L_placeIn 4 rfl) rfl rfl ?_
  refine p_iload_n X (dcg dc_L_placeIn 5 rfl) rfl rfl ?_
  refine p_callVC (As := [_, _, _]) X ml_L_85 (dcg dc_L_placeIn 6 rfl) rfl rfl hk (wX11_placeIn hG hf) (by decide) (room4 (Nat.le_of_ble_eq_true rfl)) (Nat.le_of_eq (Nat.zero_add _)) (Nat.le_of_eq (Nat.zero_add _)) ?_ ?_
  · rintro En u ⟨z, n, hz, rfl, hn, rfl⟩ H1 locs1 ls q ce rl hS hl c1 c2 c3
    rcases hcd z hz with hc | hc
    · rw [hc] at c3
      refine p_catch (k := 1) (f := 0) (t := 12) (hp := 15) (ct := 19) (v := 2) (i := 5) (pre := []) (pk := []) X hgn hex rfl (by decide) rfl  (fun _ h9 => absurd h9 List.not_mem_nil) (by decide) (by decide) (by decide) tw_1149 cst_1 (Or.inr ⟨rfl, (dcg dc_L_placeIn 10 rfl)⟩) (by decide) rl hS hl c1 c2 c3 ?_
      refine p_iconst (v := 1) X (dcg dc_L_placeIn 11 rfl) (by decide) ?_
      exact p_iret X rfl (dcg dc_L_placeIn 12 rfl) (Or.inr ⟨z, n, hz, hn, rfl, Or.inl ⟨hc, rfl⟩⟩) (Nat.le_of_eq (Nat.zero_add _)) (Nat.le_of_eq (Nat.zero_add _))
    · rw [hc] at c3
      refine p_catch (k := 2) (f := 0) (t := 12) (hp := 19) (ct := 25) (v := 2) (i := 5) (pre := [(0, 12, 15, 19)]) (pk := [1]) X hgn hex rfl (by decide) rfl (List.forall_mem_cons.mpr ⟨⟨by decide, by decide, by decide, tw_1149⟩, (fun _ h9 => absurd h9 List.not_mem_nil)⟩) (by decide) (by decide) (by decide) tw_1196 cst_2 (Or.inr ⟨rfl, (dcg dc_L_placeIn 13 rfl)⟩) (by decide) rl hS hl c1 c2 c3 ?_
      refine p_iconst (v := 2) X (dcg dc_L_placeIn 14 rfl) (by decide) ?_
      exact p_iret X rfl (dcg dc_L_placeIn 15 rfl) (Or.inr ⟨z, n, hz, hn, rfl, Or.inr (⟨hc, rfl⟩)⟩) (Nat.le_of_eq (Nat.zero_add _)) (Nat.le_of_eq (Nat.zero_add _))
  · rintro _ _ ⟨z, hz, rfl, rfl⟩
    refine p_i2l X (dcg dc_L_placeIn 7 rfl) ?_
    refine p_last X (dcg dc_L_placeIn 8 rfl) (hko z hz).1 (vp_of_inb ⟨by decide, (hko z hz).2⟩) ?_
    refine p_goto (tgt := 23) X (dcg dc_L_placeIn 9 rfl) (by decide) ?_
    refine p_iconst (v := 0) X (dcg dc_L_placeIn 16 rfl) (by decide) ?_
    exact p_iret X rfl (dcg dc_L_placeIn 17 rfl) (Or.inl ⟨z, hz, rfl, rfl⟩) (Nat.le_of_eq (Nat.zero_add _)) (Nat.le_of_eq (Nat.zero_add _))
theorem dc_L_frequent : decs cL_frequent [(0, .aload_n 2, 1), (1, .iconst 0, 1), (2, .aload_n 0, 1), (3, .iload_n 1, 1), (4, .invokevirtual 88, 3), (7, .i2l, 1), (8, .lastore, 1), (9, .goto 6, 3), (12, .astore_n 3, 1), (13, .iconst 1, 1), (14, .ireturn, 1), (15, .iconst 0, 1), (16, .ireturn, 1)] = true := by decide +kernel
set_option maxRecDepth 100000 in
theorem wL_frequent {E : PE} {l : Launch} (hG : Gs E l) (hgn : Gn E) {v0 : Nat} {v1 : Int32} {vo : Nat} {h : PH} {r : ((Int32 × PH) ⊕ (Nat × PH))} (hf : fX11_frequent v0 v1 h = some r) (hk : hK h v0 = 11) (hko : ∀ z, r = .inl z → hK z.2 vo = 23 ∧ 0 < hN z.2 vo) (hcd : ∀ z, r = .inr z → z.1 = 2) : CtH E l 9 (xT2 r - hX h) (vT2 r - hV h) yL_frequent cL_frequent 4 (some .int) [(0, 9, 12, 25)] [.ref v0, .int v1, .ref vo] h (fun v u => (∃ z : Int32 × PH, r = .inl z ∧ v = some (.int 0) ∧ u = sL z.2 23 vo (Int32.toNatClampNeg 0) (Int32.toInt64 z.1)) ∨ (∃ (z : Nat × PH) (n : Nat), r = .inr z ∧ hX z.2 ≤ n ∧ u = hbump z.2 n ∧ ((z.1 = 2 ∧ v = some (.int 1))))) := by
  refine cth_of hG (by decide) (Nat.le_of_ble_eq_true rfl) ?_
  intro p e s m args below meth c X hex
  show PW E p l e _ s m args below meth c _ 0 0 _ h 0 [(0, some (.ref v0)), (1, some (.int v1)), (2, some (.ref vo))] []
  refine p_aload_n X (dcg dc_L_frequent 0 rfl) rfl rfl ?_
  refine p_iconst (v := 0) X (dcg dc_L_frequent 1 rfl) (by decide) ?_
  refine p_aload_n X (dcg dc_L_frequent 2 rfl) rfl rfl ?_
  refine p_iload_n X (dcg dc_L_frequent 3 rfl) rfl rfl ?_
  refine p_callVC (As := [_]) X ml_L_88 (dcg dc_L_frequent 4 rfl) rfl rfl hk (wX11_frequent hG hf) (by decide) (room4 (Nat.le_of_ble_eq_true rfl)) (Nat.le_of_eq (Nat.zero_add _)) (Nat.le_of_eq (Nat.zero_add _)) ?_ ?_
  · rintro En u ⟨z, n, hz, rfl, hn, rfl⟩ H1 locs1 ls q ce rl hS hl c1 c2 c3
    have hc := hcd z hz
    rw [hc] at c3
    refine p_catch (k := 2) (f := 0) (t := 9) (hp := 12) (ct := 25) (v := 1) (i := 3) (pre := []) (pk := []) X hgn hex rfl (by decide) rfl  (fun _ h9 => absurd h9 List.not_mem_nil) (by decide) (by decide) (by decide) tw_1196 cst_2 (Or.inl ⟨3, rfl, rfl, (dcg dc_L_frequent 8 rfl)⟩) (by decide) rl hS hl c1 c2 c3 ?_
    refine p_iconst (v := 1) X (dcg dc_L_frequent 9 rfl) (by decide) ?_
    exact p_iret X rfl (dcg dc_L_frequent 10 rfl) (Or.inr ⟨z, n, hz, hn, rfl, ⟨hc, rfl⟩⟩) (Nat.le_of_eq (Nat.zero_add _)) (Nat.le_of_eq (Nat.zero_add _))
  · rintro _ _ ⟨z, hz, rfl, rfl⟩
    refine p_i2l X (dcg dc_L_frequent 5 rfl) ?_
    refine p_last X (dcg dc_L_frequent 6 rfl) (hko z hz).1 (vp_of_inb ⟨by decide, (hko z hz).2⟩) ?_
    refine p_goto (tgt := 15) X (dcg dc_L_frequent 7 rfl) (by decide) ?_
    refine p_iconst (v := 0) X (dcg dc_L_frequent 11 rfl) (by decide) ?_
    exact p_iret X rfl (dcg dc_L_frequent 12 rfl) (Or.inl ⟨z, hz, rfl, rfl⟩) (Nat.le_of_eq (Nat.zero_add _)) (Nat.le_of_eq (Nat.zero_add _))
theorem dc_L_together : decs cL_together [(0, .aload_n 3, 1), (1, .iconst 0, 1), (2, .aload_n 0, 1), (3, .iload_n 1, 1), (4, .iload_n 2, 1), (5, .invokevirtual 91, 3), (8, .i2l, 1), (9, .lastore, 1), (10, .goto 7, 3), (13, .astore 4, 2), (15, .iconst 1, 1), (16, .ireturn, 1), (17, .iconst 0, 1), (18, .ireturn, 1)] = true := by decide +kernel
set_option maxRecDepth 100000 in
theorem wL_together {E : PE} {l : Launch} (hG : Gs E l) (hgn : Gn E) {v0 : Nat} {v1 : Int32} {v2 : Int32} {vo : Nat} {h : PH} {r : ((Int32 × PH) ⊕ (Nat × PH))} (hf : fX11_together v0 v1 v2 h = some r) (hk : hK h v0 = 11) (hko : ∀ z, r = .inl z → hK z.2 vo = 23 ∧ 0 < hN z.2 vo) (hcd : ∀ z, r = .inr z → z.1 = 1) : CtH E l 10 (xT2 r - hX h) (vT2 r - hV h) yL_together cL_together 5 (some .int) [(0, 10, 13, 19)] [.ref v0, .int v1, .int v2, .ref vo] h (fun v u => (∃ z : Int32 × PH, r = .inl z ∧ v = some (.int 0) ∧ u = sL z.2 23 vo (Int32.toNatClampNeg 0) (Int32.toInt64 z.1)) ∨ (∃ (z : Nat × PH) (n : Nat), r = .inr z ∧ hX z.2 ≤ n ∧ u = hbump z.2 n ∧ ((z.1 = 1 ∧ v = some (.int 1))))) := by
  refine cth_of hG (by decide) (Nat.le_of_ble_eq_true rfl) ?_
  intro p e s m args below meth c X hex
  show PW E p l e _ s m args below meth c _ 0 0 _ h 0 [(0, some (.ref v0)), (1, some (.int v1)), (2, some (.int v2)), (3, some (.ref vo))] []
  refine p_aload_n X (dcg dc_L_together 0 rfl) rfl rfl ?_
  refine p_iconst (v := 0) X (dcg dc_L_together 1 rfl) (by decide) ?_
  refine p_aload_n X (dcg dc_L_together 2 rfl) rfl rfl ?_
  refine p_iload_n X (dcg dc_L_together 3 rfl) rfl rfl ?_
  refine p_iload_n X (dcg dc_L_together 4 rfl) rfl rfl ?_
  refine p_callVC (As := [_, _]) X ml_L_91 (dcg dc_L_together 5 rfl) rfl rfl hk (wX11_together hG hf) (by decide) (room4 (Nat.le_of_ble_eq_true rfl)) (Nat.le_of_eq (Nat.zero_add _)) (Nat.le_of_eq (Nat.zero_add _)) ?_ ?_
  · rintro En u ⟨z, n, hz, rfl, hn, rfl⟩ H1 locs1 ls q ce rl hS hl c1 c2 c3
    have hc := hcd z hz
    rw [hc] at c3
    refine p_catch (k := 1) (f := 0) (t := 10) (hp := 13) (ct := 19) (v := 2) (i := 4) (pre := []) (pk := []) X hgn hex rfl (by decide) rfl  (fun _ h9 => absurd h9 List.not_mem_nil) (by decide) (by decide) (by decide) tw_1149 cst_1 (Or.inr ⟨rfl, (dcg dc_L_together 9 rfl)⟩) (by decide) rl hS hl c1 c2 c3 ?_
    refine p_iconst (v := 1) X (dcg dc_L_together 10 rfl) (by decide) ?_
    exact p_iret X rfl (dcg dc_L_together 11 rfl) (Or.inr ⟨z, n, hz, hn, rfl, ⟨hc, rfl⟩⟩) (Nat.le_of_eq (Nat.zero_add _)) (Nat.le_of_eq (Nat.zero_add _))
  · rintro _ _ ⟨z, hz, rfl, rfl⟩
    refine p_i2l X (dcg dc_L_together 6 rfl) ?_
    refine p_last X (dcg dc_L_together 7 rfl) (hko z hz).1 (vp_of_inb ⟨by decide, (hko z hz).2⟩) ?_
    refine p_goto (tgt := 17) X (dcg dc_L_together 8 rfl) (by decide) ?_
    refine p_iconst (v := 0) X (dcg dc_L_together 12 rfl) (by decide) ?_
    exact p_iret X rfl (dcg dc_L_together 13 rfl) (Or.inl ⟨z, hz, rfl, rfl⟩) (Nat.le_of_eq (Nat.zero_add _)) (Nat.le_of_eq (Nat.zero_add _))
theorem dc_L_companion : decs cL_companion [(0, .aload_n 2, 1), (1, .iconst 0, 1), (2, .aload_n 0, 1), (3, .iload_n 1, 1), (4, .invokevirtual 94, 3), (7, .i2l, 1), (8, .lastore, 1), (9, .goto 6, 3), (12, .astore_n 3, 1), (13, .iconst 1, 1), (14, .ireturn, 1), (15, .iconst 0, 1), (16, .ireturn, 1)] = true := by decide +kernel
set_option maxRecDepth 100000 in
theorem wL_companion {E : PE} {l : Launch} (hG : Gs E l) (hgn : Gn E) {v0 : Nat} {v1 : Int32} {vo : Nat} {h : PH} {r : ((Int32 × PH) ⊕ (Nat × PH))} (hf : fX11_companion v0 v1 h = some r) (hk : hK h v0 = 11) (hko : ∀ z, r = .inl z → hK z.2 vo = 23 ∧ 0 < hN z.2 vo) (hcd : ∀ z, r = .inr z → z.1 = 1) : CtH E l 10 (xT2 r - hX h) (vT2 r - hV h) yL_companion cL_companion 4 (some .int) [(0, 9, 12, 19)] [.ref v0, .int v1, .ref vo] h (fun v u => (∃ z : Int32 × PH, r = .inl z ∧ v = some (.int 0) ∧ u = sL z.2 23 vo (Int32.toNatClampNeg 0) (Int32.toInt64 z.1)) ∨ (∃ (z : Nat × PH) (n : Nat), r = .inr z ∧ hX z.2 ≤ n ∧ u = hbump z.2 n ∧ ((z.1 = 1 ∧ v = some (.int 1))))) := by
  refine cth_of hG (by decide) (Nat.le_of_ble_eq_true rfl) ?_
  intro p e s m args below meth c X hex
  show PW E p l e _ s m args below meth c _ 0 0 _ h 0 [(0, some (.ref v0)), (1, some (.int v1)), (2, some (.ref vo))] []
  refine p_aload_n X (dcg dc_L_companion 0 rfl) rfl rfl ?_
  refine p_iconst (v := 0) X (dcg dc_L_companion 1 rfl) (by decide) ?_
  refine p_aload_n X (dcg dc_L_companion 2 rfl) rfl rfl ?_
  refine p_iload_n X (dcg dc_L_companion 3 rfl) rfl rfl ?_
  refine p_callVC (As := [_]) X ml_L_94 (dcg dc_L_companion 4 rfl) rfl rfl hk (wX11_companion hG hf) (by decide) (room4 (Nat.le_of_ble_eq_true rfl)) (Nat.le_of_eq (Nat.zero_add _)) (Nat.le_of_eq (Nat.zero_add _)) ?_ ?_
  · rintro En u ⟨z, n, hz, rfl, hn, rfl⟩ H1 locs1 ls q ce rl hS hl c1 c2 c3
    have hc := hcd z hz
    rw [hc] at c3
    refine p_catch (k := 1) (f := 0) (t := 9) (hp := 12) (ct := 19) (v := 1) (i := 3) (pre := []) (pk := []) X hgn hex rfl (by decide) rfl  (fun _ h9 => absurd h9 List.not_mem_nil) (by decide) (by decide) (by decide) tw_1149 cst_1 (Or.inl ⟨3, rfl, rfl, (dcg dc_L_companion 8 rfl)⟩) (by decide) rl hS hl c1 c2 c3 ?_
    refine p_iconst (v := 1) X (dcg dc_L_companion 9 rfl) (by decide) ?_
    exact p_iret X rfl (dcg dc_L_companion 10 rfl) (Or.inr ⟨z, n, hz, hn, rfl, ⟨hc, rfl⟩⟩) (Nat.le_of_eq (Nat.zero_add _)) (Nat.le_of_eq (Nat.zero_add _))
  · rintro _ _ ⟨z, hz, rfl, rfl⟩
    refine p_i2l X (dcg dc_L_companion 5 rfl) ?_
    refine p_last X (dcg dc_L_companion 6 rfl) (hko z hz).1 (vp_of_inb ⟨by decide, (hko z hz).2⟩) ?_
    refine p_goto (tgt := 15) X (dcg dc_L_companion 7 rfl) (by decide) ?_
    refine p_iconst (v := 0) X (dcg dc_L_companion 11 rfl) (by decide) ?_
    exact p_iret X rfl (dcg dc_L_companion 12 rfl) (Or.inl ⟨z, hz, rfl, rfl⟩) (Nat.le_of_eq (Nat.zero_add _)) (Nat.le_of_eq (Nat.zero_add _))
theorem dc_L_neighbours : decs cL_neighbours [(0, .aload_n 2, 1), (1, .iconst 0, 1), (2, .aload_n 0, 1), (3, .iload_n 1, 1), (4, .invokevirtual 97, 3), (7, .i2l, 1), (8, .lastore, 1), (9, .goto 6, 3), (12, .astore_n 3, 1), (13, .iconst 1, 1), (14, .ireturn, 1), (15, .iconst 0, 1), (16, .ireturn, 1)] = true := by decide +kernel
set_option maxRecDepth 100000 in
theorem wL_neighbours {E : PE} {l : Launch} (hG : Gs E l) (hgn : Gn E) {v0 : Nat} {v1 : Int32} {vo : Nat} {h : PH} {r : ((Int32 × PH) ⊕ (Nat × PH))} (hf : fX11_neighbours v0 v1 h = some r) (hk : hK h v0 = 11) (hko : ∀ z, r = .inl z → hK z.2 vo = 23 ∧ 0 < hN z.2 vo) (hcd : ∀ z, r = .inr z → z.1 = 1) : CtH E l 10 (xT2 r - hX h) (vT2 r - hV h) yL_neighbours cL_neighbours 4 (some .int) [(0, 9, 12, 19)] [.ref v0, .int v1, .ref vo] h (fun v u => (∃ z : Int32 × PH, r = .inl z ∧ v = some (.int 0) ∧ u = sL z.2 23 vo (Int32.toNatClampNeg 0) (Int32.toInt64 z.1)) ∨ (∃ (z : Nat × PH) (n : Nat), r = .inr z ∧ hX z.2 ≤ n ∧ u = hbump z.2 n ∧ ((z.1 = 1 ∧ v = some (.int 1))))) := by
  refine cth_of hG (by decide) (Nat.le_of_ble_eq_true rfl) ?_
  intro p e s m args below meth c X hex
  show PW E p l e _ s m args below meth c _ 0 0 _ h 0 [(0, some (.ref v0)), (1, some (.int v1)), (2, some (.ref vo))] []
  refine p_aload_n X (dcg dc_L_neighbours 0 rfl) rfl rfl ?_
  refine p_iconst (v := 0) X (dcg dc_L_neighbours 1 rfl) (by decide) ?_
  refine p_aload_n X (dcg dc_L_neighbours 2 rfl) rfl rfl ?_
  refine p_iload_n X (dcg dc_L_neighbours 3 rfl) rfl rfl ?_
  refine p_callVC (As := [_]) X ml_L_97 (dcg dc_L_neighbours 4 rfl) rfl rfl hk (wX11_neighbours hG hf) (by decide) (room4 (Nat.le_of_ble_eq_true rfl)) (Nat.le_of_eq (Nat.zero_add _)) (Nat.le_of_eq (Nat.zero_add _)) ?_ ?_
  · rintro En u ⟨z, n, hz, rfl, hn, rfl⟩ H1 locs1 ls q ce rl hS hl c1 c2 c3
    have hc := hcd z hz
    rw [hc] at c3
    refine p_catch (k := 1) (f := 0) (t := 9) (hp := 12) (ct := 19) (v := 1) (i := 3) (pre := []) (pk := []) X hgn hex rfl (by decide) rfl  (fun _ h9 => absurd h9 List.not_mem_nil) (by decide) (by decide) (by decide) tw_1149 cst_1 (Or.inl ⟨3, rfl, rfl, (dcg dc_L_neighbours 8 rfl)⟩) (by decide) rl hS hl c1 c2 c3 ?_
    refine p_iconst (v := 1) X (dcg dc_L_neighbours 9 rfl) (by decide) ?_
    exact p_iret X rfl (dcg dc_L_neighbours 10 rfl) (Or.inr ⟨z, n, hz, hn, rfl, ⟨hc, rfl⟩⟩) (Nat.le_of_eq (Nat.zero_add _)) (Nat.le_of_eq (Nat.zero_add _))
  · rintro _ _ ⟨z, hz, rfl, rfl⟩
    refine p_i2l X (dcg dc_L_neighbours 5 rfl) ?_
    refine p_last X (dcg dc_L_neighbours 6 rfl) (hko z hz).1 (vp_of_inb ⟨by decide, (hko z hz).2⟩) ?_
    refine p_goto (tgt := 15) X (dcg dc_L_neighbours 7 rfl) (by decide) ?_
    refine p_iconst (v := 0) X (dcg dc_L_neighbours 11 rfl) (by decide) ?_
    exact p_iret X rfl (dcg dc_L_neighbours 12 rfl) (Or.inl ⟨z, hz, rfl, rfl⟩) (Nat.le_of_eq (Nat.zero_add _)) (Nat.le_of_eq (Nat.zero_add _))
theorem dc_L_neighbourAt : decs cL_neighbourAt [(0, .aload_n 3, 1), (1, .iconst 0, 1), (2, .aload_n 0, 1), (3, .iload_n 1, 1), (4, .iload_n 2, 1), (5, .invokevirtual 100, 3), (8, .i2l, 1), (9, .lastore, 1), (10, .goto 7, 3), (13, .astore 4, 2), (15, .iconst 1, 1), (16, .ireturn, 1), (17, .iconst 0, 1), (18, .ireturn, 1)] = true := by decide +kernel
set_option maxRecDepth 100000 in
theorem wL_neighbourAt {E : PE} {l : Launch} (hG : Gs E l) (hgn : Gn E) {v0 : Nat} {v1 : Int32} {v2 : Int32} {vo : Nat} {h : PH} {r : ((Int32 × PH) ⊕ (Nat × PH))} (hf : fX11_neighbourAt v0 v1 v2 h = some r) (hk : hK h v0 = 11) (hko : ∀ z, r = .inl z → hK z.2 vo = 23 ∧ 0 < hN z.2 vo) (hcd : ∀ z, r = .inr z → z.1 = 1) : CtH E l 10 (xT2 r - hX h) (vT2 r - hV h) yL_neighbourAt cL_neighbourAt 5 (some .int) [(0, 10, 13, 19)] [.ref v0, .int v1, .int v2, .ref vo] h (fun v u => (∃ z : Int32 × PH, r = .inl z ∧ v = some (.int 0) ∧ u = sL z.2 23 vo (Int32.toNatClampNeg 0) (Int32.toInt64 z.1)) ∨ (∃ (z : Nat × PH) (n : Nat), r = .inr z ∧ hX z.2 ≤ n ∧ u = hbump z.2 n ∧ ((z.1 = 1 ∧ v = some (.int 1))))) := by
  refine cth_of hG (by decide) (Nat.le_of_ble_eq_true rfl) ?_
  intro p e s m args below meth c X hex
  show PW E p l e _ s m args below meth c _ 0 0 _ h 0 [(0, some (.ref v0)), (1, some (.int v1)), (2, some (.int v2)), (3, some (.ref vo))] []
  refine p_aload_n X (dcg dc_L_neighbourAt 0 rfl) rfl rfl ?_
  refine p_iconst (v := 0) X (dcg dc_L_neighbourAt 1 rfl) (by decide) ?_
  refine p_aload_n X (dcg dc_L_neighbourAt 2 rfl) rfl rfl ?_
  refine p_iload_n X (dcg dc_L_neighbourAt 3 rfl) rfl rfl ?_
  refine p_iload_n X (dcg dc_L_neighbourAt 4 rfl) rfl rfl ?_
  refine p_callVC (As := [_, _]) X ml_L_100 (dcg dc_L_neighbourAt 5 rfl) rfl rfl hk (wX11_neighbourAt hG hf) (by decide) (room4 (Nat.le_of_ble_eq_true rfl)) (Nat.le_of_eq (Nat.zero_add _)) (Nat.le_of_eq (Nat.zero_add _)) ?_ ?_
  · rintro En u ⟨z, n, hz, rfl, hn, rfl⟩ H1 locs1 ls q ce rl hS hl c1 c2 c3
    have hc := hcd z hz
    rw [hc] at c3
    refine p_catch (k := 1) (f := 0) (t := 10) (hp := 13) (ct := 19) (v := 2) (i := 4) (pre := []) (pk := []) X hgn hex rfl (by decide) rfl  (fun _ h9 => absurd h9 List.not_mem_nil) (by decide) (by decide) (by decide) tw_1149 cst_1 (Or.inr ⟨rfl, (dcg dc_L_neighbourAt 9 rfl)⟩) (by decide) rl hS hl c1 c2 c3 ?_
    refine p_iconst (v := 1) X (dcg dc_L_neighbourAt 10 rfl) (by decide) ?_
    exact p_iret X rfl (dcg dc_L_neighbourAt 11 rfl) (Or.inr ⟨z, n, hz, hn, rfl, ⟨hc, rfl⟩⟩) (Nat.le_of_eq (Nat.zero_add _)) (Nat.le_of_eq (Nat.zero_add _))
  · rintro _ _ ⟨z, hz, rfl, rfl⟩
    refine p_i2l X (dcg dc_L_neighbourAt 6 rfl) ?_
    refine p_last X (dcg dc_L_neighbourAt 7 rfl) (hko z hz).1 (vp_of_inb ⟨by decide, (hko z hz).2⟩) ?_
    refine p_goto (tgt := 17) X (dcg dc_L_neighbourAt 8 rfl) (by decide) ?_
    refine p_iconst (v := 0) X (dcg dc_L_neighbourAt 12 rfl) (by decide) ?_
    exact p_iret X rfl (dcg dc_L_neighbourAt 13 rfl) (Or.inl ⟨z, hz, rfl, rfl⟩) (Nat.le_of_eq (Nat.zero_add _)) (Nat.le_of_eq (Nat.zero_add _))
theorem dc_L_ask : decs cL_ask [(0, .aload_n 1, 1), (1, .iconst 0, 1), (2, .aload_n 0, 1), (3, .invokevirtual 103, 3), (6, .i2l, 1), (7, .lastore, 1), (8, .goto 6, 3), (11, .astore_n 2, 1), (12, .iconst 1, 1), (13, .ireturn, 1), (14, .iconst 0, 1), (15, .ireturn, 1)] = true := by decide +kernel
set_option maxRecDepth 100000 in
theorem wL_ask {E : PE} {l : Launch} (hG : Gs E l) (hgn : Gn E) {v0 : Nat} {vo : Nat} {h : PH} {r : ((Int32 × PH) ⊕ (Nat × PH))} (hf : fX11_ask v0 h = some r) (hk : hK h v0 = 11) (hko : ∀ z, r = .inl z → hK z.2 vo = 23 ∧ 0 < hN z.2 vo) (hcd : ∀ z, r = .inr z → z.1 = 1) : CtH E l 141 (xT2 r - hX h) (vT2 r - hV h) yL_ask cL_ask 3 (some .int) [(0, 8, 11, 19)] [.ref v0, .ref vo] h (fun v u => (∃ z : Int32 × PH, r = .inl z ∧ v = some (.int 0) ∧ u = sL z.2 23 vo (Int32.toNatClampNeg 0) (Int32.toInt64 z.1)) ∨ (∃ (z : Nat × PH) (n : Nat), r = .inr z ∧ hX z.2 ≤ n ∧ u = hbump z.2 n ∧ ((z.1 = 1 ∧ v = some (.int 1))))) := by
  refine cth_of hG (by decide) (Nat.le_of_ble_eq_true rfl) ?_
  intro p e s m args below meth c X hex
  show PW E p l e _ s m args below meth c _ 0 0 _ h 0 [(0, some (.ref v0)), (1, some (.ref vo))] []
  refine p_aload_n X (dcg dc_L_ask 0 rfl) rfl rfl ?_
  refine p_iconst (v := 0) X (dcg dc_L_ask 1 rfl) (by decide) ?_
  refine p_aload_n X (dcg dc_L_ask 2 rfl) rfl rfl ?_
  refine p_callVC (As := []) X ml_L_103 (dcg dc_L_ask 3 rfl) rfl rfl hk (wX11_ask hG hf) (by decide) (room4 (Nat.le_of_ble_eq_true rfl)) (Nat.le_of_eq (Nat.zero_add _)) (Nat.le_of_eq (Nat.zero_add _)) ?_ ?_
  · rintro En u ⟨z, n, hz, rfl, hn, rfl⟩ H1 locs1 ls q ce rl hS hl c1 c2 c3
    have hc := hcd z hz
    rw [hc] at c3
    refine p_catch (k := 1) (f := 0) (t := 8) (hp := 11) (ct := 19) (v := 1) (i := 2) (pre := []) (pk := []) X hgn hex rfl (by decide) rfl  (fun _ h9 => absurd h9 List.not_mem_nil) (by decide) (by decide) (by decide) tw_1149 cst_1 (Or.inl ⟨2, rfl, rfl, (dcg dc_L_ask 7 rfl)⟩) (by decide) rl hS hl c1 c2 c3 ?_
    refine p_iconst (v := 1) X (dcg dc_L_ask 8 rfl) (by decide) ?_
    exact p_iret X rfl (dcg dc_L_ask 9 rfl) (Or.inr ⟨z, n, hz, hn, rfl, ⟨hc, rfl⟩⟩) (Nat.le_of_eq (Nat.zero_add _)) (Nat.le_of_eq (Nat.zero_add _))
  · rintro _ _ ⟨z, hz, rfl, rfl⟩
    refine p_i2l X (dcg dc_L_ask 4 rfl) ?_
    refine p_last X (dcg dc_L_ask 5 rfl) (hko z hz).1 (vp_of_inb ⟨by decide, (hko z hz).2⟩) ?_
    refine p_goto (tgt := 14) X (dcg dc_L_ask 6 rfl) (by decide) ?_
    refine p_iconst (v := 0) X (dcg dc_L_ask 10 rfl) (by decide) ?_
    exact p_iret X rfl (dcg dc_L_ask 11 rfl) (Or.inl ⟨z, hz, rfl, rfl⟩) (Nat.le_of_eq (Nat.zero_add _)) (Nat.le_of_eq (Nat.zero_add _))
theorem dc_L_askKept : decs cL_askKept [(0, .aload_n 2, 1), (1, .iconst 0, 1), (2, .aload_n 0, 1), (3, .iload_n 1, 1), (4, .invokevirtual 106, 3), (7, .i2l, 1), (8, .lastore, 1), (9, .goto 9, 3), (12, .astore_n 3, 1), (13, .iconst 1, 1), (14, .ireturn, 1), (15, .astore_n 3, 1), (16, .iconst 2, 1), (17, .ireturn, 1), (18, .iconst 0, 1), (19, .ireturn, 1)] = true := by decide +kernel
set_option maxRecDepth 100000 in
theorem wL_askKept {E : PE} {l : Launch} (hG : Gs E l) (hgn : Gn E) {v0 : Nat} {v1 : Int32} {vo : Nat} {h : PH} {r : ((Int32 × PH) ⊕ (Nat × PH))} (hf : fX11_askKept v0 v1 h = some r) (hk : hK h v0 = 11) (hko : ∀ z, r = .inl z → hK z.2 vo = 23 ∧ 0 < hN z.2 vo) (hcd : ∀ z, r = .inr z → z.1 = 1 ∨ z.1 = 3) : CtH E l 50 (xT2 r - hX h) (vT2 r - hV h) yL_askKept cL_askKept 4 (some .int) [(0, 9, 12, 19), (0, 9, 15, 57)] [.ref v0, .int v1, .ref vo] h (fun v u => (∃ z : Int32 × PH, r = .inl z ∧ v = some (.int 0) ∧ u = sL z.2 23 vo (Int32.toNatClampNeg 0) (Int32.toInt64 z.1)) ∨ (∃ (z : Nat × PH) (n : Nat), r = .inr z ∧ hX z.2 ≤ n ∧ u = hbump z.2 n ∧ ((z.1 = 1 ∧ v = some (.int 1)) ∨ (z.1 = 3 ∧ v = some (.int 2))))) := by
  refine cth_of hG (by decide) (Nat.le_of_ble_eq_true rfl) ?_
  intro p e s m args below meth c X hex
  show PW E p l e _ s m args below meth c _ 0 0 _ h 0 [(0, some (.ref v0)), (1, some (.int v1)), (2, some (.ref vo))] []
  refine p_aload_n X (dcg dc_L_askKept 0 rfl) rfl rfl ?_
  refine p_iconst (v := 0) X (dcg dc_L_askKept 1 rfl) (by decide) ?_
  refine p_aload_n X (dcg dc_L_askKept 2 rfl) rfl rfl ?_
  refine p_iload_n X (dcg dc_L_askKept 3 rfl) rfl rfl ?_
  refine p_callVC (As := [_]) X ml_L_106 (dcg dc_L_askKept 4 rfl) rfl rfl hk (wX11_askKept hG hf) (by decide) (room4 (Nat.le_of_ble_eq_true rfl)) (Nat.le_of_eq (Nat.zero_add _)) (Nat.le_of_eq (Nat.zero_add _)) ?_ ?_
  · rintro En u ⟨z, n, hz, rfl, hn, rfl⟩ H1 locs1 ls q ce rl hS hl c1 c2 c3
    rcases hcd z hz with hc | hc
    · rw [hc] at c3
      refine p_catch (k := 1) (f := 0) (t := 9) (hp := 12) (ct := 19) (v := 1) (i := 3) (pre := []) (pk := []) X hgn hex rfl (by decide) rfl  (fun _ h9 => absurd h9 List.not_mem_nil) (by decide) (by decide) (by decide) tw_1149 cst_1 (Or.inl ⟨3, rfl, rfl, (dcg dc_L_askKept 8 rfl)⟩) (by decide) rl hS hl c1 c2 c3 ?_
      refine p_iconst (v := 1) X (dcg dc_L_askKept 9 rfl) (by decide) ?_
      exact p_iret X rfl (dcg dc_L_askKept 10 rfl) (Or.inr ⟨z, n, hz, hn, rfl, Or.inl ⟨hc, rfl⟩⟩) (Nat.le_of_eq (Nat.zero_add _)) (Nat.le_of_eq (Nat.zero_add _))
    · rw [hc] at c3
      refine p_catch (k := 3) (f := 0) (t := 9) (hp := 15) (ct := 57) (v := 1) (i := 3) (pre := [(0, 9, 12, 19)]) (pk := [1]) X hgn hex rfl (by decide) rfl (List.forall_mem_cons.mpr ⟨⟨by decide, by decide, by decide, tw_1149⟩, (fun _ h9 => absurd h9 List.not_mem_nil)⟩) (by decide) (by decide) (by decide) tw_1302 cst_3 (Or.inl ⟨3, rfl, rfl, (dcg dc_L_askKept 11 rfl)⟩) (by decide) rl hS hl c1 c2 c3 ?_
      refine p_iconst (v := 2) X (dcg dc_L_askKept 12 rfl) (by decide) ?_
      exact p_iret X rfl (dcg dc_L_askKept 13 rfl) (Or.inr ⟨z, n, hz, hn, rfl, Or.inr (⟨hc, rfl⟩)⟩) (Nat.le_of_eq (Nat.zero_add _)) (Nat.le_of_eq (Nat.zero_add _))
  · rintro _ _ ⟨z, hz, rfl, rfl⟩
    refine p_i2l X (dcg dc_L_askKept 5 rfl) ?_
    refine p_last X (dcg dc_L_askKept 6 rfl) (hko z hz).1 (vp_of_inb ⟨by decide, (hko z hz).2⟩) ?_
    refine p_goto (tgt := 18) X (dcg dc_L_askKept 7 rfl) (by decide) ?_
    refine p_iconst (v := 0) X (dcg dc_L_askKept 14 rfl) (by decide) ?_
    exact p_iret X rfl (dcg dc_L_askKept 15 rfl) (Or.inl ⟨z, hz, rfl, rfl⟩) (Nat.le_of_eq (Nat.zero_add _)) (Nat.le_of_eq (Nat.zero_add _))
theorem dc_L_keep : decs cL_keep [(0, .aload_n 2, 1), (1, .iconst 0, 1), (2, .aload_n 0, 1), (3, .iload_n 1, 1), (4, .invokevirtual 109, 3), (7, .i2l, 1), (8, .lastore, 1), (9, .goto 6, 3), (12, .astore_n 3, 1), (13, .iconst 1, 1), (14, .ireturn, 1), (15, .iconst 0, 1), (16, .ireturn, 1)] = true := by decide +kernel
set_option maxRecDepth 100000 in
theorem wL_keep {E : PE} {l : Launch} (hG : Gs E l) (hgn : Gn E) {v0 : Nat} {v1 : Int32} {vo : Nat} {h : PH} {r : ((Int32 × PH) ⊕ (Nat × PH))} (hf : fX11_keep v0 v1 h = some r) (hk : hK h v0 = 11) (hko : ∀ z, r = .inl z → hK z.2 vo = 23 ∧ 0 < hN z.2 vo) (hcd : ∀ z, r = .inr z → z.1 = 1) : CtH E l 141 (xT2 r - hX h) (vT2 r - hV h) yL_keep cL_keep 4 (some .int) [(0, 9, 12, 19)] [.ref v0, .int v1, .ref vo] h (fun v u => (∃ z : Int32 × PH, r = .inl z ∧ v = some (.int 0) ∧ u = sL z.2 23 vo (Int32.toNatClampNeg 0) (Int32.toInt64 z.1)) ∨ (∃ (z : Nat × PH) (n : Nat), r = .inr z ∧ hX z.2 ≤ n ∧ u = hbump z.2 n ∧ ((z.1 = 1 ∧ v = some (.int 1))))) := by
  refine cth_of hG (by decide) (Nat.le_of_ble_eq_true rfl) ?_
  intro p e s m args below meth c X hex
  show PW E p l e _ s m args below meth c _ 0 0 _ h 0 [(0, some (.ref v0)), (1, some (.int v1)), (2, some (.ref vo))] []
  refine p_aload_n X (dcg dc_L_keep 0 rfl) rfl rfl ?_
  refine p_iconst (v := 0) X (dcg dc_L_keep 1 rfl) (by decide) ?_
  refine p_aload_n X (dcg dc_L_keep 2 rfl) rfl rfl ?_
  refine p_iload_n X (dcg dc_L_keep 3 rfl) rfl rfl ?_
  refine p_callVC (As := [_]) X ml_L_109 (dcg dc_L_keep 4 rfl) rfl rfl hk (wX11_keep hG hf) (by decide) (room4 (Nat.le_of_ble_eq_true rfl)) (Nat.le_of_eq (Nat.zero_add _)) (Nat.le_of_eq (Nat.zero_add _)) ?_ ?_
  · rintro En u ⟨z, n, hz, rfl, hn, rfl⟩ H1 locs1 ls q ce rl hS hl c1 c2 c3
    have hc := hcd z hz
    rw [hc] at c3
    refine p_catch (k := 1) (f := 0) (t := 9) (hp := 12) (ct := 19) (v := 1) (i := 3) (pre := []) (pk := []) X hgn hex rfl (by decide) rfl  (fun _ h9 => absurd h9 List.not_mem_nil) (by decide) (by decide) (by decide) tw_1149 cst_1 (Or.inl ⟨3, rfl, rfl, (dcg dc_L_keep 8 rfl)⟩) (by decide) rl hS hl c1 c2 c3 ?_
    refine p_iconst (v := 1) X (dcg dc_L_keep 9 rfl) (by decide) ?_
    exact p_iret X rfl (dcg dc_L_keep 10 rfl) (Or.inr ⟨z, n, hz, hn, rfl, ⟨hc, rfl⟩⟩) (Nat.le_of_eq (Nat.zero_add _)) (Nat.le_of_eq (Nat.zero_add _))
  · rintro _ _ ⟨z, hz, rfl, rfl⟩
    refine p_i2l X (dcg dc_L_keep 5 rfl) ?_
    refine p_last X (dcg dc_L_keep 6 rfl) (hko z hz).1 (vp_of_inb ⟨by decide, (hko z hz).2⟩) ?_
    refine p_goto (tgt := 15) X (dcg dc_L_keep 7 rfl) (by decide) ?_
    refine p_iconst (v := 0) X (dcg dc_L_keep 11 rfl) (by decide) ?_
    exact p_iret X rfl (dcg dc_L_keep 12 rfl) (Or.inl ⟨z, hz, rfl, rfl⟩) (Nat.le_of_eq (Nat.zero_add _)) (Nat.le_of_eq (Nat.zero_add _))
theorem dc_L_keepNot : decs cL_keepNot [(0, .aload_n 3, 1), (1, .iconst 0, 1), (2, .aload_n 0, 1), (3, .iload_n 1, 1), (4, .iload_n 2, 1), (5, .invokevirtual 112, 3), (8, .i2l, 1), (9, .lastore, 1), (10, .goto 11, 3), (13, .astore 4, 2), (15, .iconst 1, 1), (16, .ireturn, 1), (17, .astore 4, 2), (19, .iconst 2, 1), (20, .ireturn, 1), (21, .iconst 0, 1), (22, .ireturn, 1)] = true := by decide +kernel
set_option maxRecDepth 100000 in
theorem wL_keepNot {E : PE} {l : Launch} (hG : Gs E l) (hgn : Gn E) {v0 : Nat} {v1 : Int32} {v2 : Int32} {vo : Nat} {h : PH} {r : ((Int32 × PH) ⊕ (Nat × PH))} (hf : fX11_keepNot v0 v1 v2 h = some r) (hk : hK h v0 = 11) (hko : ∀ z, r = .inl z → hK z.2 vo = 23 ∧ 0 < hN z.2 vo) (hcd : ∀ z, r = .inr z → z.1 = 1 ∨ z.1 = 3) : CtH E l 54 (xT2 r - hX h) (vT2 r - hV h) yL_keepNot cL_keepNot 5 (some .int) [(0, 10, 13, 19), (0, 10, 17, 57)] [.ref v0, .int v1, .int v2, .ref vo] h (fun v u => (∃ z : Int32 × PH, r = .inl z ∧ v = some (.int 0) ∧ u = sL z.2 23 vo (Int32.toNatClampNeg 0) (Int32.toInt64 z.1)) ∨ (∃ (z : Nat × PH) (n : Nat), r = .inr z ∧ hX z.2 ≤ n ∧ u = hbump z.2 n ∧ ((z.1 = 1 ∧ v = some (.int 1)) ∨ (z.1 = 3 ∧ v = some (.int 2))))) := by
  refine cth_of hG (by decide) (Nat.le_of_ble_eq_true rfl) ?_
  intro p e s m args below meth c X hex
  show PW E p l e _ s m args below meth c _ 0 0 _ h 0 [(0, some (.ref v0)), (1, some (.int v1)), (2, some (.int v2)), (3, some (.ref vo))] []
  refine p_aload_n X (dcg dc_L_keepNot 0 rfl) rfl rfl ?_
  refine p_iconst (v := 0) X (dcg dc_L_keepNot 1 rfl) (by decide) ?_
  refine p_aload_n X (dcg dc_L_keepNot 2 rfl) rfl rfl ?_
  refine p_iload_n X (dcg dc_L_keepNot 3 rfl) rfl rfl ?_
  refine p_iload_n X (dcg dc_L_keepNot 4 rfl) rfl rfl ?_
  refine p_callVC (As := [_, _]) X ml_L_112 (dcg dc_L_keepNot 5 rfl) rfl rfl hk (wX11_keepNot hG hf) (by decide) (room4 (Nat.le_of_ble_eq_true rfl)) (Nat.le_of_eq (Nat.zero_add _)) (Nat.le_of_eq (Nat.zero_add _)) ?_ ?_
  · rintro En u ⟨z, n, hz, rfl, hn, rfl⟩ H1 locs1 ls q ce rl hS hl c1 c2 c3
    rcases hcd z hz with hc | hc
    · rw [hc] at c3
      refine p_catch (k := 1) (f := 0) (t := 10) (hp := 13) (ct := 19) (v := 2) (i := 4) (pre := []) (pk := []) X hgn hex rfl (by decide) rfl  (fun _ h9 => absurd h9 List.not_mem_nil) (by decide) (by decide) (by decide) tw_1149 cst_1 (Or.inr ⟨rfl, (dcg dc_L_keepNot 9 rfl)⟩) (by decide) rl hS hl c1 c2 c3 ?_
      refine p_iconst (v := 1) X (dcg dc_L_keepNot 10 rfl) (by decide) ?_
      exact p_iret X rfl (dcg dc_L_keepNot 11 rfl) (Or.inr ⟨z, n, hz, hn, rfl, Or.inl ⟨hc, rfl⟩⟩) (Nat.le_of_eq (Nat.zero_add _)) (Nat.le_of_eq (Nat.zero_add _))
    · rw [hc] at c3
      refine p_catch (k := 3) (f := 0) (t := 10) (hp := 17) (ct := 57) (v := 2) (i := 4) (pre := [(0, 10, 13, 19)]) (pk := [1]) X hgn hex rfl (by decide) rfl (List.forall_mem_cons.mpr ⟨⟨by decide, by decide, by decide, tw_1149⟩, (fun _ h9 => absurd h9 List.not_mem_nil)⟩) (by decide) (by decide) (by decide) tw_1302 cst_3 (Or.inr ⟨rfl, (dcg dc_L_keepNot 12 rfl)⟩) (by decide) rl hS hl c1 c2 c3 ?_
      refine p_iconst (v := 2) X (dcg dc_L_keepNot 13 rfl) (by decide) ?_
      exact p_iret X rfl (dcg dc_L_keepNot 14 rfl) (Or.inr ⟨z, n, hz, hn, rfl, Or.inr (⟨hc, rfl⟩)⟩) (Nat.le_of_eq (Nat.zero_add _)) (Nat.le_of_eq (Nat.zero_add _))
  · rintro _ _ ⟨z, hz, rfl, rfl⟩
    refine p_i2l X (dcg dc_L_keepNot 6 rfl) ?_
    refine p_last X (dcg dc_L_keepNot 7 rfl) (hko z hz).1 (vp_of_inb ⟨by decide, (hko z hz).2⟩) ?_
    refine p_goto (tgt := 21) X (dcg dc_L_keepNot 8 rfl) (by decide) ?_
    refine p_iconst (v := 0) X (dcg dc_L_keepNot 15 rfl) (by decide) ?_
    exact p_iret X rfl (dcg dc_L_keepNot 16 rfl) (Or.inl ⟨z, hz, rfl, rfl⟩) (Nat.le_of_eq (Nat.zero_add _)) (Nat.le_of_eq (Nat.zero_add _))
theorem dc_L_drop : decs cL_drop [(0, .aload_n 2, 1), (1, .iconst 0, 1), (2, .aload_n 0, 1), (3, .iload_n 1, 1), (4, .invokevirtual 115, 3), (7, .ifCond .eq 7, 3), (10, .lconst 1, 1), (11, .goto 4, 3), (14, .lconst 0, 1), (15, .lastore, 1), (16, .goto 6, 3), (19, .astore_n 3, 1), (20, .iconst 1, 1), (21, .ireturn, 1), (22, .iconst 0, 1), (23, .ireturn, 1)] = true := by decide +kernel
set_option maxRecDepth 100000 in
theorem wL_drop {E : PE} {l : Launch} (hG : Gs E l) (hgn : Gn E) {v0 : Nat} {v1 : Int32} {vo : Nat} {h : PH} {r : ((Int32 × PH) ⊕ (Nat × PH))} (hf : fX11_drop v0 v1 h = some r) (hk : hK h v0 = 11) (hko : ∀ z, r = .inl z → hK z.2 vo = 23 ∧ 0 < hN z.2 vo) (hcd : ∀ z, r = .inr z → z.1 = 1) : CtH E l 10 (xT2 r - hX h) (vT2 r - hV h) yL_drop cL_drop 4 (some .int) [(0, 16, 19, 19)] [.ref v0, .int v1, .ref vo] h (fun v u => (∃ z : Int32 × PH, r = .inl z ∧ v = some (.int 0) ∧ u = sL z.2 23 vo (Int32.toNatClampNeg 0) (if z.1 = 0 then (0 : Int64) else 1)) ∨ (∃ (z : Nat × PH) (n : Nat), r = .inr z ∧ hX z.2 ≤ n ∧ u = hbump z.2 n ∧ ((z.1 = 1 ∧ v = some (.int 1))))) := by
  refine cth_of hG (by decide) (Nat.le_of_ble_eq_true rfl) ?_
  intro p e s m args below meth c X hex
  show PW E p l e _ s m args below meth c _ 0 0 _ h 0 [(0, some (.ref v0)), (1, some (.int v1)), (2, some (.ref vo))] []
  refine p_aload_n X (dcg dc_L_drop 0 rfl) rfl rfl ?_
  refine p_iconst (v := 0) X (dcg dc_L_drop 1 rfl) (by decide) ?_
  refine p_aload_n X (dcg dc_L_drop 2 rfl) rfl rfl ?_
  refine p_iload_n X (dcg dc_L_drop 3 rfl) rfl rfl ?_
  refine p_callVC (As := [_]) X ml_L_115 (dcg dc_L_drop 4 rfl) rfl rfl hk (wX11_drop hG hf) (by decide) (room4 (Nat.le_of_ble_eq_true rfl)) (Nat.le_of_eq (Nat.zero_add _)) (Nat.le_of_eq (Nat.zero_add _)) ?_ ?_
  · rintro En u ⟨z, n, hz, rfl, hn, rfl⟩ H1 locs1 ls q ce rl hS hl c1 c2 c3
    have hc := hcd z hz
    rw [hc] at c3
    refine p_catch (k := 1) (f := 0) (t := 16) (hp := 19) (ct := 19) (v := 1) (i := 3) (pre := []) (pk := []) X hgn hex rfl (by decide) rfl  (fun _ h9 => absurd h9 List.not_mem_nil) (by decide) (by decide) (by decide) tw_1149 cst_1 (Or.inl ⟨3, rfl, rfl, (dcg dc_L_drop 11 rfl)⟩) (by decide) rl hS hl c1 c2 c3 ?_
    refine p_iconst (v := 1) X (dcg dc_L_drop 12 rfl) (by decide) ?_
    exact p_iret X rfl (dcg dc_L_drop 13 rfl) (Or.inr ⟨z, n, hz, hn, rfl, ⟨hc, rfl⟩⟩) (Nat.le_of_eq (Nat.zero_add _)) (Nat.le_of_eq (Nat.zero_add _))
  · rintro _ _ ⟨z, hz, rfl, rfl⟩
    refine p_if_eq (tgt := 14) X (dcg dc_L_drop 5 rfl) (by decide) (fun q => ?_) (fun q => ?_)
    · refine p_lconst (v := 0) X (dcg dc_L_drop 8 rfl) (by decide) ?_
      refine p_last X (dcg dc_L_drop 9 rfl) (hko z hz).1 (vp_of_inb ⟨by decide, (hko z hz).2⟩) ?_
      refine p_goto (tgt := 22) X (dcg dc_L_drop 10 rfl) (by decide) ?_
      refine p_iconst (v := 0) X (dcg dc_L_drop 14 rfl) (by decide) ?_
      exact p_iret X rfl (dcg dc_L_drop 15 rfl) (Or.inl ⟨z, hz, rfl, by rw [if_pos q]⟩) (Nat.le_of_eq (Nat.zero_add _)) (Nat.le_of_eq (Nat.zero_add _))
    · refine p_lconst (v := 1) X (dcg dc_L_drop 6 rfl) (by decide) ?_
      refine p_goto (tgt := 15) X (dcg dc_L_drop 7 rfl) (by decide) ?_
      refine p_last X (dcg dc_L_drop 9 rfl) (hko z hz).1 (vp_of_inb ⟨by decide, (hko z hz).2⟩) ?_
      refine p_goto (tgt := 22) X (dcg dc_L_drop 10 rfl) (by decide) ?_
      refine p_iconst (v := 0) X (dcg dc_L_drop 14 rfl) (by decide) ?_
      exact p_iret X rfl (dcg dc_L_drop 15 rfl) (Or.inl ⟨z, hz, rfl, by rw [if_neg q]⟩) (Nat.le_of_eq (Nat.zero_add _)) (Nat.le_of_eq (Nat.zero_add _))
theorem dc_L_parts : decs cL_parts [(0, .aload_n 2, 1), (1, .iconst 0, 1), (2, .aload_n 0, 1), (3, .iload_n 1, 1), (4, .invokevirtual 119, 3), (7, .i2l, 1), (8, .lastore, 1), (9, .goto 9, 3), (12, .astore_n 3, 1), (13, .iconst 1, 1), (14, .ireturn, 1), (15, .astore_n 3, 1), (16, .iconst 2, 1), (17, .ireturn, 1), (18, .iconst 0, 1), (19, .ireturn, 1)] = true := by decide +kernel
set_option maxRecDepth 100000 in
theorem wL_parts {E : PE} {l : Launch} (hG : Gs E l) (hgn : Gn E) {v0 : Nat} {v1 : Int32} {vo : Nat} {h : PH} {r : ((Int32 × PH) ⊕ (Nat × PH))} (hf : fX11_parts v0 v1 h = some r) (hk : hK h v0 = 11) (hko : ∀ z, r = .inl z → hK z.2 vo = 23 ∧ 0 < hN z.2 vo) (hcd : ∀ z, r = .inr z → z.1 = 1 ∨ z.1 = 3) : CtH E l 54 (xT2 r - hX h) (vT2 r - hV h) yL_parts cL_parts 4 (some .int) [(0, 9, 12, 19), (0, 9, 15, 57)] [.ref v0, .int v1, .ref vo] h (fun v u => (∃ z : Int32 × PH, r = .inl z ∧ v = some (.int 0) ∧ u = sL z.2 23 vo (Int32.toNatClampNeg 0) (Int32.toInt64 z.1)) ∨ (∃ (z : Nat × PH) (n : Nat), r = .inr z ∧ hX z.2 ≤ n ∧ u = hbump z.2 n ∧ ((z.1 = 1 ∧ v = some (.int 1)) ∨ (z.1 = 3 ∧ v = some (.int 2))))) := by
  refine cth_of hG (by decide) (Nat.le_of_ble_eq_true rfl) ?_
  intro p e s m args below meth c X hex
  show PW E p l e _ s m args below meth c _ 0 0 _ h 0 [(0, some (.ref v0)), (1, some (.int v1)), (2, some (.ref vo))] []
  refine p_aload_n X (dcg dc_L_parts 0 rfl) rfl rfl ?_
  refine p_iconst (v := 0) X (dcg dc_L_parts 1 rfl) (by decide) ?_
  refine p_aload_n X (dcg dc_L_parts 2 rfl) rfl rfl ?_
  refine p_iload_n X (dcg dc_L_parts 3 rfl) rfl rfl ?_
  refine p_callVC (As := [_]) X ml_L_119 (dcg dc_L_parts 4 rfl) rfl rfl hk (wX11_parts hG hf) (by decide) (room4 (Nat.le_of_ble_eq_true rfl)) (Nat.le_of_eq (Nat.zero_add _)) (Nat.le_of_eq (Nat.zero_add _)) ?_ ?_
  · rintro En u ⟨z, n, hz, rfl, hn, rfl⟩ H1 locs1 ls q ce rl hS hl c1 c2 c3
    rcases hcd z hz with hc | hc
    · rw [hc] at c3
      refine p_catch (k := 1) (f := 0) (t := 9) (hp := 12) (ct := 19) (v := 1) (i := 3) (pre := []) (pk := []) X hgn hex rfl (by decide) rfl  (fun _ h9 => absurd h9 List.not_mem_nil) (by decide) (by decide) (by decide) tw_1149 cst_1 (Or.inl ⟨3, rfl, rfl, (dcg dc_L_parts 8 rfl)⟩) (by decide) rl hS hl c1 c2 c3 ?_
      refine p_iconst (v := 1) X (dcg dc_L_parts 9 rfl) (by decide) ?_
      exact p_iret X rfl (dcg dc_L_parts 10 rfl) (Or.inr ⟨z, n, hz, hn, rfl, Or.inl ⟨hc, rfl⟩⟩) (Nat.le_of_eq (Nat.zero_add _)) (Nat.le_of_eq (Nat.zero_add _))
    · rw [hc] at c3
      refine p_catch (k := 3) (f := 0) (t := 9) (hp := 15) (ct := 57) (v := 1) (i := 3) (pre := [(0, 9, 12, 19)]) (pk := [1]) X hgn hex rfl (by decide) rfl (List.forall_mem_cons.mpr ⟨⟨by decide, by decide, by decide, tw_1149⟩, (fun _ h9 => absurd h9 List.not_mem_nil)⟩) (by decide) (by decide) (by decide) tw_1302 cst_3 (Or.inl ⟨3, rfl, rfl, (dcg dc_L_parts 11 rfl)⟩) (by decide) rl hS hl c1 c2 c3 ?_
      refine p_iconst (v := 2) X (dcg dc_L_parts 12 rfl) (by decide) ?_
      exact p_iret X rfl (dcg dc_L_parts 13 rfl) (Or.inr ⟨z, n, hz, hn, rfl, Or.inr (⟨hc, rfl⟩)⟩) (Nat.le_of_eq (Nat.zero_add _)) (Nat.le_of_eq (Nat.zero_add _))
  · rintro _ _ ⟨z, hz, rfl, rfl⟩
    refine p_i2l X (dcg dc_L_parts 5 rfl) ?_
    refine p_last X (dcg dc_L_parts 6 rfl) (hko z hz).1 (vp_of_inb ⟨by decide, (hko z hz).2⟩) ?_
    refine p_goto (tgt := 18) X (dcg dc_L_parts 7 rfl) (by decide) ?_
    refine p_iconst (v := 0) X (dcg dc_L_parts 14 rfl) (by decide) ?_
    exact p_iret X rfl (dcg dc_L_parts 15 rfl) (Or.inl ⟨z, hz, rfl, rfl⟩) (Nat.le_of_eq (Nat.zero_add _)) (Nat.le_of_eq (Nat.zero_add _))
theorem dc_L_partFound : decs cL_partFound [(0, .aload_n 3, 1), (1, .iconst 0, 1), (2, .aload_n 0, 1), (3, .iload_n 1, 1), (4, .iload_n 2, 1), (5, .invokevirtual 122, 3), (8, .i2l, 1), (9, .lastore, 1), (10, .goto 15, 3), (13, .astore 4, 2), (15, .iconst 1, 1), (16, .ireturn, 1), (17, .astore 4, 2), (19, .iconst 2, 1), (20, .ireturn, 1), (21, .astore 4, 2), (23, .iconst 3, 1), (24, .ireturn, 1), (25, .iconst 0, 1), (26, .ireturn, 1)] = true := by decide +kernel
set_option maxRecDepth 100000 in
theorem wL_partFound {E : PE} {l : Launch} (hG : Gs E l) (hgn : Gn E) {v0 : Nat} {v1 : Int32} {v2 : Int32} {vo : Nat} {h : PH} {r : ((Int32 × PH) ⊕ (Nat × PH))} (hf : fX11_partFound v0 v1 v2 h = some r) (hk : hK h v0 = 11) (hko : ∀ z, r = .inl z → hK z.2 vo = 23 ∧ 0 < hN z.2 vo) (hcd : ∀ z, r = .inr z → z.1 = 1 ∨ z.1 = 3 ∨ z.1 = 2) : CtH E l 54 (xT2 r - hX h) (vT2 r - hV h) yL_partFound cL_partFound 5 (some .int) [(0, 10, 13, 19), (0, 10, 17, 57), (0, 10, 21, 25)] [.ref v0, .int v1, .int v2, .ref vo] h (fun v u => (∃ z : Int32 × PH, r = .inl z ∧ v = some (.int 0) ∧ u = sL z.2 23 vo (Int32.toNatClampNeg 0) (Int32.toInt64 z.1)) ∨ (∃ (z : Nat × PH) (n : Nat), r = .inr z ∧ hX z.2 ≤ n ∧ u = hbump z.2 n ∧ ((z.1 = 1 ∧ v = some (.int 1)) ∨ (z.1 = 3 ∧ v = some (.int 2)) ∨ (z.1 = 2 ∧ v = some (.int 3))))) := by
  refine cth_of hG (by decide) (Nat.le_of_ble_eq_true rfl) ?_
  intro p e s m args below meth c X hex
  show PW E p l e _ s m args below meth c _ 0 0 _ h 0 [(0, some (.ref v0)), (1, some (.int v1)), (2, some (.int v2)), (3, some (.ref vo))] []
  refine p_aload_n X (dcg dc_L_partFound 0 rfl) rfl rfl ?_
  refine p_iconst (v := 0) X (dcg dc_L_partFound 1 rfl) (by decide) ?_
  refine p_aload_n X (dcg dc_L_partFound 2 rfl) rfl rfl ?_
  refine p_iload_n X (dcg dc_L_partFound 3 rfl) rfl rfl ?_
  refine p_iload_n X (dcg dc_L_partFound 4 rfl) rfl rfl ?_
  refine p_callVC (As := [_, _]) X ml_L_122 (dcg dc_L_partFound 5 rfl) rfl rfl hk (wX11_partFound hG hf) (by decide) (room4 (Nat.le_of_ble_eq_true rfl)) (Nat.le_of_eq (Nat.zero_add _)) (Nat.le_of_eq (Nat.zero_add _)) ?_ ?_
  · rintro En u ⟨z, n, hz, rfl, hn, rfl⟩ H1 locs1 ls q ce rl hS hl c1 c2 c3
    rcases hcd z hz with hc | hc | hc
    · rw [hc] at c3
      refine p_catch (k := 1) (f := 0) (t := 10) (hp := 13) (ct := 19) (v := 2) (i := 4) (pre := []) (pk := []) X hgn hex rfl (by decide) rfl  (fun _ h9 => absurd h9 List.not_mem_nil) (by decide) (by decide) (by decide) tw_1149 cst_1 (Or.inr ⟨rfl, (dcg dc_L_partFound 9 rfl)⟩) (by decide) rl hS hl c1 c2 c3 ?_
      refine p_iconst (v := 1) X (dcg dc_L_partFound 10 rfl) (by decide) ?_
      exact p_iret X rfl (dcg dc_L_partFound 11 rfl) (Or.inr ⟨z, n, hz, hn, rfl, Or.inl ⟨hc, rfl⟩⟩) (Nat.le_of_eq (Nat.zero_add _)) (Nat.le_of_eq (Nat.zero_add _))
    · rw [hc] at c3
      refine p_catch (k := 3) (f := 0) (t := 10) (hp := 17) (ct := 57) (v := 2) (i := 4) (pre := [(0, 10, 13, 19)]) (pk := [1]) X hgn hex rfl (by decide) rfl (List.forall_mem_cons.mpr ⟨⟨by decide, by decide, by decide, tw_1149⟩, (fun _ h9 => absurd h9 List.not_mem_nil)⟩) (by decide) (by decide) (by decide) tw_1302 cst_3 (Or.inr ⟨rfl, (dcg dc_L_partFound 12 rfl)⟩) (by decide) rl hS hl c1 c2 c3 ?_
      refine p_iconst (v := 2) X (dcg dc_L_partFound 13 rfl) (by decide) ?_
      exact p_iret X rfl (dcg dc_L_partFound 14 rfl) (Or.inr ⟨z, n, hz, hn, rfl, Or.inr (Or.inl ⟨hc, rfl⟩)⟩) (Nat.le_of_eq (Nat.zero_add _)) (Nat.le_of_eq (Nat.zero_add _))
    · rw [hc] at c3
      refine p_catch (k := 2) (f := 0) (t := 10) (hp := 21) (ct := 25) (v := 2) (i := 4) (pre := [(0, 10, 13, 19), (0, 10, 17, 57)]) (pk := [1, 3]) X hgn hex rfl (by decide) rfl (List.forall_mem_cons.mpr ⟨⟨by decide, by decide, by decide, tw_1149⟩, (List.forall_mem_cons.mpr ⟨⟨by decide, by decide, by decide, tw_1302⟩, (fun _ h9 => absurd h9 List.not_mem_nil)⟩)⟩) (by decide) (by decide) (by decide) tw_1196 cst_2 (Or.inr ⟨rfl, (dcg dc_L_partFound 15 rfl)⟩) (by decide) rl hS hl c1 c2 c3 ?_
      refine p_iconst (v := 3) X (dcg dc_L_partFound 16 rfl) (by decide) ?_
      exact p_iret X rfl (dcg dc_L_partFound 17 rfl) (Or.inr ⟨z, n, hz, hn, rfl, Or.inr (Or.inr (⟨hc, rfl⟩))⟩) (Nat.le_of_eq (Nat.zero_add _)) (Nat.le_of_eq (Nat.zero_add _))
  · rintro _ _ ⟨z, hz, rfl, rfl⟩
    refine p_i2l X (dcg dc_L_partFound 6 rfl) ?_
    refine p_last X (dcg dc_L_partFound 7 rfl) (hko z hz).1 (vp_of_inb ⟨by decide, (hko z hz).2⟩) ?_
    refine p_goto (tgt := 25) X (dcg dc_L_partFound 8 rfl) (by decide) ?_
    refine p_iconst (v := 0) X (dcg dc_L_partFound 18 rfl) (by decide) ?_
    exact p_iret X rfl (dcg dc_L_partFound 19 rfl) (Or.inl ⟨z, hz, rfl, rfl⟩) (Nat.le_of_eq (Nat.zero_add _)) (Nat.le_of_eq (Nat.zero_add _))
theorem dc_L_write : decs cL_write [(0, .aload_n 2, 1), (1, .iconst 0, 1), (2, .aload_n 0, 1), (3, .iload_n 1, 1), (4, .invokevirtual 125, 3), (7, .i2l, 1), (8, .lastore, 1), (9, .goto 9, 3), (12, .astore_n 3, 1), (13, .iconst 1, 1), (14, .ireturn, 1), (15, .astore_n 3, 1), (16, .iconst 2, 1), (17, .ireturn, 1), (18, .iconst 0, 1), (19, .ireturn, 1)] = true := by decide +kernel
set_option maxRecDepth 100000 in
theorem wL_write {E : PE} {l : Launch} (hG : Gs E l) (hgn : Gn E) {v0 : Nat} {v1 : Int32} {vo : Nat} {h : PH} {r : ((Int32 × PH) ⊕ (Nat × PH))} (hf : fX11_write v0 v1 h = some r) (hk : hK h v0 = 11) (hko : ∀ z, r = .inl z → hK z.2 vo = 23 ∧ 0 < hN z.2 vo) (hcd : ∀ z, r = .inr z → z.1 = 1 ∨ z.1 = 3) : CtH E l 54 (xT2 r - hX h) (vT2 r - hV h) yL_write cL_write 4 (some .int) [(0, 9, 12, 19), (0, 9, 15, 57)] [.ref v0, .int v1, .ref vo] h (fun v u => (∃ z : Int32 × PH, r = .inl z ∧ v = some (.int 0) ∧ u = sL z.2 23 vo (Int32.toNatClampNeg 0) (Int32.toInt64 z.1)) ∨ (∃ (z : Nat × PH) (n : Nat), r = .inr z ∧ hX z.2 ≤ n ∧ u = hbump z.2 n ∧ ((z.1 = 1 ∧ v = some (.int 1)) ∨ (z.1 = 3 ∧ v = some (.int 2))))) := by
  refine cth_of hG (by decide) (Nat.le_of_ble_eq_true rfl) ?_
  intro p e s m args below meth c X hex
  show PW E p l e _ s m args below meth c _ 0 0 _ h 0 [(0, some (.ref v0)), (1, some (.int v1)), (2, some (.ref vo))] []
  refine p_aload_n X (dcg dc_L_write 0 rfl) rfl rfl ?_
  refine p_iconst (v := 0) X (dcg dc_L_write 1 rfl) (by decide) ?_
  refine p_aload_n X (dcg dc_L_write 2 rfl) rfl rfl ?_
  refine p_iload_n X (dcg dc_L_write 3 rfl) rfl rfl ?_
  refine p_callVC (As := [_]) X ml_L_125 (dcg dc_L_write 4 rfl) rfl rfl hk (wX11_write hG hf) (by decide) (room4 (Nat.le_of_ble_eq_true rfl)) (Nat.le_of_eq (Nat.zero_add _)) (Nat.le_of_eq (Nat.zero_add _)) ?_ ?_
  · rintro En u ⟨z, n, hz, rfl, hn, rfl⟩ H1 locs1 ls q ce rl hS hl c1 c2 c3
    rcases hcd z hz with hc | hc
    · rw [hc] at c3
      refine p_catch (k := 1) (f := 0) (t := 9) (hp := 12) (ct := 19) (v := 1) (i := 3) (pre := []) (pk := []) X hgn hex rfl (by decide) rfl  (fun _ h9 => absurd h9 List.not_mem_nil) (by decide) (by decide) (by decide) tw_1149 cst_1 (Or.inl ⟨3, rfl, rfl, (dcg dc_L_write 8 rfl)⟩) (by decide) rl hS hl c1 c2 c3 ?_
      refine p_iconst (v := 1) X (dcg dc_L_write 9 rfl) (by decide) ?_
      exact p_iret X rfl (dcg dc_L_write 10 rfl) (Or.inr ⟨z, n, hz, hn, rfl, Or.inl ⟨hc, rfl⟩⟩) (Nat.le_of_eq (Nat.zero_add _)) (Nat.le_of_eq (Nat.zero_add _))
    · rw [hc] at c3
      refine p_catch (k := 3) (f := 0) (t := 9) (hp := 15) (ct := 57) (v := 1) (i := 3) (pre := [(0, 9, 12, 19)]) (pk := [1]) X hgn hex rfl (by decide) rfl (List.forall_mem_cons.mpr ⟨⟨by decide, by decide, by decide, tw_1149⟩, (fun _ h9 => absurd h9 List.not_mem_nil)⟩) (by decide) (by decide) (by decide) tw_1302 cst_3 (Or.inl ⟨3, rfl, rfl, (dcg dc_L_write 11 rfl)⟩) (by decide) rl hS hl c1 c2 c3 ?_
      refine p_iconst (v := 2) X (dcg dc_L_write 12 rfl) (by decide) ?_
      exact p_iret X rfl (dcg dc_L_write 13 rfl) (Or.inr ⟨z, n, hz, hn, rfl, Or.inr (⟨hc, rfl⟩)⟩) (Nat.le_of_eq (Nat.zero_add _)) (Nat.le_of_eq (Nat.zero_add _))
  · rintro _ _ ⟨z, hz, rfl, rfl⟩
    refine p_i2l X (dcg dc_L_write 5 rfl) ?_
    refine p_last X (dcg dc_L_write 6 rfl) (hko z hz).1 (vp_of_inb ⟨by decide, (hko z hz).2⟩) ?_
    refine p_goto (tgt := 18) X (dcg dc_L_write 7 rfl) (by decide) ?_
    refine p_iconst (v := 0) X (dcg dc_L_write 14 rfl) (by decide) ?_
    exact p_iret X rfl (dcg dc_L_write 15 rfl) (Or.inl ⟨z, hz, rfl, rfl⟩) (Nat.le_of_eq (Nat.zero_add _)) (Nat.le_of_eq (Nat.zero_add _))
theorem dc_L_writtenAt : decs cL_writtenAt [(0, .aload_n 2, 1), (1, .iconst 0, 1), (2, .aload_n 0, 1), (3, .iload_n 1, 1), (4, .invokevirtual 128, 3), (7, .i2l, 1), (8, .lastore, 1), (9, .goto 6, 3), (12, .astore_n 3, 1), (13, .iconst 1, 1), (14, .ireturn, 1), (15, .iconst 0, 1), (16, .ireturn, 1)] = true := by decide +kernel
set_option maxRecDepth 100000 in
theorem wL_writtenAt {E : PE} {l : Launch} (hG : Gs E l) (hgn : Gn E) {v0 : Nat} {v1 : Int32} {vo : Nat} {h : PH} {r : ((Int32 × PH) ⊕ (Nat × PH))} (hf : fX11_writtenAt v0 v1 h = some r) (hk : hK h v0 = 11) (hko : ∀ z, r = .inl z → hK z.2 vo = 23 ∧ 0 < hN z.2 vo) (hcd : ∀ z, r = .inr z → z.1 = 2) : CtH E l 9 (xT2 r - hX h) (vT2 r - hV h) yL_writtenAt cL_writtenAt 4 (some .int) [(0, 9, 12, 25)] [.ref v0, .int v1, .ref vo] h (fun v u => (∃ z : Int32 × PH, r = .inl z ∧ v = some (.int 0) ∧ u = sL z.2 23 vo (Int32.toNatClampNeg 0) (Int32.toInt64 z.1)) ∨ (∃ (z : Nat × PH) (n : Nat), r = .inr z ∧ hX z.2 ≤ n ∧ u = hbump z.2 n ∧ ((z.1 = 2 ∧ v = some (.int 1))))) := by
  refine cth_of hG (by decide) (Nat.le_of_ble_eq_true rfl) ?_
  intro p e s m args below meth c X hex
  show PW E p l e _ s m args below meth c _ 0 0 _ h 0 [(0, some (.ref v0)), (1, some (.int v1)), (2, some (.ref vo))] []
  refine p_aload_n X (dcg dc_L_writtenAt 0 rfl) rfl rfl ?_
  refine p_iconst (v := 0) X (dcg dc_L_writtenAt 1 rfl) (by decide) ?_
  refine p_aload_n X (dcg dc_L_writtenAt 2 rfl) rfl rfl ?_
  refine p_iload_n X (dcg dc_L_writtenAt 3 rfl) rfl rfl ?_
  refine p_callVC (As := [_]) X ml_L_128 (dcg dc_L_writtenAt 4 rfl) rfl rfl hk (wX11_writtenAt hG hf) (by decide) (room4 (Nat.le_of_ble_eq_true rfl)) (Nat.le_of_eq (Nat.zero_add _)) (Nat.le_of_eq (Nat.zero_add _)) ?_ ?_
  · rintro En u ⟨z, n, hz, rfl, hn, rfl⟩ H1 locs1 ls q ce rl hS hl c1 c2 c3
    have hc := hcd z hz
    rw [hc] at c3
    refine p_catch (k := 2) (f := 0) (t := 9) (hp := 12) (ct := 25) (v := 1) (i := 3) (pre := []) (pk := []) X hgn hex rfl (by decide) rfl  (fun _ h9 => absurd h9 List.not_mem_nil) (by decide) (by decide) (by decide) tw_1196 cst_2 (Or.inl ⟨3, rfl, rfl, (dcg dc_L_writtenAt 8 rfl)⟩) (by decide) rl hS hl c1 c2 c3 ?_
    refine p_iconst (v := 1) X (dcg dc_L_writtenAt 9 rfl) (by decide) ?_
    exact p_iret X rfl (dcg dc_L_writtenAt 10 rfl) (Or.inr ⟨z, n, hz, hn, rfl, ⟨hc, rfl⟩⟩) (Nat.le_of_eq (Nat.zero_add _)) (Nat.le_of_eq (Nat.zero_add _))
  · rintro _ _ ⟨z, hz, rfl, rfl⟩
    refine p_i2l X (dcg dc_L_writtenAt 5 rfl) ?_
    refine p_last X (dcg dc_L_writtenAt 6 rfl) (hko z hz).1 (vp_of_inb ⟨by decide, (hko z hz).2⟩) ?_
    refine p_goto (tgt := 15) X (dcg dc_L_writtenAt 7 rfl) (by decide) ?_
    refine p_iconst (v := 0) X (dcg dc_L_writtenAt 11 rfl) (by decide) ?_
    exact p_iret X rfl (dcg dc_L_writtenAt 12 rfl) (Or.inl ⟨z, hz, rfl, rfl⟩) (Nat.le_of_eq (Nat.zero_add _)) (Nat.le_of_eq (Nat.zero_add _))
theorem dc_L_eventOf : decs cL_eventOf [(0, .aload_n 3, 1), (1, .iconst 0, 1), (2, .aload_n 0, 1), (3, .iload_n 1, 1), (4, .iload_n 2, 1), (5, .invokevirtual 132, 3), (8, .i2l, 1), (9, .lastore, 1), (10, .goto 11, 3), (13, .astore 4, 2), (15, .iconst 1, 1), (16, .ireturn, 1), (17, .astore 4, 2), (19, .iconst 2, 1), (20, .ireturn, 1), (21, .iconst 0, 1), (22, .ireturn, 1)] = true := by decide +kernel
set_option maxRecDepth 100000 in
theorem wL_eventOf {E : PE} {l : Launch} (hG : Gs E l) (hgn : Gn E) {v0 : Nat} {v1 : Int32} {v2 : Int32} {vo : Nat} {h : PH} {r : ((Int32 × PH) ⊕ (Nat × PH))} (hf : fX11_eventOf v0 v1 v2 h = some r) (hk : hK h v0 = 11) (hko : ∀ z, r = .inl z → hK z.2 vo = 23 ∧ 0 < hN z.2 vo) (hcd : ∀ z, r = .inr z → z.1 = 2 ∨ z.1 = 1) : CtH E l 9 (xT2 r - hX h) (vT2 r - hV h) yL_eventOf cL_eventOf 5 (some .int) [(0, 10, 13, 25), (0, 10, 17, 19)] [.ref v0, .int v1, .int v2, .ref vo] h (fun v u => (∃ z : Int32 × PH, r = .inl z ∧ v = some (.int 0) ∧ u = sL z.2 23 vo (Int32.toNatClampNeg 0) (Int32.toInt64 z.1)) ∨ (∃ (z : Nat × PH) (n : Nat), r = .inr z ∧ hX z.2 ≤ n ∧ u = hbump z.2 n ∧ ((z.1 = 2 ∧ v = some (.int 1)) ∨ (z.1 = 1 ∧ v = some (.int 2))))) := by
  refine cth_of hG (by decide) (Nat.le_of_ble_eq_true rfl) ?_
  intro p e s m args below meth c X hex
  show PW E p l e _ s m args below meth c _ 0 0 _ h 0 [(0, some (.ref v0)), (1, some (.int v1)), (2, some (.int v2)), (3, some (.ref vo))] []
  refine p_aload_n X (dcg dc_L_eventOf 0 rfl) rfl rfl ?_
  refine p_iconst (v := 0) X (dcg dc_L_eventOf 1 rfl) (by decide) ?_
  refine p_aload_n X (dcg dc_L_eventOf 2 rfl) rfl rfl ?_
  refine p_iload_n X (dcg dc_L_eventOf 3 rfl) rfl rfl ?_
  refine p_iload_n X (dcg dc_L_eventOf 4 rfl) rfl rfl ?_
  refine p_callVC (As := [_, _]) X ml_L_132 (dcg dc_L_eventOf 5 rfl) rfl rfl hk (wX11_eventOf hG hf) (by decide) (room4 (Nat.le_of_ble_eq_true rfl)) (Nat.le_of_eq (Nat.zero_add _)) (Nat.le_of_eq (Nat.zero_add _)) ?_ ?_
  · rintro En u ⟨z, n, hz, rfl, hn, rfl⟩ H1 locs1 ls q ce rl hS hl c1 c2 c3
    rcases hcd z hz with hc | hc
    · rw [hc] at c3
      refine p_catch (k := 2) (f := 0) (t := 10) (hp := 13) (ct := 25) (v := 2) (i := 4) (pre := []) (pk := []) X hgn hex rfl (by decide) rfl  (fun _ h9 => absurd h9 List.not_mem_nil) (by decide) (by decide) (by decide) tw_1196 cst_2 (Or.inr ⟨rfl, (dcg dc_L_eventOf 9 rfl)⟩) (by decide) rl hS hl c1 c2 c3 ?_
      refine p_iconst (v := 1) X (dcg dc_L_eventOf 10 rfl) (by decide) ?_
      exact p_iret X rfl (dcg dc_L_eventOf 11 rfl) (Or.inr ⟨z, n, hz, hn, rfl, Or.inl ⟨hc, rfl⟩⟩) (Nat.le_of_eq (Nat.zero_add _)) (Nat.le_of_eq (Nat.zero_add _))
    · rw [hc] at c3
      refine p_catch (k := 1) (f := 0) (t := 10) (hp := 17) (ct := 19) (v := 2) (i := 4) (pre := [(0, 10, 13, 25)]) (pk := [2]) X hgn hex rfl (by decide) rfl (List.forall_mem_cons.mpr ⟨⟨by decide, by decide, by decide, tw_1196⟩, (fun _ h9 => absurd h9 List.not_mem_nil)⟩) (by decide) (by decide) (by decide) tw_1149 cst_1 (Or.inr ⟨rfl, (dcg dc_L_eventOf 12 rfl)⟩) (by decide) rl hS hl c1 c2 c3 ?_
      refine p_iconst (v := 2) X (dcg dc_L_eventOf 13 rfl) (by decide) ?_
      exact p_iret X rfl (dcg dc_L_eventOf 14 rfl) (Or.inr ⟨z, n, hz, hn, rfl, Or.inr (⟨hc, rfl⟩)⟩) (Nat.le_of_eq (Nat.zero_add _)) (Nat.le_of_eq (Nat.zero_add _))
  · rintro _ _ ⟨z, hz, rfl, rfl⟩
    refine p_i2l X (dcg dc_L_eventOf 6 rfl) ?_
    refine p_last X (dcg dc_L_eventOf 7 rfl) (hko z hz).1 (vp_of_inb ⟨by decide, (hko z hz).2⟩) ?_
    refine p_goto (tgt := 21) X (dcg dc_L_eventOf 8 rfl) (by decide) ?_
    refine p_iconst (v := 0) X (dcg dc_L_eventOf 15 rfl) (by decide) ?_
    exact p_iret X rfl (dcg dc_L_eventOf 16 rfl) (Or.inl ⟨z, hz, rfl, rfl⟩) (Nat.le_of_eq (Nat.zero_add _)) (Nat.le_of_eq (Nat.zero_add _))
theorem dc_L_compare : decs cL_compare [(0, .aload_n 3, 1), (1, .iconst 0, 1), (2, .aload_n 0, 1), (3, .iload_n 1, 1), (4, .iload_n 2, 1), (5, .invokevirtual 135, 3), (8, .i2l, 1), (9, .lastore, 1), (10, .goto 15, 3), (13, .astore 4, 2), (15, .iconst 1, 1), (16, .ireturn, 1), (17, .astore 4, 2), (19, .iconst 2, 1), (20, .ireturn, 1), (21, .astore 4, 2), (23, .iconst 3, 1), (24, .ireturn, 1), (25, .iconst 0, 1), (26, .ireturn, 1)] = true := by decide +kernel
set_option maxRecDepth 100000 in
theorem wL_compare {E : PE} {l : Launch} (hG : Gs E l) (hgn : Gn E) {v0 : Nat} {v1 : Int32} {v2 : Int32} {vo : Nat} {h : PH} {r : ((Int32 × PH) ⊕ (Nat × PH))} (hf : fX11_compare v0 v1 v2 h = some r) (hk : hK h v0 = 11) (hko : ∀ z, r = .inl z → hK z.2 vo = 23 ∧ 0 < hN z.2 vo) (hcd : ∀ z, r = .inr z → z.1 = 1 ∨ z.1 = 3 ∨ z.1 = 0) : CtH E l 54 (xT2 r - hX h) (vT2 r - hV h) yL_compare cL_compare 5 (some .int) [(0, 10, 13, 19), (0, 10, 17, 57), (0, 10, 21, 13)] [.ref v0, .int v1, .int v2, .ref vo] h (fun v u => (∃ z : Int32 × PH, r = .inl z ∧ v = some (.int 0) ∧ u = sL z.2 23 vo (Int32.toNatClampNeg 0) (Int32.toInt64 z.1)) ∨ (∃ (z : Nat × PH) (n : Nat), r = .inr z ∧ hX z.2 ≤ n ∧ u = hbump z.2 n ∧ ((z.1 = 1 ∧ v = some (.int 1)) ∨ (z.1 = 3 ∧ v = some (.int 2)) ∨ (z.1 = 0 ∧ v = some (.int 3))))) := by
  refine cth_of hG (by decide) (Nat.le_of_ble_eq_true rfl) ?_
  intro p e s m args below meth c X hex
  show PW E p l e _ s m args below meth c _ 0 0 _ h 0 [(0, some (.ref v0)), (1, some (.int v1)), (2, some (.int v2)), (3, some (.ref vo))] []
  refine p_aload_n X (dcg dc_L_compare 0 rfl) rfl rfl ?_
  refine p_iconst (v := 0) X (dcg dc_L_compare 1 rfl) (by decide) ?_
  refine p_aload_n X (dcg dc_L_compare 2 rfl) rfl rfl ?_
  refine p_iload_n X (dcg dc_L_compare 3 rfl) rfl rfl ?_
  refine p_iload_n X (dcg dc_L_compare 4 rfl) rfl rfl ?_
  refine p_callVC (As := [_, _]) X ml_L_135 (dcg dc_L_compare 5 rfl) rfl rfl hk (wX11_compare hG hf) (by decide) (room4 (Nat.le_of_ble_eq_true rfl)) (Nat.le_of_eq (Nat.zero_add _)) (Nat.le_of_eq (Nat.zero_add _)) ?_ ?_
  · rintro En u ⟨z, n, hz, rfl, hn, rfl⟩ H1 locs1 ls q ce rl hS hl c1 c2 c3
    rcases hcd z hz with hc | hc | hc
    · rw [hc] at c3
      refine p_catch (k := 1) (f := 0) (t := 10) (hp := 13) (ct := 19) (v := 2) (i := 4) (pre := []) (pk := []) X hgn hex rfl (by decide) rfl  (fun _ h9 => absurd h9 List.not_mem_nil) (by decide) (by decide) (by decide) tw_1149 cst_1 (Or.inr ⟨rfl, (dcg dc_L_compare 9 rfl)⟩) (by decide) rl hS hl c1 c2 c3 ?_
      refine p_iconst (v := 1) X (dcg dc_L_compare 10 rfl) (by decide) ?_
      exact p_iret X rfl (dcg dc_L_compare 11 rfl) (Or.inr ⟨z, n, hz, hn, rfl, Or.inl ⟨hc, rfl⟩⟩) (Nat.le_of_eq (Nat.zero_add _)) (Nat.le_of_eq (Nat.zero_add _))
    · rw [hc] at c3
      refine p_catch (k := 3) (f := 0) (t := 10) (hp := 17) (ct := 57) (v := 2) (i := 4) (pre := [(0, 10, 13, 19)]) (pk := [1]) X hgn hex rfl (by decide) rfl (List.forall_mem_cons.mpr ⟨⟨by decide, by decide, by decide, tw_1149⟩, (fun _ h9 => absurd h9 List.not_mem_nil)⟩) (by decide) (by decide) (by decide) tw_1302 cst_3 (Or.inr ⟨rfl, (dcg dc_L_compare 12 rfl)⟩) (by decide) rl hS hl c1 c2 c3 ?_
      refine p_iconst (v := 2) X (dcg dc_L_compare 13 rfl) (by decide) ?_
      exact p_iret X rfl (dcg dc_L_compare 14 rfl) (Or.inr ⟨z, n, hz, hn, rfl, Or.inr (Or.inl ⟨hc, rfl⟩)⟩) (Nat.le_of_eq (Nat.zero_add _)) (Nat.le_of_eq (Nat.zero_add _))
    · rw [hc] at c3
      refine p_catch (k := 0) (f := 0) (t := 10) (hp := 21) (ct := 13) (v := 2) (i := 4) (pre := [(0, 10, 13, 19), (0, 10, 17, 57)]) (pk := [1, 3]) X hgn hex rfl (by decide) rfl (List.forall_mem_cons.mpr ⟨⟨by decide, by decide, by decide, tw_1149⟩, (List.forall_mem_cons.mpr ⟨⟨by decide, by decide, by decide, tw_1302⟩, (fun _ h9 => absurd h9 List.not_mem_nil)⟩)⟩) (by decide) (by decide) (by decide) tw_1113 cst_0 (Or.inr ⟨rfl, (dcg dc_L_compare 15 rfl)⟩) (by decide) rl hS hl c1 c2 c3 ?_
      refine p_iconst (v := 3) X (dcg dc_L_compare 16 rfl) (by decide) ?_
      exact p_iret X rfl (dcg dc_L_compare 17 rfl) (Or.inr ⟨z, n, hz, hn, rfl, Or.inr (Or.inr (⟨hc, rfl⟩))⟩) (Nat.le_of_eq (Nat.zero_add _)) (Nat.le_of_eq (Nat.zero_add _))
  · rintro _ _ ⟨z, hz, rfl, rfl⟩
    refine p_i2l X (dcg dc_L_compare 6 rfl) ?_
    refine p_last X (dcg dc_L_compare 7 rfl) (hko z hz).1 (vp_of_inb ⟨by decide, (hko z hz).2⟩) ?_
    refine p_goto (tgt := 25) X (dcg dc_L_compare 8 rfl) (by decide) ?_
    refine p_iconst (v := 0) X (dcg dc_L_compare 18 rfl) (by decide) ?_
    exact p_iret X rfl (dcg dc_L_compare 19 rfl) (Or.inl ⟨z, hz, rfl, rfl⟩) (Nat.le_of_eq (Nat.zero_add _)) (Nat.le_of_eq (Nat.zero_add _))
theorem dc_L_unlike : decs cL_unlike [(0, .aload_n 2, 1), (1, .iconst 0, 1), (2, .aload_n 0, 1), (3, .iload_n 1, 1), (4, .invokevirtual 138, 3), (7, .i2l, 1), (8, .lastore, 1), (9, .goto 6, 3), (12, .astore_n 3, 1), (13, .iconst 1, 1), (14, .ireturn, 1), (15, .iconst 0, 1), (16, .ireturn, 1)] = true := by decide +kernel
set_option maxRecDepth 100000 in
theorem wL_unlike {E : PE} {l : Launch} (hG : Gs E l) (hgn : Gn E) {v0 : Nat} {v1 : Int32} {vo : Nat} {h : PH} {r : ((Int32 × PH) ⊕ (Nat × PH))} (hf : fX11_unlike v0 v1 h = some r) (hk : hK h v0 = 11) (hko : ∀ z, r = .inl z → hK z.2 vo = 23 ∧ 0 < hN z.2 vo) (hcd : ∀ z, r = .inr z → z.1 = 2) : CtH E l 10 (xT2 r - hX h) (vT2 r - hV h) yL_unlike cL_unlike 4 (some .int) [(0, 9, 12, 25)] [.ref v0, .int v1, .ref vo] h (fun v u => (∃ z : Int32 × PH, r = .inl z ∧ v = some (.int 0) ∧ u = sL z.2 23 vo (Int32.toNatClampNeg 0) (Int32.toInt64 z.1)) ∨ (∃ (z : Nat × PH) (n : Nat), r = .inr z ∧ hX z.2 ≤ n ∧ u = hbump z.2 n ∧ ((z.1 = 2 ∧ v = some (.int 1))))) := by
  refine cth_of hG (by decide) (Nat.le_of_ble_eq_true rfl) ?_
  intro p e s m args below meth c X hex
  show PW E p l e _ s m args below meth c _ 0 0 _ h 0 [(0, some (.ref v0)), (1, some (.int v1)), (2, some (.ref vo))] []
  refine p_aload_n X (dcg dc_L_unlike 0 rfl) rfl rfl ?_
  refine p_iconst (v := 0) X (dcg dc_L_unlike 1 rfl) (by decide) ?_
  refine p_aload_n X (dcg dc_L_unlike 2 rfl) rfl rfl ?_
  refine p_iload_n X (dcg dc_L_unlike 3 rfl) rfl rfl ?_
  refine p_callVC (As := [_]) X ml_L_138 (dcg dc_L_unlike 4 rfl) rfl rfl hk (wX11_unlike hG hf) (by decide) (room4 (Nat.le_of_ble_eq_true rfl)) (Nat.le_of_eq (Nat.zero_add _)) (Nat.le_of_eq (Nat.zero_add _)) ?_ ?_
  · rintro En u ⟨z, n, hz, rfl, hn, rfl⟩ H1 locs1 ls q ce rl hS hl c1 c2 c3
    have hc := hcd z hz
    rw [hc] at c3
    refine p_catch (k := 2) (f := 0) (t := 9) (hp := 12) (ct := 25) (v := 1) (i := 3) (pre := []) (pk := []) X hgn hex rfl (by decide) rfl  (fun _ h9 => absurd h9 List.not_mem_nil) (by decide) (by decide) (by decide) tw_1196 cst_2 (Or.inl ⟨3, rfl, rfl, (dcg dc_L_unlike 8 rfl)⟩) (by decide) rl hS hl c1 c2 c3 ?_
    refine p_iconst (v := 1) X (dcg dc_L_unlike 9 rfl) (by decide) ?_
    exact p_iret X rfl (dcg dc_L_unlike 10 rfl) (Or.inr ⟨z, n, hz, hn, rfl, ⟨hc, rfl⟩⟩) (Nat.le_of_eq (Nat.zero_add _)) (Nat.le_of_eq (Nat.zero_add _))
  · rintro _ _ ⟨z, hz, rfl, rfl⟩
    refine p_i2l X (dcg dc_L_unlike 5 rfl) ?_
    refine p_last X (dcg dc_L_unlike 6 rfl) (hko z hz).1 (vp_of_inb ⟨by decide, (hko z hz).2⟩) ?_
    refine p_goto (tgt := 15) X (dcg dc_L_unlike 7 rfl) (by decide) ?_
    refine p_iconst (v := 0) X (dcg dc_L_unlike 11 rfl) (by decide) ?_
    exact p_iret X rfl (dcg dc_L_unlike 12 rfl) (Or.inl ⟨z, hz, rfl, rfl⟩) (Nat.le_of_eq (Nat.zero_add _)) (Nat.le_of_eq (Nat.zero_add _))
theorem dc_L_common : decs cL_common [(0, .aload_n 3, 1), (1, .iconst 0, 1), (2, .aload_n 0, 1), (3, .iload_n 1, 1), (4, .iload_n 2, 1), (5, .invokevirtual 141, 3), (8, .i2l, 1), (9, .lastore, 1), (10, .goto 7, 3), (13, .astore 4, 2), (15, .iconst 1, 1), (16, .ireturn, 1), (17, .iconst 0, 1), (18, .ireturn, 1)] = true := by decide +kernel
set_option maxRecDepth 100000 in
theorem wL_common {E : PE} {l : Launch} (hG : Gs E l) (hgn : Gn E) {v0 : Nat} {v1 : Int32} {v2 : Int32} {vo : Nat} {h : PH} {r : ((Int32 × PH) ⊕ (Nat × PH))} (hf : fX11_common v0 v1 v2 h = some r) (hk : hK h v0 = 11) (hko : ∀ z, r = .inl z → hK z.2 vo = 23 ∧ 0 < hN z.2 vo) (hcd : ∀ z, r = .inr z → z.1 = 2) : CtH E l 10 (xT2 r - hX h) (vT2 r - hV h) yL_common cL_common 5 (some .int) [(0, 10, 13, 25)] [.ref v0, .int v1, .int v2, .ref vo] h (fun v u => (∃ z : Int32 × PH, r = .inl z ∧ v = some (.int 0) ∧ u = sL z.2 23 vo (Int32.toNatClampNeg 0) (Int32.toInt64 z.1)) ∨ (∃ (z : Nat × PH) (n : Nat), r = .inr z ∧ hX z.2 ≤ n ∧ u = hbump z.2 n ∧ ((z.1 = 2 ∧ v = some (.int 1))))) := by
  refine cth_of hG (by decide) (Nat.le_of_ble_eq_true rfl) ?_
  intro p e s m args below meth c X hex
  show PW E p l e _ s m args below meth c _ 0 0 _ h 0 [(0, some (.ref v0)), (1, some (.int v1)), (2, some (.int v2)), (3, some (.ref vo))] []
  refine p_aload_n X (dcg dc_L_common 0 rfl) rfl rfl ?_
  refine p_iconst (v := 0) X (dcg dc_L_common 1 rfl) (by decide) ?_
  refine p_aload_n X (dcg dc_L_common 2 rfl) rfl rfl ?_
  refine p_iload_n X (dcg dc_L_common 3 rfl) rfl rfl ?_
  refine p_iload_n X (dcg dc_L_common 4 rfl) rfl rfl ?_
  refine p_callVC (As := [_, _]) X ml_L_141 (dcg dc_L_common 5 rfl) rfl rfl hk (wX11_common hG hf) (by decide) (room4 (Nat.le_of_ble_eq_true rfl)) (Nat.le_of_eq (Nat.zero_add _)) (Nat.le_of_eq (Nat.zero_add _)) ?_ ?_
  · rintro En u ⟨z, n, hz, rfl, hn, rfl⟩ H1 locs1 ls q ce rl hS hl c1 c2 c3
    have hc := hcd z hz
    rw [hc] at c3
    refine p_catch (k := 2) (f := 0) (t := 10) (hp := 13) (ct := 25) (v := 2) (i := 4) (pre := []) (pk := []) X hgn hex rfl (by decide) rfl  (fun _ h9 => absurd h9 List.not_mem_nil) (by decide) (by decide) (by decide) tw_1196 cst_2 (Or.inr ⟨rfl, (dcg dc_L_common 9 rfl)⟩) (by decide) rl hS hl c1 c2 c3 ?_
    refine p_iconst (v := 1) X (dcg dc_L_common 10 rfl) (by decide) ?_
    exact p_iret X rfl (dcg dc_L_common 11 rfl) (Or.inr ⟨z, n, hz, hn, rfl, ⟨hc, rfl⟩⟩) (Nat.le_of_eq (Nat.zero_add _)) (Nat.le_of_eq (Nat.zero_add _))
  · rintro _ _ ⟨z, hz, rfl, rfl⟩
    refine p_i2l X (dcg dc_L_common 6 rfl) ?_
    refine p_last X (dcg dc_L_common 7 rfl) (hko z hz).1 (vp_of_inb ⟨by decide, (hko z hz).2⟩) ?_
    refine p_goto (tgt := 17) X (dcg dc_L_common 8 rfl) (by decide) ?_
    refine p_iconst (v := 0) X (dcg dc_L_common 12 rfl) (by decide) ?_
    exact p_iret X rfl (dcg dc_L_common 13 rfl) (Or.inl ⟨z, hz, rfl, rfl⟩) (Nat.le_of_eq (Nat.zero_add _)) (Nat.le_of_eq (Nat.zero_add _))
theorem dc_L_nearest : decs cL_nearest [(0, .aload_n 2, 1), (1, .iconst 0, 1), (2, .aload_n 0, 1), (3, .iload_n 1, 1), (4, .invokevirtual 144, 3), (7, .i2l, 1), (8, .lastore, 1), (9, .goto 6, 3), (12, .astore_n 3, 1), (13, .iconst 1, 1), (14, .ireturn, 1), (15, .iconst 0, 1), (16, .ireturn, 1)] = true := by decide +kernel
set_option maxRecDepth 100000 in
theorem wL_nearest {E : PE} {l : Launch} (hG : Gs E l) (hgn : Gn E) {v0 : Nat} {v1 : Int32} {vo : Nat} {h : PH} {r : ((Int32 × PH) ⊕ (Nat × PH))} (hf : fX11_nearest v0 v1 h = some r) (hk : hK h v0 = 11) (hko : ∀ z, r = .inl z → hK z.2 vo = 23 ∧ 0 < hN z.2 vo) (hcd : ∀ z, r = .inr z → z.1 = 2) : CtH E l 10 (xT2 r - hX h) (vT2 r - hV h) yL_nearest cL_nearest 4 (some .int) [(0, 9, 12, 25)] [.ref v0, .int v1, .ref vo] h (fun v u => (∃ z : Int32 × PH, r = .inl z ∧ v = some (.int 0) ∧ u = sL z.2 23 vo (Int32.toNatClampNeg 0) (Int32.toInt64 z.1)) ∨ (∃ (z : Nat × PH) (n : Nat), r = .inr z ∧ hX z.2 ≤ n ∧ u = hbump z.2 n ∧ ((z.1 = 2 ∧ v = some (.int 1))))) := by
  refine cth_of hG (by decide) (Nat.le_of_ble_eq_true rfl) ?_
  intro p e s m args below meth c X hex
  show PW E p l e _ s m args below meth c _ 0 0 _ h 0 [(0, some (.ref v0)), (1, some (.int v1)), (2, some (.ref vo))] []
  refine p_aload_n X (dcg dc_L_nearest 0 rfl) rfl rfl ?_
  refine p_iconst (v := 0) X (dcg dc_L_nearest 1 rfl) (by decide) ?_
  refine p_aload_n X (dcg dc_L_nearest 2 rfl) rfl rfl ?_
  refine p_iload_n X (dcg dc_L_nearest 3 rfl) rfl rfl ?_
  refine p_callVC (As := [_]) X ml_L_144 (dcg dc_L_nearest 4 rfl) rfl rfl hk (wX11_nearest hG hf) (by decide) (room4 (Nat.le_of_ble_eq_true rfl)) (Nat.le_of_eq (Nat.zero_add _)) (Nat.le_of_eq (Nat.zero_add _)) ?_ ?_
  · rintro En u ⟨z, n, hz, rfl, hn, rfl⟩ H1 locs1 ls q ce rl hS hl c1 c2 c3
    have hc := hcd z hz
    rw [hc] at c3
    refine p_catch (k := 2) (f := 0) (t := 9) (hp := 12) (ct := 25) (v := 1) (i := 3) (pre := []) (pk := []) X hgn hex rfl (by decide) rfl  (fun _ h9 => absurd h9 List.not_mem_nil) (by decide) (by decide) (by decide) tw_1196 cst_2 (Or.inl ⟨3, rfl, rfl, (dcg dc_L_nearest 8 rfl)⟩) (by decide) rl hS hl c1 c2 c3 ?_
    refine p_iconst (v := 1) X (dcg dc_L_nearest 9 rfl) (by decide) ?_
    exact p_iret X rfl (dcg dc_L_nearest 10 rfl) (Or.inr ⟨z, n, hz, hn, rfl, ⟨hc, rfl⟩⟩) (Nat.le_of_eq (Nat.zero_add _)) (Nat.le_of_eq (Nat.zero_add _))
  · rintro _ _ ⟨z, hz, rfl, rfl⟩
    refine p_i2l X (dcg dc_L_nearest 5 rfl) ?_
    refine p_last X (dcg dc_L_nearest 6 rfl) (hko z hz).1 (vp_of_inb ⟨by decide, (hko z hz).2⟩) ?_
    refine p_goto (tgt := 15) X (dcg dc_L_nearest 7 rfl) (by decide) ?_
    refine p_iconst (v := 0) X (dcg dc_L_nearest 11 rfl) (by decide) ?_
    exact p_iret X rfl (dcg dc_L_nearest 12 rfl) (Or.inl ⟨z, hz, rfl, rfl⟩) (Nat.le_of_eq (Nat.zero_add _)) (Nat.le_of_eq (Nat.zero_add _))
theorem dc_L_share : decs cL_share [(0, .aload_n 2, 1), (1, .iconst 0, 1), (2, .aload_n 0, 1), (3, .iload_n 1, 1), (4, .invokevirtual 147, 3), (7, .f2d, 1), (8, .dastore, 1), (9, .goto 6, 3), (12, .astore_n 3, 1), (13, .iconst 1, 1), (14, .ireturn, 1), (15, .iconst 0, 1), (16, .ireturn, 1)] = true := by decide +kernel
set_option maxRecDepth 100000 in
theorem wL_share {E : PE} {l : Launch} (hG : Gs E l) (hgn : Gn E) {v0 : Nat} {v1 : Int32} {vo : Nat} {h : PH} {r : ((UInt32 × PH) ⊕ (Nat × PH))} (hf : fX11_share v0 v1 h = some r) (hk : hK h v0 = 11) (hko : ∀ z, r = .inl z → hK z.2 vo = 24 ∧ 0 < hN z.2 vo) (hcd : ∀ z, r = .inr z → z.1 = 1) (hnn : ∀ z, r = .inl z → n64 (FP.f2d z.1)) : CtH E l 11 (xT2 r - hX h) (vT2 r - hV h) yL_share cL_share 4 (some .int) [(0, 9, 12, 19)] [.ref v0, .int v1, .ref vo] h (fun v u => (∃ z : UInt32 × PH, r = .inl z ∧ v = some (.int 0) ∧ u = sD z.2 vo (Int32.toNatClampNeg 0) (FP.f2d z.1)) ∨ (∃ (z : Nat × PH) (n : Nat), r = .inr z ∧ hX z.2 ≤ n ∧ u = hbump z.2 n ∧ ((z.1 = 1 ∧ v = some (.int 1))))) := by
  refine cth_of hG (by decide) (Nat.le_of_ble_eq_true rfl) ?_
  intro p e s m args below meth c X hex
  show PW E p l e _ s m args below meth c _ 0 0 _ h 0 [(0, some (.ref v0)), (1, some (.int v1)), (2, some (.ref vo))] []
  refine p_aload_n X (dcg dc_L_share 0 rfl) rfl rfl ?_
  refine p_iconst (v := 0) X (dcg dc_L_share 1 rfl) (by decide) ?_
  refine p_aload_n X (dcg dc_L_share 2 rfl) rfl rfl ?_
  refine p_iload_n X (dcg dc_L_share 3 rfl) rfl rfl ?_
  refine p_callVC (As := [_]) X ml_L_147 (dcg dc_L_share 4 rfl) rfl rfl hk (wX11_share hG hf) (by decide) (room4 (Nat.le_of_ble_eq_true rfl)) (Nat.le_of_eq (Nat.zero_add _)) (Nat.le_of_eq (Nat.zero_add _)) ?_ ?_
  · rintro En u ⟨z, n, hz, rfl, hn, rfl⟩ H1 locs1 ls q ce rl hS hl c1 c2 c3
    have hc := hcd z hz
    rw [hc] at c3
    refine p_catch (k := 1) (f := 0) (t := 9) (hp := 12) (ct := 19) (v := 1) (i := 3) (pre := []) (pk := []) X hgn hex rfl (by decide) rfl  (fun _ h9 => absurd h9 List.not_mem_nil) (by decide) (by decide) (by decide) tw_1149 cst_1 (Or.inl ⟨3, rfl, rfl, (dcg dc_L_share 8 rfl)⟩) (by decide) rl hS hl c1 c2 c3 ?_
    refine p_iconst (v := 1) X (dcg dc_L_share 9 rfl) (by decide) ?_
    exact p_iret X rfl (dcg dc_L_share 10 rfl) (Or.inr ⟨z, n, hz, hn, rfl, ⟨hc, rfl⟩⟩) (Nat.le_of_eq (Nat.zero_add _)) (Nat.le_of_eq (Nat.zero_add _))
  · rintro _ _ ⟨z, hz, rfl, rfl⟩
    refine p_f2d X (dcg dc_L_share 5 rfl) (hnn z hz) ?_
    refine p_dast X (dcg dc_L_share 6 rfl) (hko z hz).1 (vp_of_inb ⟨by decide, (hko z hz).2⟩) ?_
    refine p_goto (tgt := 15) X (dcg dc_L_share 7 rfl) (by decide) ?_
    refine p_iconst (v := 0) X (dcg dc_L_share 11 rfl) (by decide) ?_
    exact p_iret X rfl (dcg dc_L_share 12 rfl) (Or.inl ⟨z, hz, rfl, rfl⟩) (Nat.le_of_eq (Nat.zero_add _)) (Nat.le_of_eq (Nat.zero_add _))
