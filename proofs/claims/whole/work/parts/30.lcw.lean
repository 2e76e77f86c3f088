/-! the law: its calls, 0 to 27 (by program: wip/whole/mklaw.py) -/
theorem dcl_head : decs code [(0, .new 8, 3), (3, .dup, 1), (4, .invokespecial 151, 3), (7, .astore_n 1, 1), (8, .new 152, 3), (11, .dup, 1), (12, .invokespecial 154, 3), (15, .astore_n 2, 1), (16, .iconst 1, 1), (17, .newarray .long, 2), (19, .astore_n 3, 1), (20, .iconst 1, 1), (21, .newarray .double, 2), (23, .astore 4, 2), (25, .iconst 0, 1), (26, .istore 5, 2), (28, .iload 5, 2), (30, .aload_n 0, 1), (31, .arraylength, 1), (32, .bipush 6, 2), (34, .isub, 1), (35, .if_icmp .gt 3121, 3), (38, .aload_n 0, 1), (39, .iload 5, 2), (41, .iaload, 1), (42, .bipush 63, 2), (44, .iand, 1), (45, .tableswitch 3105 0 54 #[235, 339, 352, 365, 409, 465, 521, 601, 669, 749, 762, 775, 788, 813, 869, 937, 1017, 1030, 1086, 1130, 1174, 1258, 1326, 1382, 1438, 1513, 1581, 1637, 1717, 1773, 1841, 1897, 1953, 2021, 2065, 2121, 2146, 2171, 2196, 2252, 2320, 2383, 2439, 2507, 2563, 2619, 2632, 2700, 2768, 2793, 2849, 2917, 2973, 3014, 3092], 235)] = true := by decide +kernel
theorem dcl_tail : decs code [(3150, .iinc 5 6, 3), (3153, .goto (-3125), 3), (3156, .iconst 1, 1), (3157, .ireturn, 1)] = true := by decide +kernel
theorem dcl_0 : decs code [(280, .aload_n 1, 1), (281, .aload_n 0, 1), (282, .iload 5, 2), (284, .iconst 1, 1), (285, .iadd, 1), (286, .iaload, 1), (287, .aload_n 0, 1), (288, .iload 5, 2), (290, .iconst 2, 1), (291, .iadd, 1), (292, .iaload, 1), (293, .aload_n 0, 1), (294, .iload 5, 2), (296, .iconst 3, 1), (297, .iadd, 1), (298, .iaload, 1), (299, .aload_n 0, 1), (300, .iload 5, 2), (302, .iconst 4, 1), (303, .iadd, 1), (304, .iaload, 1), (305, .aload_n 0, 1), (306, .iload 5, 2), (308, .iconst 5, 1), (309, .iadd, 1), (310, .iaload, 1), (311, .aload_n 3, 1), (312, .invokestatic 155, 3), (315, .istore 6, 2), (317, .aload_n 2, 1), (318, .aload_n 0, 1), (319, .iload 5, 2), (321, .iconst 1, 1), (322, .iadd, 1), (323, .iaload, 1), (324, .aload_n 0, 1), (325, .iload 5, 2), (327, .iconst 2, 1), (328, .iadd, 1), (329, .iaload, 1), (330, .aload_n 0, 1), (331, .iload 5, 2), (333, .iconst 3, 1), (334, .iadd, 1), (335, .iaload, 1), (336, .aload_n 0, 1), (337, .iload 5, 2), (339, .iconst 4, 1), (340, .iadd, 1), (341, .iaload, 1), (342, .aload_n 0, 1), (343, .iload 5, 2), (345, .iconst 5, 1), (346, .iadd, 1), (347, .iaload, 1), (348, .invokevirtual 160, 3), (351, .istore 7, 2), (353, .aload_n 2, 1), (354, .invokevirtual 161, 3), (357, .iload 6, 2), (359, .if_icmp .eq 5, 3), (362, .iconst 0, 1), (363, .ireturn, 1), (364, .iload 6, 2), (366, .ifCond .ne 15, 3), (369, .aload_n 3, 1), (370, .iconst 0, 1), (371, .laload, 1), (372, .iload 7, 2), (374, .i2l, 1), (375, .lcmp, 1), (376, .ifCond .eq 5, 3), (379, .iconst 0, 1), (380, .ireturn, 1), (381, .goto 2769, 3)] = true := by decide +kernel
set_option maxRecDepth 100000 in
theorem lc_0 {E : PE} {p : Program} {l : Launch} {e : Env} {s : State} {m : MethodId} {args : Array Value} {below : List Frame} {meth : Method} {c : Code} {Qf : State → Prop} {MC MS uc us N : Nat} {xs : Nat → Int32} {xa ma oa da : Nat} {i : Int32} {h : PH} (X : Cx E p l e (rmv 840 MC MS) s m args below meth c RL code 10 ret) (hG : Gs E l) (hgn : Gn E) (hlx : LX E s N xs) (hib : IB i N) {r : ((Int32 × PH) ⊕ (Nat × PH))} (hf : fX11_append xa (xs (Int32.toNatClampNeg (i + (1 : Int32)))) (xs (Int32.toNatClampNeg (i + (2 : Int32)))) (xs (Int32.toNatClampNeg (i + (3 : Int32)))) (xs (Int32.toNatClampNeg (i + (4 : Int32)))) (xs (Int32.toNatClampNeg (i + (5 : Int32)))) h = some r) (hk : hK h xa = 11) (hko : ∀ z, r = .inl z → hK z.2 oa = 23 ∧ 0 < hN z.2 oa) (hcd : ∀ z, r = .inr z → z.1 = 0) (hc : uc + (xT2 r - hX h) ≤ MC) (hs : us + (vT2 r - hV h) ≤ MS) (hm : ∀ (v : Option Value) (u : PH), ((∃ z : Int32 × PH, r = .inl z ∧ v = some (.int 0) ∧ u = sL z.2 23 oa (Int32.toNatClampNeg 0) (Int32.toInt64 z.1)) ∨ (∃ (z : Nat × PH) (n : Nat), r = .inr z ∧ hX z.2 ≤ n ∧ u = hbump z.2 n ∧ ((z.1 = 0 ∧ v = some (.int 1))))) → ∃ (code : Int32) (y : Int32 × PH), v = some (.int code) ∧ hK u ma = 12 ∧ fX12_append ma (xs (Int32.toNatClampNeg (i + (1 : Int32)))) (xs (Int32.toNatClampNeg (i + (2 : Int32)))) (xs (Int32.toNatClampNeg (i + (3 : Int32)))) (xs (Int32.toNatClampNeg (i + (4 : Int32)))) (xs (Int32.toNatClampNeg (i + (5 : Int32)))) u = some y ∧ hK y.2 ma = 12 ∧ fX12_thrown ma y.2 = some code ∧ (code = 0 → hK y.2 oa = 23 ∧ 0 < hN y.2 oa ∧ hL y.2 23 oa (Int32.toNatClampNeg 0) = Int32.toInt64 y.1) ∧ PW E p l e (rmv 840 MC MS) s m args below meth c 10 (uc + (xT2 r - hX h)) (us + (vT2 r - hV h)) Qf y.2 3150 [(0, some (.ref 0)), (1, some (.ref xa)), (2, some (.ref ma)), (3, some (.ref oa)), (4, some (.ref da)), (5, some (.int i))] []) : PW E p l e (rmv 840 MC MS) s m args below meth c 10 uc us Qf h 280 [(0, some (.ref 0)), (1, some (.ref xa)), (2, some (.ref ma)), (3, some (.ref oa)), (4, some (.ref da)), (5, some (.int i))] [] := by
  refine p_aload_n X (dcg dcl_0 0 rfl) rfl rfl ?_
  refine p_aload_n X (dcg dcl_0 1 rfl) rfl rfl ?_
  refine p_iload X (dcg dcl_0 2 rfl) rfl ?_
  refine p_iconst (v := 1) X (dcg dcl_0 3 rfl) (by decide) ?_
  refine p_iadd X (dcg dcl_0 4 rfl) ?_
  refine p_sld X hlx (dcg dcl_0 5 rfl) (vp_of_inb hib.2.1) ?_
  refine p_aload_n X (dcg dcl_0 6 rfl) rfl rfl ?_
  refine p_iload X (dcg dcl_0 7 rfl) rfl ?_
  refine p_iconst (v := 2) X (dcg dcl_0 8 rfl) (by decide) ?_
  refine p_iadd X (dcg dcl_0 9 rfl) ?_
  refine p_sld X hlx (dcg dcl_0 10 rfl) (vp_of_inb hib.2.2.1) ?_
  refine p_aload_n X (dcg dcl_0 11 rfl) rfl rfl ?_
  refine p_iload X (dcg dcl_0 12 rfl) rfl ?_
  refine p_iconst (v := 3) X (dcg dcl_0 13 rfl) (by decide) ?_
  refine p_iadd X (dcg dcl_0 14 rfl) ?_
  refine p_sld X hlx (dcg dcl_0 15 rfl) (vp_of_inb hib.2.2.2.1) ?_
  refine p_aload_n X (dcg dcl_0 16 rfl) rfl rfl ?_
  refine p_iload X (dcg dcl_0 17 rfl) rfl ?_
  refine p_iconst (v := 4) X (dcg dcl_0 18 rfl) (by decide) ?_
  refine p_iadd X (dcg dcl_0 19 rfl) ?_
  refine p_sld X hlx (dcg dcl_0 20 rfl) (vp_of_inb hib.2.2.2.2.1) ?_
  refine p_aload_n X (dcg dcl_0 21 rfl) rfl rfl ?_
  refine p_iload X (dcg dcl_0 22 rfl) rfl ?_
  refine p_iconst (v := 5) X (dcg dcl_0 23 rfl) (by decide) ?_
  refine p_iadd X (dcg dcl_0 24 rfl) ?_
  refine p_sld X hlx (dcg dcl_0 25 rfl) (vp_of_inb hib.2.2.2.2.2) ?_
  refine p_aload_n X (dcg dcl_0 26 rfl) rfl rfl ?_
  refine p_callSH (As := [_, _, _, _, _, _, _]) X mlh_155 (dcg dcl_0 27 rfl) rfl rfl (wL_append hG hgn hf hk hko hcd) (by decide) (room4 (Nat.le_of_ble_eq_true rfl)) hc hs ?_
  intro v9 u9 hw9
  obtain ⟨code, y, rfl, hk2, hy, hk3, hth, hval, hK⟩ := hm v9 u9 hw9
  refine p_istore X (dcg dcl_0 28 rfl) (by decide) rfl ?_
  refine p_aload_n X (dcg dcl_0 29 rfl) rfl rfl ?_
  refine p_aload_n X (dcg dcl_0 30 rfl) rfl rfl ?_
  refine p_iload X (dcg dcl_0 31 rfl) rfl ?_
  refine p_iconst (v := 1) X (dcg dcl_0 32 rfl) (by decide) ?_
  refine p_iadd X (dcg dcl_0 33 rfl) ?_
  refine p_sld X hlx (dcg dcl_0 34 rfl) (vp_of_inb hib.2.1) ?_
  refine p_aload_n X (dcg dcl_0 35 rfl) rfl rfl ?_
  refine p_iload X (dcg dcl_0 36 rfl) rfl ?_
  refine p_iconst (v := 2) X (dcg dcl_0 37 rfl) (by decide) ?_
  refine p_iadd X (dcg dcl_0 38 rfl) ?_
  refine p_sld X hlx (dcg dcl_0 39 rfl) (vp_of_inb hib.2.2.1) ?_
  refine p_aload_n X (dcg dcl_0 40 rfl) rfl rfl ?_
  refine p_iload X (dcg dcl_0 41 rfl) rfl ?_
  refine p_iconst (v := 3) X (dcg dcl_0 42 rfl) (by decide) ?_
  refine p_iadd X (dcg dcl_0 43 rfl) ?_
  refine p_sld X hlx (dcg dcl_0 44 rfl) (vp_of_inb hib.2.2.2.1) ?_
  refine p_aload_n X (dcg dcl_0 45 rfl) rfl rfl ?_
  refine p_iload X (dcg dcl_0 46 rfl) rfl ?_
  refine p_iconst (v := 4) X (dcg dcl_0 47 rfl) (by decide) ?_
  refine p_iadd X (dcg dcl_0 48 rfl) ?_
  refine p_sld X hlx (dcg dcl_0 49 rfl) (vp_of_inb hib.2.2.2.2.1) ?_
  refine p_aload_n X (dcg dcl_0 50 rfl) rfl rfl ?_
  refine p_iload X (dcg dcl_0 51 rfl) rfl ?_
  refine p_iconst (v := 5) X (dcg dcl_0 52 rfl) (by decide) ?_
  refine p_iadd X (dcg dcl_0 53 rfl) ?_
  refine p_sld X hlx (dcg dcl_0 54 rfl) (vp_of_inb hib.2.2.2.2.2) ?_
  refine p_callV (As := [_, _, _, _, _]) X ml_L_160 (dcg dcl_0 55 rfl) rfl rfl hk2 (wX12_append hG hy) (by decide) (room4 (Nat.le_of_ble_eq_true rfl)) (Nat.le_trans (Nat.le_of_eq (Nat.add_zero _)) hc) (Nat.le_trans (Nat.le_of_eq (Nat.add_zero _)) hs) ?_
  rintro _ u9 ⟨rfl, e9⟩; have e9 := e9.symm; subst e9
  refine p_istore X (dcg dcl_0 56 rfl) (by decide) rfl ?_
  refine p_aload_n X (dcg dcl_0 57 rfl) rfl rfl ?_
  refine p_callV (As := []) X ml_L_161 (dcg dcl_0 58 rfl) rfl rfl hk3 (wX12_thrown hG hth) (by decide) (room4 (Nat.le_of_ble_eq_true rfl)) (Nat.le_trans (Nat.le_of_eq (Nat.add_zero _)) hc) (Nat.le_trans (Nat.le_of_eq (Nat.add_zero _)) hs) ?_
  rintro _ u9 ⟨rfl, e9⟩; have e9 := e9.symm; subst e9
  refine p_iload X (dcg dcl_0 59 rfl) rfl ?_
  refine p_icmp_eq (tgt := 364) X (dcg dcl_0 60 rfl) (by decide) (fun q => ?_) (fun q => ?_)
  · refine p_iload X (dcg dcl_0 63 rfl) rfl ?_
    refine p_if_ne (tgt := 381) X (dcg dcl_0 64 rfl) (by decide) (fun q => ?_) (fun q => ?_)
    · refine p_goto (tgt := 3150) X (dcg dcl_0 74 rfl) (by decide) ?_
      refine p_pick [0, 1, 2, 3, 4, 5] ?_
      exact hK
    · obtain ⟨hko2, hln2, hvl⟩ := hval (Decidable.not_not.mp q)
      refine p_aload_n X (dcg dcl_0 65 rfl) rfl rfl ?_
      refine p_iconst (v := 0) X (dcg dcl_0 66 rfl) (by decide) ?_
      refine p_lald X (dcg dcl_0 67 rfl) hko2 (vp_of_inb ⟨by decide, hln2⟩) ?_
      refine p_iload X (dcg dcl_0 68 rfl) rfl ?_
      refine p_i2l X (dcg dcl_0 69 rfl) ?_
      refine p_lcmp X (dcg dcl_0 70 rfl) ?_
      refine p_if_eq (tgt := 381) X (dcg dcl_0 71 rfl) (by decide) (fun q => ?_) (fun q => ?_)
      · refine p_goto (tgt := 3150) X (dcg dcl_0 74 rfl) (by decide) ?_
        refine p_pick [0, 1, 2, 3, 4, 5] ?_
        exact hK
      · exact absurd (by rw [hvl]; exact lg_cmp_self _) q
  · exact absurd rfl q
theorem dcl_1 : decs code [(384, .aload_n 1, 1), (385, .invokevirtual 164, 3), (388, .aload_n 2, 1), (389, .invokevirtual 167, 3), (392, .if_icmp .eq 2758, 3), (395, .iconst 0, 1), (396, .ireturn, 1)] = true := by decide +kernel
set_option maxRecDepth 100000 in
theorem lc_1 {E : PE} {p : Program} {l : Launch} {e : Env} {s : State} {m : MethodId} {args : Array Value} {below : List Frame} {meth : Method} {c : Code} {Qf : State → Prop} {MC MS uc us N : Nat} {xs : Nat → Int32} {xa ma oa da : Nat} {i : Int32} {h : PH} (X : Cx E p l e (rmv 840 MC MS) s m args below meth c RL code 10 ret) (hG : Gs E l) (hgn : Gn E) (hlx : LX E s N xs) (hib : IB i N) {r : (Int32 × PH)} (hf : fX11_clearTape xa  h = some r) (hk : hK h xa = 11) (hc : uc + 0 ≤ MC) (hs : us + 0 ≤ MS) (hm : ∃ y : Int32 × PH, hK r.2 ma = 12 ∧ fX12_clearTape ma  r.2 = some y ∧ r.1 = y.1 ∧ PW E p l e (rmv 840 MC MS) s m args below meth c 10 (uc + 0) (us + 0) Qf y.2 3150 [(0, some (.ref 0)), (1, some (.ref xa)), (2, some (.ref ma)), (3, some (.ref oa)), (4, some (.ref da)), (5, some (.int i))] []) : PW E p l e (rmv 840 MC MS) s m args below meth c 10 uc us Qf h 384 [(0, some (.ref 0)), (1, some (.ref xa)), (2, some (.ref ma)), (3, some (.ref oa)), (4, some (.ref da)), (5, some (.int i))] [] := by
  refine p_aload_n X (dcg dcl_1 0 rfl) rfl rfl ?_
  refine p_callV (As := []) X ml_L_164 (dcg dcl_1 1 rfl) rfl rfl hk (wX11_clearTape hG hf) (by decide) (room4 (Nat.le_of_ble_eq_true rfl)) hc hs ?_
  rintro _ u9 ⟨rfl, e9⟩; have e9 := e9.symm; subst e9
  obtain ⟨y, hk2, hy, hyr, hK⟩ := hm
  refine p_aload_n X (dcg dcl_1 2 rfl) rfl rfl ?_
  refine p_callV (As := []) X ml_L_167 (dcg dcl_1 3 rfl) rfl rfl hk2 (wX12_clearTape hG hy) (by decide) (room4 (Nat.le_of_ble_eq_true rfl)) (Nat.le_trans (Nat.le_of_eq (Nat.add_zero _)) hc) (Nat.le_trans (Nat.le_of_eq (Nat.add_zero _)) hs) ?_
  rintro _ u9 ⟨rfl, e9⟩; have e9 := e9.symm; subst e9
  refine p_icmp_eq (tgt := 3150) X (dcg dcl_1 4 rfl) (by decide) (fun q => ?_) (fun q => ?_)
  · refine p_pick [0, 1, 2, 3, 4, 5] ?_
    exact hK
  · exact absurd hyr q
theorem dcl_2 : decs code [(397, .aload_n 1, 1), (398, .invokevirtual 168, 3), (401, .aload_n 2, 1), (402, .invokevirtual 171, 3), (405, .if_icmp .eq 2745, 3), (408, .iconst 0, 1), (409, .ireturn, 1)] = true := by decide +kernel
set_option maxRecDepth 100000 in
theorem lc_2 {E : PE} {p : Program} {l : Launch} {e : Env} {s : State} {m : MethodId} {args : Array Value} {below : List Frame} {meth : Method} {c : Code} {Qf : State → Prop} {MC MS uc us N : Nat} {xs : Nat → Int32} {xa ma oa da : Nat} {i : Int32} {h : PH} (X : Cx E p l e (rmv 840 MC MS) s m args below meth c RL code 10 ret) (hG : Gs E l) (hgn : Gn E) (hlx : LX E s N xs) (hib : IB i N) {r : Int32} (hf : fX11_errorPosition xa  h = some r) (hk : hK h xa = 11) (hc : uc + 0 ≤ MC) (hs : us + 0 ≤ MS) (hm : ∃ y : Int32 × PH, hK h ma = 12 ∧ fX12_errorPosition ma  h = some y ∧ r = y.1 ∧ PW E p l e (rmv 840 MC MS) s m args below meth c 10 (uc + 0) (us + 0) Qf y.2 3150 [(0, some (.ref 0)), (1, some (.ref xa)), (2, some (.ref ma)), (3, some (.ref oa)), (4, some (.ref da)), (5, some (.int i))] []) : PW E p l e (rmv 840 MC MS) s m args below meth c 10 uc us Qf h 397 [(0, some (.ref 0)), (1, some (.ref xa)), (2, some (.ref ma)), (3, some (.ref oa)), (4, some (.ref da)), (5, some (.int i))] [] := by
  refine p_aload_n X (dcg dcl_2 0 rfl) rfl rfl ?_
  refine p_callV (As := []) X ml_L_168 (dcg dcl_2 1 rfl) rfl rfl hk (wX11_errorPosition hG hf) (by decide) (room4 (Nat.le_of_ble_eq_true rfl)) hc hs ?_
  rintro _ u9 ⟨rfl, e9⟩; have e9 := e9.symm; subst e9
  obtain ⟨y, hk2, hy, hyr, hK⟩ := hm
  refine p_aload_n X (dcg dcl_2 2 rfl) rfl rfl ?_
  refine p_callV (As := []) X ml_L_171 (dcg dcl_2 3 rfl) rfl rfl hk2 (wX12_errorPosition hG hy) (by decide) (room4 (Nat.le_of_ble_eq_true rfl)) (Nat.le_trans (Nat.le_of_eq (Nat.add_zero _)) hc) (Nat.le_trans (Nat.le_of_eq (Nat.add_zero _)) hs) ?_
  rintro _ u9 ⟨rfl, e9⟩; have e9 := e9.symm; subst e9
  refine p_icmp_eq (tgt := 3150) X (dcg dcl_2 4 rfl) (by decide) (fun q => ?_) (fun q => ?_)
  · refine p_pick [0, 1, 2, 3, 4, 5] ?_
    exact hK
  · exact absurd hyr q
theorem dcl_3 : decs code [(410, .aload_n 1, 1), (411, .aload_n 3, 1), (412, .invokestatic 172, 3), (415, .istore 6, 2), (417, .aload_n 2, 1), (418, .invokevirtual 175, 3), (421, .istore 7, 2), (423, .aload_n 2, 1), (424, .invokevirtual 161, 3), (427, .iload 6, 2), (429, .if_icmp .eq 5, 3), (432, .iconst 0, 1), (433, .ireturn, 1), (434, .iload 6, 2), (436, .ifCond .ne 15, 3), (439, .aload_n 3, 1), (440, .iconst 0, 1), (441, .laload, 1), (442, .iload 7, 2), (444, .i2l, 1), (445, .lcmp, 1), (446, .ifCond .eq 5, 3), (449, .iconst 0, 1), (450, .ireturn, 1), (451, .goto 2699, 3)] = true := by decide +kernel
set_option maxRecDepth 100000 in
theorem lc_3 {E : PE} {p : Program} {l : Launch} {e : Env} {s : State} {m : MethodId} {args : Array Value} {below : List Frame} {meth : Method} {c : Code} {Qf : State → Prop} {MC MS uc us N : Nat} {xs : Nat → Int32} {xa ma oa da : Nat} {i : Int32} {h : PH} (X : Cx E p l e (rmv 840 MC MS) s m args below meth c RL code 10 ret) (hG : Gs E l) (hgn : Gn E) (hlx : LX E s N xs) (hib : IB i N) {r : ((Int32 × PH) ⊕ (Nat × PH))} (hf : fX11_addText xa  h = some r) (hk : hK h xa = 11) (hko : ∀ z, r = .inl z → hK z.2 oa = 23 ∧ 0 < hN z.2 oa) (hcd : ∀ z, r = .inr z → z.1 = 0 ∨ z.1 = 1) (hc : uc + (xT2 r - hX h) ≤ MC) (hs : us + (vT2 r - hV h) ≤ MS) (hm : ∀ (v : Option Value) (u : PH), ((∃ z : Int32 × PH, r = .inl z ∧ v = some (.int 0) ∧ u = sL z.2 23 oa (Int32.toNatClampNeg 0) (Int32.toInt64 z.1)) ∨ (∃ (z : Nat × PH) (n : Nat), r = .inr z ∧ hX z.2 ≤ n ∧ u = hbump z.2 n ∧ ((z.1 = 0 ∧ v = some (.int 1)) ∨ (z.1 = 1 ∧ v = some (.int 2))))) → ∃ (code : Int32) (y : Int32 × PH), v = some (.int code) ∧ hK u ma = 12 ∧ fX12_addText ma  u = some y ∧ hK y.2 ma = 12 ∧ fX12_thrown ma y.2 = some code ∧ (code = 0 → hK y.2 oa = 23 ∧ 0 < hN y.2 oa ∧ hL y.2 23 oa (Int32.toNatClampNeg 0) = Int32.toInt64 y.1) ∧ PW E p l e (rmv 840 MC MS) s m args below meth c 10 (uc + (xT2 r - hX h)) (us + (vT2 r - hV h)) Qf y.2 3150 [(0, some (.ref 0)), (1, some (.ref xa)), (2, some (.ref ma)), (3, some (.ref oa)), (4, some (.ref da)), (5, some (.int i))] []) : PW E p l e (rmv 840 MC MS) s m args below meth c 10 uc us Qf h 410 [(0, some (.ref 0)), (1, some (.ref xa)), (2, some (.ref ma)), (3, some (.ref oa)), (4, some (.ref da)), (5, some (.int i))] [] := by
  refine p_aload_n X (dcg dcl_3 0 rfl) rfl rfl ?_
  refine p_aload_n X (dcg dcl_3 1 rfl) rfl rfl ?_
  refine p_callSH (As := [_, _]) X mlh_172 (dcg dcl_3 2 rfl) rfl rfl (wL_addText hG hgn hf hk hko hcd) (by decide) (room4 (Nat.le_of_ble_eq_true rfl)) hc hs ?_
  intro v9 u9 hw9
  obtain ⟨code, y, rfl, hk2, hy, hk3, hth, hval, hK⟩ := hm v9 u9 hw9
  refine p_istore X (dcg dcl_3 3 rfl) (by decide) rfl ?_
  refine p_aload_n X (dcg dcl_3 4 rfl) rfl rfl ?_
  refine p_callV (As := []) X ml_L_175 (dcg dcl_3 5 rfl) rfl rfl hk2 (wX12_addText hG hy) (by decide) (room4 (Nat.le_of_ble_eq_true rfl)) (Nat.le_trans (Nat.le_of_eq (Nat.add_zero _)) hc) (Nat.le_trans (Nat.le_of_eq (Nat.add_zero _)) hs) ?_
  rintro _ u9 ⟨rfl, e9⟩; have e9 := e9.symm; subst e9
  refine p_istore X (dcg dcl_3 6 rfl) (by decide) rfl ?_
  refine p_aload_n X (dcg dcl_3 7 rfl) rfl rfl ?_
  refine p_callV (As := []) X ml_L_161 (dcg dcl_3 8 rfl) rfl rfl hk3 (wX12_thrown hG hth) (by decide) (room4 (Nat.le_of_ble_eq_true rfl)) (Nat.le_trans (Nat.le_of_eq (Nat.add_zero _)) hc) (Nat.le_trans (Nat.le_of_eq (Nat.add_zero _)) hs) ?_
  rintro _ u9 ⟨rfl, e9⟩; have e9 := e9.symm; subst e9
  refine p_iload X (dcg dcl_3 9 rfl) rfl ?_
  refine p_icmp_eq (tgt := 434) X (dcg dcl_3 10 rfl) (by decide) (fun q => ?_) (fun q => ?_)
  · refine p_iload X (dcg dcl_3 13 rfl) rfl ?_
    refine p_if_ne (tgt := 451) X (dcg dcl_3 14 rfl) (by decide) (fun q => ?_) (fun q => ?_)
    · refine p_goto (tgt := 3150) X (dcg dcl_3 24 rfl) (by decide) ?_
      refine p_pick [0, 1, 2, 3, 4, 5] ?_
      exact hK
    · obtain ⟨hko2, hln2, hvl⟩ := hval (Decidable.not_not.mp q)
      refine p_aload_n X (dcg dcl_3 15 rfl) rfl rfl ?_
      refine p_iconst (v := 0) X (dcg dcl_3 16 rfl) (by decide) ?_
      refine p_lald X (dcg dcl_3 17 rfl) hko2 (vp_of_inb ⟨by decide, hln2⟩) ?_
      refine p_iload X (dcg dcl_3 18 rfl) rfl ?_
      refine p_i2l X (dcg dcl_3 19 rfl) ?_
      refine p_lcmp X (dcg dcl_3 20 rfl) ?_
      refine p_if_eq (tgt := 451) X (dcg dcl_3 21 rfl) (by decide) (fun q => ?_) (fun q => ?_)
      · refine p_goto (tgt := 3150) X (dcg dcl_3 24 rfl) (by decide) ?_
        refine p_pick [0, 1, 2, 3, 4, 5] ?_
        exact hK
      · exact absurd (by rw [hvl]; exact lg_cmp_self _) q
  · exact absurd rfl q
theorem dcl_4 : decs code [(454, .aload_n 1, 1), (455, .aload_n 0, 1), (456, .iload 5, 2), (458, .iconst 1, 1), (459, .iadd, 1), (460, .iaload, 1), (461, .aload_n 3, 1), (462, .invokestatic 176, 3), (465, .istore 6, 2), (467, .aload_n 2, 1), (468, .aload_n 0, 1), (469, .iload 5, 2), (471, .iconst 1, 1), (472, .iadd, 1), (473, .iaload, 1), (474, .invokevirtual 179, 3), (477, .istore 7, 2), (479, .aload_n 2, 1), (480, .invokevirtual 161, 3), (483, .iload 6, 2), (485, .if_icmp .eq 5, 3), (488, .iconst 0, 1), (489, .ireturn, 1), (490, .iload 6, 2), (492, .ifCond .ne 15, 3), (495, .aload_n 3, 1), (496, .iconst 0, 1), (497, .laload, 1), (498, .iload 7, 2), (500, .i2l, 1), (501, .lcmp, 1), (502, .ifCond .eq 5, 3), (505, .iconst 0, 1), (506, .ireturn, 1), (507, .goto 2643, 3)] = true := by decide +kernel
set_option maxRecDepth 100000 in
theorem lc_4 {E : PE} {p : Program} {l : Launch} {e : Env} {s : State} {m : MethodId} {args : Array Value} {below : List Frame} {meth : Method} {c : Code} {Qf : State → Prop} {MC MS uc us N : Nat} {xs : Nat → Int32} {xa ma oa da : Nat} {i : Int32} {h : PH} (X : Cx E p l e (rmv 840 MC MS) s m args below meth c RL code 10 ret) (hG : Gs E l) (hgn : Gn E) (hlx : LX E s N xs) (hib : IB i N) {r : ((Int32 × PH) ⊕ (Nat × PH))} (hf : fX11_replaceText xa (xs (Int32.toNatClampNeg (i + (1 : Int32)))) h = some r) (hk : hK h xa = 11) (hko : ∀ z, r = .inl z → hK z.2 oa = 23 ∧ 0 < hN z.2 oa) (hcd : ∀ z, r = .inr z → z.1 = 2 ∨ z.1 = 1) (hc : uc + (xT2 r - hX h) ≤ MC) (hs : us + (vT2 r - hV h) ≤ MS) (hm : ∀ (v : Option Value) (u : PH), ((∃ z : Int32 × PH, r = .inl z ∧ v = some (.int 0) ∧ u = sL z.2 23 oa (Int32.toNatClampNeg 0) (Int32.toInt64 z.1)) ∨ (∃ (z : Nat × PH) (n : Nat), r = .inr z ∧ hX z.2 ≤ n ∧ u = hbump z.2 n ∧ ((z.1 = 2 ∧ v = some (.int 1)) ∨ (z.1 = 1 ∧ v = some (.int 2))))) → ∃ (code : Int32) (y : Int32 × PH), v = some (.int code) ∧ hK u ma = 12 ∧ fX12_replaceText ma (xs (Int32.toNatClampNeg (i + (1 : Int32)))) u = some y ∧ hK y.2 ma = 12 ∧ fX12_thrown ma y.2 = some code ∧ (code = 0 → hK y.2 oa = 23 ∧ 0 < hN y.2 oa ∧ hL y.2 23 oa (Int32.toNatClampNeg 0) = Int32.toInt64 y.1) ∧ PW E p l e (rmv 840 MC MS) s m args below meth c 10 (uc + (xT2 r - hX h)) (us + (vT2 r - hV h)) Qf y.2 3150 [(0, some (.ref 0)), (1, some (.ref xa)), (2, some (.ref ma)), (3, some (.ref oa)), (4, some (.ref da)), (5, some (.int i))] []) : PW E p l e (rmv 840 MC MS) s m args below meth c 10 uc us Qf h 454 [(0, some (.ref 0)), (1, some (.ref xa)), (2, some (.ref ma)), (3, some (.ref oa)), (4, some (.ref da)), (5, some (.int i))] [] := by
  refine p_aload_n X (dcg dcl_4 0 rfl) rfl rfl ?_
  refine p_aload_n X (dcg dcl_4 1 rfl) rfl rfl ?_
  refine p_iload X (dcg dcl_4 2 rfl) rfl ?_
  refine p_iconst (v := 1) X (dcg dcl_4 3 rfl) (by decide) ?_
  refine p_iadd X (dcg dcl_4 4 rfl) ?_
  refine p_sld X hlx (dcg dcl_4 5 rfl) (vp_of_inb hib.2.1) ?_
  refine p_aload_n X (dcg dcl_4 6 rfl) rfl rfl ?_
  refine p_callSH (As := [_, _, _]) X mlh_176 (dcg dcl_4 7 rfl) rfl rfl (wL_replaceText hG hgn hf hk hko hcd) (by decide) (room4 (Nat.le_of_ble_eq_true rfl)) hc hs ?_
  intro v9 u9 hw9
  obtain ⟨code, y, rfl, hk2, hy, hk3, hth, hval, hK⟩ := hm v9 u9 hw9
  refine p_istore X (dcg dcl_4 8 rfl) (by decide) rfl ?_
  refine p_aload_n X (dcg dcl_4 9 rfl) rfl rfl ?_
  refine p_aload_n X (dcg dcl_4 10 rfl) rfl rfl ?_
  refine p_iload X (dcg dcl_4 11 rfl) rfl ?_
  refine p_iconst (v := 1) X (dcg dcl_4 12 rfl) (by decide) ?_
  refine p_iadd X (dcg dcl_4 13 rfl) ?_
  refine p_sld X hlx (dcg dcl_4 14 rfl) (vp_of_inb hib.2.1) ?_
  refine p_callV (As := [_]) X ml_L_179 (dcg dcl_4 15 rfl) rfl rfl hk2 (wX12_replaceText hG hy) (by decide) (room4 (Nat.le_of_ble_eq_true rfl)) (Nat.le_trans (Nat.le_of_eq (Nat.add_zero _)) hc) (Nat.le_trans (Nat.le_of_eq (Nat.add_zero _)) hs) ?_
  rintro _ u9 ⟨rfl, e9⟩; have e9 := e9.symm; subst e9
  refine p_istore X (dcg dcl_4 16 rfl) (by decide) rfl ?_
  refine p_aload_n X (dcg dcl_4 17 rfl) rfl rfl ?_
  refine p_callV (As := []) X ml_L_161 (dcg dcl_4 18 rfl) rfl rfl hk3 (wX12_thrown hG hth) (by decide) (room4 (Nat.le_of_ble_eq_true rfl)) (Nat.le_trans (Nat.le_of_eq (Nat.add_zero _)) hc) (Nat.le_trans (Nat.le_of_eq (Nat.add_zero _)) hs) ?_
  rintro _ u9 ⟨rfl, e9⟩; have e9 := e9.symm; subst e9
  refine p_iload X (dcg dcl_4 19 rfl) rfl ?_
  refine p_icmp_eq (tgt := 490) X (dcg dcl_4 20 rfl) (by decide) (fun q => ?_) (fun q => ?_)
  · refine p_iload X (dcg dcl_4 23 rfl) rfl ?_
    refine p_if_ne (tgt := 507) X (dcg dcl_4 24 rfl) (by decide) (fun q => ?_) (fun q => ?_)
    · refine p_goto (tgt := 3150) X (dcg dcl_4 34 rfl) (by decide) ?_
      refine p_pick [0, 1, 2, 3, 4, 5] ?_
      exact hK
    · obtain ⟨hko2, hln2, hvl⟩ := hval (Decidable.not_not.mp q)
      refine p_aload_n X (dcg dcl_4 25 rfl) rfl rfl ?_
      refine p_iconst (v := 0) X (dcg dcl_4 26 rfl) (by decide) ?_
      refine p_lald X (dcg dcl_4 27 rfl) hko2 (vp_of_inb ⟨by decide, hln2⟩) ?_
      refine p_iload X (dcg dcl_4 28 rfl) rfl ?_
      refine p_i2l X (dcg dcl_4 29 rfl) ?_
      refine p_lcmp X (dcg dcl_4 30 rfl) ?_
      refine p_if_eq (tgt := 507) X (dcg dcl_4 31 rfl) (by decide) (fun q => ?_) (fun q => ?_)
      · refine p_goto (tgt := 3150) X (dcg dcl_4 34 rfl) (by decide) ?_
        refine p_pick [0, 1, 2, 3, 4, 5] ?_
        exact hK
      · exact absurd (by rw [hvl]; exact lg_cmp_self _) q
  · exact absurd rfl q
theorem dcl_5 : decs code [(510, .aload_n 1, 1), (511, .aload_n 0, 1), (512, .iload 5, 2), (514, .iconst 1, 1), (515, .iadd, 1), (516, .iaload, 1), (517, .aload_n 3, 1), (518, .invokestatic 180, 3), (521, .istore 6, 2), (523, .aload_n 2, 1), (524, .aload_n 0, 1), (525, .iload 5, 2), (527, .iconst 1, 1), (528, .iadd, 1), (529, .iaload, 1), (530, .invokevirtual 182, 3), (533, .istore 7, 2), (535, .aload_n 2, 1), (536, .invokevirtual 161, 3), (539, .iload 6, 2), (541, .if_icmp .eq 5, 3), (544, .iconst 0, 1), (545, .ireturn, 1), (546, .iload 6, 2), (548, .ifCond .ne 15, 3), (551, .aload_n 3, 1), (552, .iconst 0, 1), (553, .laload, 1), (554, .iload 7, 2), (556, .i2l, 1), (557, .lcmp, 1), (558, .ifCond .eq 5, 3), (561, .iconst 0, 1), (562, .ireturn, 1), (563, .goto 2587, 3)] = true := by decide +kernel
set_option maxRecDepth 100000 in
theorem lc_5 {E : PE} {p : Program} {l : Launch} {e : Env} {s : State} {m : MethodId} {args : Array Value} {below : List Frame} {meth : Method} {c : Code} {Qf : State → Prop} {MC MS uc us N : Nat} {xs : Nat → Int32} {xa ma oa da : Nat} {i : Int32} {h : PH} (X : Cx E p l e (rmv 840 MC MS) s m args below meth c RL code 10 ret) (hG : Gs E l) (hgn : Gn E) (hlx : LX E s N xs) (hib : IB i N) {r : ((Int32 × PH) ⊕ (Nat × PH))} (hf : fX11_removeText xa (xs (Int32.toNatClampNeg (i + (1 : Int32)))) h = some r) (hk : hK h xa = 11) (hko : ∀ z, r = .inl z → hK z.2 oa = 23 ∧ 0 < hN z.2 oa) (hcd : ∀ z, r = .inr z → z.1 = 2) (hc : uc + (xT2 r - hX h) ≤ MC) (hs : us + (vT2 r - hV h) ≤ MS) (hm : ∀ (v : Option Value) (u : PH), ((∃ z : Int32 × PH, r = .inl z ∧ v = some (.int 0) ∧ u = sL z.2 23 oa (Int32.toNatClampNeg 0) (Int32.toInt64 z.1)) ∨ (∃ (z : Nat × PH) (n : Nat), r = .inr z ∧ hX z.2 ≤ n ∧ u = hbump z.2 n ∧ ((z.1 = 2 ∧ v = some (.int 1))))) → ∃ (code : Int32) (y : Int32 × PH), v = some (.int code) ∧ hK u ma = 12 ∧ fX12_removeText ma (xs (Int32.toNatClampNeg (i + (1 : Int32)))) u = some y ∧ hK y.2 ma = 12 ∧ fX12_thrown ma y.2 = some code ∧ (code = 0 → hK y.2 oa = 23 ∧ 0 < hN y.2 oa ∧ hL y.2 23 oa (Int32.toNatClampNeg 0) = Int32.toInt64 y.1) ∧ PW E p l e (rmv 840 MC MS) s m args below meth c 10 (uc + (xT2 r - hX h)) (us + (vT2 r - hV h)) Qf y.2 3150 [(0, some (.ref 0)), (1, some (.ref xa)), (2, some (.ref ma)), (3, some (.ref oa)), (4, some (.ref da)), (5, some (.int i))] []) : PW E p l e (rmv 840 MC MS) s m args below meth c 10 uc us Qf h 510 [(0, some (.ref 0)), (1, some (.ref xa)), (2, some (.ref ma)), (3, some (.ref oa)), (4, some (.ref da)), (5, some (.int i))] [] := by
  refine p_aload_n X (dcg dcl_5 0 rfl) rfl rfl ?_
  refine p_aload_n X (dcg dcl_5 1 rfl) rfl rfl ?_
  refine p_iload X (dcg dcl_5 2 rfl) rfl ?_
  refine p_iconst (v := 1) X (dcg dcl_5 3 rfl) (by decide) ?_
  refine p_iadd X (dcg dcl_5 4 rfl) ?_
  refine p_sld X hlx (dcg dcl_5 5 rfl) (vp_of_inb hib.2.1) ?_
  refine p_aload_n X (dcg dcl_5 6 rfl) rfl rfl ?_
  refine p_callSH (As := [_, _, _]) X mlh_180 (dcg dcl_5 7 rfl) rfl rfl (wL_removeText hG hgn hf hk hko hcd) (by decide) (room4 (Nat.le_of_ble_eq_true rfl)) hc hs ?_
  intro v9 u9 hw9
  obtain ⟨code, y, rfl, hk2, hy, hk3, hth, hval, hK⟩ := hm v9 u9 hw9
  refine p_istore X (dcg dcl_5 8 rfl) (by decide) rfl ?_
  refine p_aload_n X (dcg dcl_5 9 rfl) rfl rfl ?_
  refine p_aload_n X (dcg dcl_5 10 rfl) rfl rfl ?_
  refine p_iload X (dcg dcl_5 11 rfl) rfl ?_
  refine p_iconst (v := 1) X (dcg dcl_5 12 rfl) (by decide) ?_
  refine p_iadd X (dcg dcl_5 13 rfl) ?_
  refine p_sld X hlx (dcg dcl_5 14 rfl) (vp_of_inb hib.2.1) ?_
  refine p_callV (As := [_]) X ml_L_182 (dcg dcl_5 15 rfl) rfl rfl hk2 (wX12_removeText hG hy) (by decide) (room4 (Nat.le_of_ble_eq_true rfl)) (Nat.le_trans (Nat.le_of_eq (Nat.add_zero _)) hc) (Nat.le_trans (Nat.le_of_eq (Nat.add_zero _)) hs) ?_
  rintro _ u9 ⟨rfl, e9⟩; have e9 := e9.symm; subst e9
  refine p_istore X (dcg dcl_5 16 rfl) (by decide) rfl ?_
  refine p_aload_n X (dcg dcl_5 17 rfl) rfl rfl ?_
  refine p_callV (As := []) X ml_L_161 (dcg dcl_5 18 rfl) rfl rfl hk3 (wX12_thrown hG hth) (by decide) (room4 (Nat.le_of_ble_eq_true rfl)) (Nat.le_trans (Nat.le_of_eq (Nat.add_zero _)) hc) (Nat.le_trans (Nat.le_of_eq (Nat.add_zero _)) hs) ?_
  rintro _ u9 ⟨rfl, e9⟩; have e9 := e9.symm; subst e9
  refine p_iload X (dcg dcl_5 19 rfl) rfl ?_
  refine p_icmp_eq (tgt := 546) X (dcg dcl_5 20 rfl) (by decide) (fun q => ?_) (fun q => ?_)
  · refine p_iload X (dcg dcl_5 23 rfl) rfl ?_
    refine p_if_ne (tgt := 563) X (dcg dcl_5 24 rfl) (by decide) (fun q => ?_) (fun q => ?_)
    · refine p_goto (tgt := 3150) X (dcg dcl_5 34 rfl) (by decide) ?_
      refine p_pick [0, 1, 2, 3, 4, 5] ?_
      exact hK
    · obtain ⟨hko2, hln2, hvl⟩ := hval (Decidable.not_not.mp q)
      refine p_aload_n X (dcg dcl_5 25 rfl) rfl rfl ?_
      refine p_iconst (v := 0) X (dcg dcl_5 26 rfl) (by decide) ?_
      refine p_lald X (dcg dcl_5 27 rfl) hko2 (vp_of_inb ⟨by decide, hln2⟩) ?_
      refine p_iload X (dcg dcl_5 28 rfl) rfl ?_
      refine p_i2l X (dcg dcl_5 29 rfl) ?_
      refine p_lcmp X (dcg dcl_5 30 rfl) ?_
      refine p_if_eq (tgt := 563) X (dcg dcl_5 31 rfl) (by decide) (fun q => ?_) (fun q => ?_)
      · refine p_goto (tgt := 3150) X (dcg dcl_5 34 rfl) (by decide) ?_
        refine p_pick [0, 1, 2, 3, 4, 5] ?_
        exact hK
      · exact absurd (by rw [hvl]; exact lg_cmp_self _) q
  · exact absurd rfl q
theorem dcl_6 : decs code [(566, .aload_n 1, 1), (567, .aload_n 0, 1), (568, .iload 5, 2), (570, .iconst 1, 1), (571, .iadd, 1), (572, .iaload, 1), (573, .aload_n 0, 1), (574, .iload 5, 2), (576, .iconst 2, 1), (577, .iadd, 1), (578, .iaload, 1), (579, .aload_n 0, 1), (580, .iload 5, 2), (582, .iconst 3, 1), (583, .iadd, 1), (584, .iaload, 1), (585, .aload_n 3, 1), (586, .invokestatic 183, 3), (589, .istore 6, 2), (591, .aload_n 2, 1), (592, .aload_n 0, 1), (593, .iload 5, 2), (595, .iconst 1, 1), (596, .iadd, 1), (597, .iaload, 1), (598, .aload_n 0, 1), (599, .iload 5, 2), (601, .iconst 2, 1), (602, .iadd, 1), (603, .iaload, 1), (604, .aload_n 0, 1), (605, .iload 5, 2), (607, .iconst 3, 1), (608, .iadd, 1), (609, .iaload, 1), (610, .invokevirtual 186, 3), (613, .istore 7, 2), (615, .aload_n 2, 1), (616, .invokevirtual 161, 3), (619, .iload 6, 2), (621, .if_icmp .eq 5, 3), (624, .iconst 0, 1), (625, .ireturn, 1), (626, .iload 6, 2), (628, .ifCond .ne 15, 3), (631, .aload_n 3, 1), (632, .iconst 0, 1), (633, .laload, 1), (634, .iload 7, 2), (636, .i2l, 1), (637, .lcmp, 1), (638, .ifCond .eq 5, 3), (641, .iconst 0, 1), (642, .ireturn, 1), (643, .goto 2507, 3)] = true := by decide +kernel
set_option maxRecDepth 100000 in
theorem lc_6 {E : PE} {p : Program} {l : Launch} {e : Env} {s : State} {m : MethodId} {args : Array Value} {below : List Frame} {meth : Method} {c : Code} {Qf : State → Prop} {MC MS uc us N : Nat} {xs : Nat → Int32} {xa ma oa da : Nat} {i : Int32} {h : PH} (X : Cx E p l e (rmv 840 MC MS) s m args below meth c RL code 10 ret) (hG : Gs E l) (hgn : Gn E) (hlx : LX E s N xs) (hib : IB i N) {r : ((Int32 × PH) ⊕ (Nat × PH))} (hf : fX11_putWord xa (xs (Int32.toNatClampNeg (i + (1 : Int32)))) (xs (Int32.toNatClampNeg (i + (2 : Int32)))) (xs (Int32.toNatClampNeg (i + (3 : Int32)))) h = some r) (hk : hK h xa = 11) (hko : ∀ z, r = .inl z → hK z.2 oa = 23 ∧ 0 < hN z.2 oa) (hcd : ∀ z, r = .inr z → z.1 = 2 ∨ z.1 = 1 ∨ z.1 = 0) (hc : uc + (xT2 r - hX h) ≤ MC) (hs : us + (vT2 r - hV h) ≤ MS) (hm : ∀ (v : Option Value) (u : PH), ((∃ z : Int32 × PH, r = .inl z ∧ v = some (.int 0) ∧ u = sL z.2 23 oa (Int32.toNatClampNeg 0) (Int32.toInt64 z.1)) ∨ (∃ (z : Nat × PH) (n : Nat), r = .inr z ∧ hX z.2 ≤ n ∧ u = hbump z.2 n ∧ ((z.1 = 2 ∧ v = some (.int 1)) ∨ (z.1 = 1 ∧ v = some (.int 2)) ∨ (z.1 = 0 ∧ v = some (.int 3))))) → ∃ (code : Int32) (y : Int32 × PH), v = some (.int code) ∧ hK u ma = 12 ∧ fX12_putWord ma (xs (Int32.toNatClampNeg (i + (1 : Int32)))) (xs (Int32.toNatClampNeg (i + (2 : Int32)))) (xs (Int32.toNatClampNeg (i + (3 : Int32)))) u = some y ∧ hK y.2 ma = 12 ∧ fX12_thrown ma y.2 = some code ∧ (code = 0 → hK y.2 oa = 23 ∧ 0 < hN y.2 oa ∧ hL y.2 23 oa (Int32.toNatClampNeg 0) = Int32.toInt64 y.1) ∧ PW E p l e (rmv 840 MC MS) s m args below meth c 10 (uc + (xT2 r - hX h)) (us + (vT2 r - hV h)) Qf y.2 3150 [(0, some (.ref 0)), (1, some (.ref xa)), (2, some (.ref ma)), (3, some (.ref oa)), (4, some (.ref da)), (5, some (.int i))] []) : PW E p l e (rmv 840 MC MS) s m args below meth c 10 uc us Qf h 566 [(0, some (.ref 0)), (1, some (.ref xa)), (2, some (.ref ma)), (3, some (.ref oa)), (4, some (.ref da)), (5, some (.int i))] [] := by
  refine p_aload_n X (dcg dcl_6 0 rfl) rfl rfl ?_
  refine p_aload_n X (dcg dcl_6 1 rfl) rfl rfl ?_
  refine p_iload X (dcg dcl_6 2 rfl) rfl ?_
  refine p_iconst (v := 1) X (dcg dcl_6 3 rfl) (by decide) ?_
  refine p_iadd X (dcg dcl_6 4 rfl) ?_
  refine p_sld X hlx (dcg dcl_6 5 rfl) (vp_of_inb hib.2.1) ?_
  refine p_aload_n X (dcg dcl_6 6 rfl) rfl rfl ?_
  refine p_iload X (dcg dcl_6 7 rfl) rfl ?_
  refine p_iconst (v := 2) X (dcg dcl_6 8 rfl) (by decide) ?_
  refine p_iadd X (dcg dcl_6 9 rfl) ?_
  refine p_sld X hlx (dcg dcl_6 10 rfl) (vp_of_inb hib.2.2.1) ?_
  refine p_aload_n X (dcg dcl_6 11 rfl) rfl rfl ?_
  refine p_iload X (dcg dcl_6 12 rfl) rfl ?_
  refine p_iconst (v := 3) X (dcg dcl_6 13 rfl) (by decide) ?_
  refine p_iadd X (dcg dcl_6 14 rfl) ?_
  refine p_sld X hlx (dcg dcl_6 15 rfl) (vp_of_inb hib.2.2.2.1) ?_
  refine p_aload_n X (dcg dcl_6 16 rfl) rfl rfl ?_
  refine p_callSH (As := [_, _, _, _, _]) X mlh_183 (dcg dcl_6 17 rfl) rfl rfl (wL_putWord hG hgn hf hk hko hcd) (by decide) (room4 (Nat.le_of_ble_eq_true rfl)) hc hs ?_
  intro v9 u9 hw9
  obtain ⟨code, y, rfl, hk2, hy, hk3, hth, hval, hK⟩ := hm v9 u9 hw9
  refine p_istore X (dcg dcl_6 18 rfl) (by decide) rfl ?_
  refine p_aload_n X (dcg dcl_6 19 rfl) rfl rfl ?_
  refine p_aload_n X (dcg dcl_6 20 rfl) rfl rfl ?_
  refine p_iload X (dcg dcl_6 21 rfl) rfl ?_
  refine p_iconst (v := 1) X (dcg dcl_6 22 rfl) (by decide) ?_
  refine p_iadd X (dcg dcl_6 23 rfl) ?_
  refine p_sld X hlx (dcg dcl_6 24 rfl) (vp_of_inb hib.2.1) ?_
  refine p_aload_n X (dcg dcl_6 25 rfl) rfl rfl ?_
  refine p_iload X (dcg dcl_6 26 rfl) rfl ?_
  refine p_iconst (v := 2) X (dcg dcl_6 27 rfl) (by decide) ?_
  refine p_iadd X (dcg dcl_6 28 rfl) ?_
  refine p_sld X hlx (dcg dcl_6 29 rfl) (vp_of_inb hib.2.2.1) ?_
  refine p_aload_n X (dcg dcl_6 30 rfl) rfl rfl ?_
  refine p_iload X (dcg dcl_6 31 rfl) rfl ?_
  refine p_iconst (v := 3) X (dcg dcl_6 32 rfl) (by decide) ?_
  refine p_iadd X (dcg dcl_6 33 rfl) ?_
  refine p_sld X hlx (dcg dcl_6 34 rfl) (vp_of_inb hib.2.2.2.1) ?_
  refine p_callV (As := [_, _, _]) X ml_L_186 (dcg dcl_6 35 rfl) rfl rfl hk2 (wX12_putWord hG hy) (by decide) (room4 (Nat.le_of_ble_eq_true rfl)) (Nat.le_trans (Nat.le_of_eq (Nat.add_zero _)) hc) (Nat.le_trans (Nat.le_of_eq (Nat.add_zero _)) hs) ?_
  rintro _ u9 ⟨rfl, e9⟩; have e9 := e9.symm; subst e9
  refine p_istore X (dcg dcl_6 36 rfl) (by decide) rfl ?_
  refine p_aload_n X (dcg dcl_6 37 rfl) rfl rfl ?_
  refine p_callV (As := []) X ml_L_161 (dcg dcl_6 38 rfl) rfl rfl hk3 (wX12_thrown hG hth) (by decide) (room4 (Nat.le_of_ble_eq_true rfl)) (Nat.le_trans (Nat.le_of_eq (Nat.add_zero _)) hc) (Nat.le_trans (Nat.le_of_eq (Nat.add_zero _)) hs) ?_
  rintro _ u9 ⟨rfl, e9⟩; have e9 := e9.symm; subst e9
  refine p_iload X (dcg dcl_6 39 rfl) rfl ?_
  refine p_icmp_eq (tgt := 626) X (dcg dcl_6 40 rfl) (by decide) (fun q => ?_) (fun q => ?_)
  · refine p_iload X (dcg dcl_6 43 rfl) rfl ?_
    refine p_if_ne (tgt := 643) X (dcg dcl_6 44 rfl) (by decide) (fun q => ?_) (fun q => ?_)
    · refine p_goto (tgt := 3150) X (dcg dcl_6 54 rfl) (by decide) ?_
      refine p_pick [0, 1, 2, 3, 4, 5] ?_
      exact hK
    · obtain ⟨hko2, hln2, hvl⟩ := hval (Decidable.not_not.mp q)
      refine p_aload_n X (dcg dcl_6 45 rfl) rfl rfl ?_
      refine p_iconst (v := 0) X (dcg dcl_6 46 rfl) (by decide) ?_
      refine p_lald X (dcg dcl_6 47 rfl) hko2 (vp_of_inb ⟨by decide, hln2⟩) ?_
      refine p_iload X (dcg dcl_6 48 rfl) rfl ?_
      refine p_i2l X (dcg dcl_6 49 rfl) ?_
      refine p_lcmp X (dcg dcl_6 50 rfl) ?_
      refine p_if_eq (tgt := 643) X (dcg dcl_6 51 rfl) (by decide) (fun q => ?_) (fun q => ?_)
      · refine p_goto (tgt := 3150) X (dcg dcl_6 54 rfl) (by decide) ?_
        refine p_pick [0, 1, 2, 3, 4, 5] ?_
        exact hK
      · exact absurd (by rw [hvl]; exact lg_cmp_self _) q
  · exact absurd rfl q
theorem dcl_7 : decs code [(646, .aload_n 1, 1), (647, .aload_n 0, 1), (648, .iload 5, 2), (650, .iconst 1, 1), (651, .iadd, 1), (652, .iaload, 1), (653, .aload_n 0, 1), (654, .iload 5, 2), (656, .iconst 2, 1), (657, .iadd, 1), (658, .iaload, 1), (659, .aload_n 3, 1), (660, .invokestatic 187, 3), (663, .istore 6, 2), (665, .aload_n 2, 1), (666, .aload_n 0, 1), (667, .iload 5, 2), (669, .iconst 1, 1), (670, .iadd, 1), (671, .iaload, 1), (672, .aload_n 0, 1), (673, .iload 5, 2), (675, .iconst 2, 1), (676, .iadd, 1), (677, .iaload, 1), (678, .invokevirtual 190, 3), (681, .istore 7, 2), (683, .aload_n 2, 1), (684, .invokevirtual 161, 3), (687, .iload 6, 2), (689, .if_icmp .eq 5, 3), (692, .iconst 0, 1), (693, .ireturn, 1), (694, .iload 6, 2), (696, .ifCond .ne 15, 3), (699, .aload_n 3, 1), (700, .iconst 0, 1), (701, .laload, 1), (702, .iload 7, 2), (704, .i2l, 1), (705, .lcmp, 1), (706, .ifCond .eq 5, 3), (709, .iconst 0, 1), (710, .ireturn, 1), (711, .goto 2439, 3)] = true := by decide +kernel
set_option maxRecDepth 100000 in
theorem lc_7 {E : PE} {p : Program} {l : Launch} {e : Env} {s : State} {m : MethodId} {args : Array Value} {below : List Frame} {meth : Method} {c : Code} {Qf : State → Prop} {MC MS uc us N : Nat} {xs : Nat → Int32} {xa ma oa da : Nat} {i : Int32} {h : PH} (X : Cx E p l e (rmv 840 MC MS) s m args below meth c RL code 10 ret) (hG : Gs E l) (hgn : Gn E) (hlx : LX E s N xs) (hib : IB i N) {r : ((Int32 × PH) ⊕ (Nat × PH))} (hf : fX11_takeWord xa (xs (Int32.toNatClampNeg (i + (1 : Int32)))) (xs (Int32.toNatClampNeg (i + (2 : Int32)))) h = some r) (hk : hK h xa = 11) (hko : ∀ z, r = .inl z → hK z.2 oa = 23 ∧ 0 < hN z.2 oa) (hcd : ∀ z, r = .inr z → z.1 = 2) (hc : uc + (xT2 r - hX h) ≤ MC) (hs : us + (vT2 r - hV h) ≤ MS) (hm : ∀ (v : Option Value) (u : PH), ((∃ z : Int32 × PH, r = .inl z ∧ v = some (.int 0) ∧ u = sL z.2 23 oa (Int32.toNatClampNeg 0) (Int32.toInt64 z.1)) ∨ (∃ (z : Nat × PH) (n : Nat), r = .inr z ∧ hX z.2 ≤ n ∧ u = hbump z.2 n ∧ ((z.1 = 2 ∧ v = some (.int 1))))) → ∃ (code : Int32) (y : Int32 × PH), v = some (.int code) ∧ hK u ma = 12 ∧ fX12_takeWord ma (xs (Int32.toNatClampNeg (i + (1 : Int32)))) (xs (Int32.toNatClampNeg (i + (2 : Int32)))) u = some y ∧ hK y.2 ma = 12 ∧ fX12_thrown ma y.2 = some code ∧ (code = 0 → hK y.2 oa = 23 ∧ 0 < hN y.2 oa ∧ hL y.2 23 oa (Int32.toNatClampNeg 0) = Int32.toInt64 y.1) ∧ PW E p l e (rmv 840 MC MS) s m args below meth c 10 (uc + (xT2 r - hX h)) (us + (vT2 r - hV h)) Qf y.2 3150 [(0, some (.ref 0)), (1, some (.ref xa)), (2, some (.ref ma)), (3, some (.ref oa)), (4, some (.ref da)), (5, some (.int i))] []) : PW E p l e (rmv 840 MC MS) s m args below meth c 10 uc us Qf h 646 [(0, some (.ref 0)), (1, some (.ref xa)), (2, some (.ref ma)), (3, some (.ref oa)), (4, some (.ref da)), (5, some (.int i))] [] := by
  refine p_aload_n X (dcg dcl_7 0 rfl) rfl rfl ?_
  refine p_aload_n X (dcg dcl_7 1 rfl) rfl rfl ?_
  refine p_iload X (dcg dcl_7 2 rfl) rfl ?_
  refine p_iconst (v := 1) X (dcg dcl_7 3 rfl) (by decide) ?_
  refine p_iadd X (dcg dcl_7 4 rfl) ?_
  refine p_sld X hlx (dcg dcl_7 5 rfl) (vp_of_inb hib.2.1) ?_
  refine p_aload_n X (dcg dcl_7 6 rfl) rfl rfl ?_
  refine p_iload X (dcg dcl_7 7 rfl) rfl ?_
  refine p_iconst (v := 2) X (dcg dcl_7 8 rfl) (by decide) ?_
  refine p_iadd X (dcg dcl_7 9 rfl) ?_
  refine p_sld X hlx (dcg dcl_7 10 rfl) (vp_of_inb hib.2.2.1) ?_
  refine p_aload_n X (dcg dcl_7 11 rfl) rfl rfl ?_
  refine p_callSH (As := [_, _, _, _]) X mlh_187 (dcg dcl_7 12 rfl) rfl rfl (wL_takeWord hG hgn hf hk hko hcd) (by decide) (room4 (Nat.le_of_ble_eq_true rfl)) hc hs ?_
  intro v9 u9 hw9
  obtain ⟨code, y, rfl, hk2, hy, hk3, hth, hval, hK⟩ := hm v9 u9 hw9
  refine p_istore X (dcg dcl_7 13 rfl) (by decide) rfl ?_
  refine p_aload_n X (dcg dcl_7 14 rfl) rfl rfl ?_
  refine p_aload_n X (dcg dcl_7 15 rfl) rfl rfl ?_
  refine p_iload X (dcg dcl_7 16 rfl) rfl ?_
  refine p_iconst (v := 1) X (dcg dcl_7 17 rfl) (by decide) ?_
  refine p_iadd X (dcg dcl_7 18 rfl) ?_
  refine p_sld X hlx (dcg dcl_7 19 rfl) (vp_of_inb hib.2.1) ?_
  refine p_aload_n X (dcg dcl_7 20 rfl) rfl rfl ?_
  refine p_iload X (dcg dcl_7 21 rfl) rfl ?_
  refine p_iconst (v := 2) X (dcg dcl_7 22 rfl) (by decide) ?_
  refine p_iadd X (dcg dcl_7 23 rfl) ?_
  refine p_sld X hlx (dcg dcl_7 24 rfl) (vp_of_inb hib.2.2.1) ?_
  refine p_callV (As := [_, _]) X ml_L_190 (dcg dcl_7 25 rfl) rfl rfl hk2 (wX12_takeWord hG hy) (by decide) (room4 (Nat.le_of_ble_eq_true rfl)) (Nat.le_trans (Nat.le_of_eq (Nat.add_zero _)) hc) (Nat.le_trans (Nat.le_of_eq (Nat.add_zero _)) hs) ?_
  rintro _ u9 ⟨rfl, e9⟩; have e9 := e9.symm; subst e9
  refine p_istore X (dcg dcl_7 26 rfl) (by decide) rfl ?_
  refine p_aload_n X (dcg dcl_7 27 rfl) rfl rfl ?_
  refine p_callV (As := []) X ml_L_161 (dcg dcl_7 28 rfl) rfl rfl hk3 (wX12_thrown hG hth) (by decide) (room4 (Nat.le_of_ble_eq_true rfl)) (Nat.le_trans (Nat.le_of_eq (Nat.add_zero _)) hc) (Nat.le_trans (Nat.le_of_eq (Nat.add_zero _)) hs) ?_
  rintro _ u9 ⟨rfl, e9⟩; have e9 := e9.symm; subst e9
  refine p_iload X (dcg dcl_7 29 rfl) rfl ?_
  refine p_icmp_eq (tgt := 694) X (dcg dcl_7 30 rfl) (by decide) (fun q => ?_) (fun q => ?_)
  · refine p_iload X (dcg dcl_7 33 rfl) rfl ?_
    refine p_if_ne (tgt := 711) X (dcg dcl_7 34 rfl) (by decide) (fun q => ?_) (fun q => ?_)
    · refine p_goto (tgt := 3150) X (dcg dcl_7 44 rfl) (by decide) ?_
      refine p_pick [0, 1, 2, 3, 4, 5] ?_
      exact hK
    · obtain ⟨hko2, hln2, hvl⟩ := hval (Decidable.not_not.mp q)
      refine p_aload_n X (dcg dcl_7 35 rfl) rfl rfl ?_
      refine p_iconst (v := 0) X (dcg dcl_7 36 rfl) (by decide) ?_
      refine p_lald X (dcg dcl_7 37 rfl) hko2 (vp_of_inb ⟨by decide, hln2⟩) ?_
      refine p_iload X (dcg dcl_7 38 rfl) rfl ?_
      refine p_i2l X (dcg dcl_7 39 rfl) ?_
      refine p_lcmp X (dcg dcl_7 40 rfl) ?_
      refine p_if_eq (tgt := 711) X (dcg dcl_7 41 rfl) (by decide) (fun q => ?_) (fun q => ?_)
      · refine p_goto (tgt := 3150) X (dcg dcl_7 44 rfl) (by decide) ?_
        refine p_pick [0, 1, 2, 3, 4, 5] ?_
        exact hK
      · exact absurd (by rw [hvl]; exact lg_cmp_self _) q
  · exact absurd rfl q
theorem dcl_8 : decs code [(714, .aload_n 1, 1), (715, .aload_n 0, 1), (716, .iload 5, 2), (718, .iconst 1, 1), (719, .iadd, 1), (720, .iaload, 1), (721, .aload_n 0, 1), (722, .iload 5, 2), (724, .iconst 2, 1), (725, .iadd, 1), (726, .iaload, 1), (727, .aload_n 0, 1), (728, .iload 5, 2), (730, .iconst 3, 1), (731, .iadd, 1), (732, .iaload, 1), (733, .aload_n 3, 1), (734, .invokestatic 191, 3), (737, .istore 6, 2), (739, .aload_n 2, 1), (740, .aload_n 0, 1), (741, .iload 5, 2), (743, .iconst 1, 1), (744, .iadd, 1), (745, .iaload, 1), (746, .aload_n 0, 1), (747, .iload 5, 2), (749, .iconst 2, 1), (750, .iadd, 1), (751, .iaload, 1), (752, .aload_n 0, 1), (753, .iload 5, 2), (755, .iconst 3, 1), (756, .iadd, 1), (757, .iaload, 1), (758, .invokevirtual 193, 3), (761, .istore 7, 2), (763, .aload_n 2, 1), (764, .invokevirtual 161, 3), (767, .iload 6, 2), (769, .if_icmp .eq 5, 3), (772, .iconst 0, 1), (773, .ireturn, 1), (774, .iload 6, 2), (776, .ifCond .ne 15, 3), (779, .aload_n 3, 1), (780, .iconst 0, 1), (781, .laload, 1), (782, .iload 7, 2), (784, .i2l, 1), (785, .lcmp, 1), (786, .ifCond .eq 5, 3), (789, .iconst 0, 1), (790, .ireturn, 1), (791, .goto 2359, 3)] = true := by decide +kernel
set_option maxRecDepth 100000 in
theorem lc_8 {E : PE} {p : Program} {l : Launch} {e : Env} {s : State} {m : MethodId} {args : Array Value} {below : List Frame} {meth : Method} {c : Code} {Qf : State → Prop} {MC MS uc us N : Nat} {xs : Nat → Int32} {xa ma oa da : Nat} {i : Int32} {h : PH} (X : Cx E p l e (rmv 840 MC MS) s m args below meth c RL code 10 ret) (hG : Gs E l) (hgn : Gn E) (hlx : LX E s N xs) (hib : IB i N) {r : ((Int32 × PH) ⊕ (Nat × PH))} (hf : fX11_setWord xa (xs (Int32.toNatClampNeg (i + (1 : Int32)))) (xs (Int32.toNatClampNeg (i + (2 : Int32)))) (xs (Int32.toNatClampNeg (i + (3 : Int32)))) h = some r) (hk : hK h xa = 11) (hko : ∀ z, r = .inl z → hK z.2 oa = 23 ∧ 0 < hN z.2 oa) (hcd : ∀ z, r = .inr z → z.1 = 2 ∨ z.1 = 1) (hc : uc + (xT2 r - hX h) ≤ MC) (hs : us + (vT2 r - hV h) ≤ MS) (hm : ∀ (v : Option Value) (u : PH), ((∃ z : Int32 × PH, r = .inl z ∧ v = some (.int 0) ∧ u = sL z.2 23 oa (Int32.toNatClampNeg 0) (Int32.toInt64 z.1)) ∨ (∃ (z : Nat × PH) (n : Nat), r = .inr z ∧ hX z.2 ≤ n ∧ u = hbump z.2 n ∧ ((z.1 = 2 ∧ v = some (.int 1)) ∨ (z.1 = 1 ∧ v = some (.int 2))))) → ∃ (code : Int32) (y : Int32 × PH), v = some (.int code) ∧ hK u ma = 12 ∧ fX12_setWord ma (xs (Int32.toNatClampNeg (i + (1 : Int32)))) (xs (Int32.toNatClampNeg (i + (2 : Int32)))) (xs (Int32.toNatClampNeg (i + (3 : Int32)))) u = some y ∧ hK y.2 ma = 12 ∧ fX12_thrown ma y.2 = some code ∧ (code = 0 → hK y.2 oa = 23 ∧ 0 < hN y.2 oa ∧ hL y.2 23 oa (Int32.toNatClampNeg 0) = Int32.toInt64 y.1) ∧ PW E p l e (rmv 840 MC MS) s m args below meth c 10 (uc + (xT2 r - hX h)) (us + (vT2 r - hV h)) Qf y.2 3150 [(0, some (.ref 0)), (1, some (.ref xa)), (2, some (.ref ma)), (3, some (.ref oa)), (4, some (.ref da)), (5, some (.int i))] []) : PW E p l e (rmv 840 MC MS) s m args below meth c 10 uc us Qf h 714 [(0, some (.ref 0)), (1, some (.ref xa)), (2, some (.ref ma)), (3, some (.ref oa)), (4, some (.ref da)), (5, some (.int i))] [] := by
  refine p_aload_n X (dcg dcl_8 0 rfl) rfl rfl ?_
  refine p_aload_n X (dcg dcl_8 1 rfl) rfl rfl ?_
  refine p_iload X (dcg dcl_8 2 rfl) rfl ?_
  refine p_iconst (v := 1) X (dcg dcl_8 3 rfl) (by decide) ?_
  refine p_iadd X (dcg dcl_8 4 rfl) ?_
  refine p_sld X hlx (dcg dcl_8 5 rfl) (vp_of_inb hib.2.1) ?_
  refine p_aload_n X (dcg dcl_8 6 rfl) rfl rfl ?_
  refine p_iload X (dcg dcl_8 7 rfl) rfl ?_
  refine p_iconst (v := 2) X (dcg dcl_8 8 rfl) (by decide) ?_
  refine p_iadd X (dcg dcl_8 9 rfl) ?_
  refine p_sld X hlx (dcg dcl_8 10 rfl) (vp_of_inb hib.2.2.1) ?_
  refine p_aload_n X (dcg dcl_8 11 rfl) rfl rfl ?_
  refine p_iload X (dcg dcl_8 12 rfl) rfl ?_
  refine p_iconst (v := 3) X (dcg dcl_8 13 rfl) (by decide) ?_
  refine p_iadd X (dcg dcl_8 14 rfl) ?_
  refine p_sld X hlx (dcg dcl_8 15 rfl) (vp_of_inb hib.2.2.2.1) ?_
  refine p_aload_n X (dcg dcl_8 16 rfl) rfl rfl ?_
  refine p_callSH (As := [_, _, _, _, _]) X mlh_191 (dcg dcl_8 17 rfl) rfl rfl (wL_setWord hG hgn hf hk hko hcd) (by decide) (room4 (Nat.le_of_ble_eq_true rfl)) hc hs ?_
  intro v9 u9 hw9
  obtain ⟨code, y, rfl, hk2, hy, hk3, hth, hval, hK⟩ := hm v9 u9 hw9
  refine p_istore X (dcg dcl_8 18 rfl) (by decide) rfl ?_
  refine p_aload_n X (dcg dcl_8 19 rfl) rfl rfl ?_
  refine p_aload_n X (dcg dcl_8 20 rfl) rfl rfl ?_
  refine p_iload X (dcg dcl_8 21 rfl) rfl ?_
  refine p_iconst (v := 1) X (dcg dcl_8 22 rfl) (by decide) ?_
  refine p_iadd X (dcg dcl_8 23 rfl) ?_
  refine p_sld X hlx (dcg dcl_8 24 rfl) (vp_of_inb hib.2.1) ?_
  refine p_aload_n X (dcg dcl_8 25 rfl) rfl rfl ?_
  refine p_iload X (dcg dcl_8 26 rfl) rfl ?_
  refine p_iconst (v := 2) X (dcg dcl_8 27 rfl) (by decide) ?_
  refine p_iadd X (dcg dcl_8 28 rfl) ?_
  refine p_sld X hlx (dcg dcl_8 29 rfl) (vp_of_inb hib.2.2.1) ?_
  refine p_aload_n X (dcg dcl_8 30 rfl) rfl rfl ?_
  refine p_iload X (dcg dcl_8 31 rfl) rfl ?_
  refine p_iconst (v := 3) X (dcg dcl_8 32 rfl) (by decide) ?_
  refine p_iadd X (dcg dcl_8 33 rfl) ?_
  refine p_sld X hlx (dcg dcl_8 34 rfl) (vp_of_inb hib.2.2.2.1) ?_
  refine p_callV (As := [_, _, _]) X ml_L_193 (dcg dcl_8 35 rfl) rfl rfl hk2 (wX12_setWord hG hy) (by decide) (room4 (Nat.le_of_ble_eq_true rfl)) (Nat.le_trans (Nat.le_of_eq (Nat.add_zero _)) hc) (Nat.le_trans (Nat.le_of_eq (Nat.add_zero _)) hs) ?_
  rintro _ u9 ⟨rfl, e9⟩; have e9 := e9.symm; subst e9
  refine p_istore X (dcg dcl_8 36 rfl) (by decide) rfl ?_
  refine p_aload_n X (dcg dcl_8 37 rfl) rfl rfl ?_
  refine p_callV (As := []) X ml_L_161 (dcg dcl_8 38 rfl) rfl rfl hk3 (wX12_thrown hG hth) (by decide) (room4 (Nat.le_of_ble_eq_true rfl)) (Nat.le_trans (Nat.le_of_eq (Nat.add_zero _)) hc) (Nat.le_trans (Nat.le_of_eq (Nat.add_zero _)) hs) ?_
  rintro _ u9 ⟨rfl, e9⟩; have e9 := e9.symm; subst e9
  refine p_iload X (dcg dcl_8 39 rfl) rfl ?_
  refine p_icmp_eq (tgt := 774) X (dcg dcl_8 40 rfl) (by decide) (fun q => ?_) (fun q => ?_)
  · refine p_iload X (dcg dcl_8 43 rfl) rfl ?_
    refine p_if_ne (tgt := 791) X (dcg dcl_8 44 rfl) (by decide) (fun q => ?_) (fun q => ?_)
    · refine p_goto (tgt := 3150) X (dcg dcl_8 54 rfl) (by decide) ?_
      refine p_pick [0, 1, 2, 3, 4, 5] ?_
      exact hK
    · obtain ⟨hko2, hln2, hvl⟩ := hval (Decidable.not_not.mp q)
      refine p_aload_n X (dcg dcl_8 45 rfl) rfl rfl ?_
      refine p_iconst (v := 0) X (dcg dcl_8 46 rfl) (by decide) ?_
      refine p_lald X (dcg dcl_8 47 rfl) hko2 (vp_of_inb ⟨by decide, hln2⟩) ?_
      refine p_iload X (dcg dcl_8 48 rfl) rfl ?_
      refine p_i2l X (dcg dcl_8 49 rfl) ?_
      refine p_lcmp X (dcg dcl_8 50 rfl) ?_
      refine p_if_eq (tgt := 791) X (dcg dcl_8 51 rfl) (by decide) (fun q => ?_) (fun q => ?_)
      · refine p_goto (tgt := 3150) X (dcg dcl_8 54 rfl) (by decide) ?_
        refine p_pick [0, 1, 2, 3, 4, 5] ?_
        exact hK
      · exact absurd (by rw [hvl]; exact lg_cmp_self _) q
  · exact absurd rfl q
theorem dcl_9 : decs code [(794, .aload_n 1, 1), (795, .invokevirtual 194, 3), (798, .aload_n 2, 1), (799, .invokevirtual 197, 3), (802, .if_icmp .eq 2348, 3), (805, .iconst 0, 1), (806, .ireturn, 1)] = true := by decide +kernel
set_option maxRecDepth 100000 in
theorem lc_9 {E : PE} {p : Program} {l : Launch} {e : Env} {s : State} {m : MethodId} {args : Array Value} {below : List Frame} {meth : Method} {c : Code} {Qf : State → Prop} {MC MS uc us N : Nat} {xs : Nat → Int32} {xa ma oa da : Nat} {i : Int32} {h : PH} (X : Cx E p l e (rmv 840 MC MS) s m args below meth c RL code 10 ret) (hG : Gs E l) (hgn : Gn E) (hlx : LX E s N xs) (hib : IB i N) {r : (Int32 × PH)} (hf : fX11_undo xa  h = some r) (hk : hK h xa = 11) (hc : uc + (hX r.2 - hX h) ≤ MC) (hs : us + (hV r.2 - hV h) ≤ MS) (hm : ∃ y : Int32 × PH, hK r.2 ma = 12 ∧ fX12_undo ma  r.2 = some y ∧ r.1 = y.1 ∧ PW E p l e (rmv 840 MC MS) s m args below meth c 10 (uc + (hX r.2 - hX h)) (us + (hV r.2 - hV h)) Qf y.2 3150 [(0, some (.ref 0)), (1, some (.ref xa)), (2, some (.ref ma)), (3, some (.ref oa)), (4, some (.ref da)), (5, some (.int i))] []) : PW E p l e (rmv 840 MC MS) s m args below meth c 10 uc us Qf h 794 [(0, some (.ref 0)), (1, some (.ref xa)), (2, some (.ref ma)), (3, some (.ref oa)), (4, some (.ref da)), (5, some (.int i))] [] := by
  refine p_aload_n X (dcg dcl_9 0 rfl) rfl rfl ?_
  refine p_callV (As := []) X ml_L_194 (dcg dcl_9 1 rfl) rfl rfl hk (wX11_undo hG hf) (by decide) (room4 (Nat.le_of_ble_eq_true rfl)) hc hs ?_
  rintro _ u9 ⟨rfl, e9⟩; have e9 := e9.symm; subst e9
  obtain ⟨y, hk2, hy, hyr, hK⟩ := hm
  refine p_aload_n X (dcg dcl_9 2 rfl) rfl rfl ?_
  refine p_callV (As := []) X ml_L_197 (dcg dcl_9 3 rfl) rfl rfl hk2 (wX12_undo hG hy) (by decide) (room4 (Nat.le_of_ble_eq_true rfl)) (Nat.le_trans (Nat.le_of_eq (Nat.add_zero _)) hc) (Nat.le_trans (Nat.le_of_eq (Nat.add_zero _)) hs) ?_
  rintro _ u9 ⟨rfl, e9⟩; have e9 := e9.symm; subst e9
  refine p_icmp_eq (tgt := 3150) X (dcg dcl_9 4 rfl) (by decide) (fun q => ?_) (fun q => ?_)
  · refine p_pick [0, 1, 2, 3, 4, 5] ?_
    exact hK
  · exact absurd hyr q
theorem dcl_10 : decs code [(807, .aload_n 1, 1), (808, .invokevirtual 198, 3), (811, .aload_n 2, 1), (812, .invokevirtual 201, 3), (815, .if_icmp .eq 2335, 3), (818, .iconst 0, 1), (819, .ireturn, 1)] = true := by decide +kernel
set_option maxRecDepth 100000 in
theorem lc_10 {E : PE} {p : Program} {l : Launch} {e : Env} {s : State} {m : MethodId} {args : Array Value} {below : List Frame} {meth : Method} {c : Code} {Qf : State → Prop} {MC MS uc us N : Nat} {xs : Nat → Int32} {xa ma oa da : Nat} {i : Int32} {h : PH} (X : Cx E p l e (rmv 840 MC MS) s m args below meth c RL code 10 ret) (hG : Gs E l) (hgn : Gn E) (hlx : LX E s N xs) (hib : IB i N) {r : Int32} (hf : fX11_undoable xa  h = some r) (hk : hK h xa = 11) (hc : uc + 0 ≤ MC) (hs : us + 0 ≤ MS) (hm : ∃ y : Int32 × PH, hK h ma = 12 ∧ fX12_undoable ma  h = some y ∧ r = y.1 ∧ PW E p l e (rmv 840 MC MS) s m args below meth c 10 (uc + 0) (us + 0) Qf y.2 3150 [(0, some (.ref 0)), (1, some (.ref xa)), (2, some (.ref ma)), (3, some (.ref oa)), (4, some (.ref da)), (5, some (.int i))] []) : PW E p l e (rmv 840 MC MS) s m args below meth c 10 uc us Qf h 807 [(0, some (.ref 0)), (1, some (.ref xa)), (2, some (.ref ma)), (3, some (.ref oa)), (4, some (.ref da)), (5, some (.int i))] [] := by
  refine p_aload_n X (dcg dcl_10 0 rfl) rfl rfl ?_
  refine p_callV (As := []) X ml_L_198 (dcg dcl_10 1 rfl) rfl rfl hk (wX11_undoable hG hf) (by decide) (room4 (Nat.le_of_ble_eq_true rfl)) hc hs ?_
  rintro _ u9 ⟨rfl, e9⟩; have e9 := e9.symm; subst e9
  obtain ⟨y, hk2, hy, hyr, hK⟩ := hm
  refine p_aload_n X (dcg dcl_10 2 rfl) rfl rfl ?_
  refine p_callV (As := []) X ml_L_201 (dcg dcl_10 3 rfl) rfl rfl hk2 (wX12_undoable hG hy) (by decide) (room4 (Nat.le_of_ble_eq_true rfl)) (Nat.le_trans (Nat.le_of_eq (Nat.add_zero _)) hc) (Nat.le_trans (Nat.le_of_eq (Nat.add_zero _)) hs) ?_
  rintro _ u9 ⟨rfl, e9⟩; have e9 := e9.symm; subst e9
  refine p_icmp_eq (tgt := 3150) X (dcg dcl_10 4 rfl) (by decide) (fun q => ?_) (fun q => ?_)
  · refine p_pick [0, 1, 2, 3, 4, 5] ?_
    exact hK
  · exact absurd hyr q
theorem dcl_11 : decs code [(820, .aload_n 1, 1), (821, .invokevirtual 202, 3), (824, .aload_n 2, 1), (825, .invokevirtual 205, 3), (828, .if_icmp .eq 2322, 3), (831, .iconst 0, 1), (832, .ireturn, 1)] = true := by decide +kernel
set_option maxRecDepth 100000 in
theorem lc_11 {E : PE} {p : Program} {l : Launch} {e : Env} {s : State} {m : MethodId} {args : Array Value} {below : List Frame} {meth : Method} {c : Code} {Qf : State → Prop} {MC MS uc us N : Nat} {xs : Nat → Int32} {xa ma oa da : Nat} {i : Int32} {h : PH} (X : Cx E p l e (rmv 840 MC MS) s m args below meth c RL code 10 ret) (hG : Gs E l) (hgn : Gn E) (hlx : LX E s N xs) (hib : IB i N) {r : Int32} (hf : fX11_texts xa  h = some r) (hk : hK h xa = 11) (hc : uc + 0 ≤ MC) (hs : us + 0 ≤ MS) (hm : ∃ y : Int32 × PH, hK h ma = 12 ∧ fX12_texts ma  h = some y ∧ r = y.1 ∧ PW E p l e (rmv 840 MC MS) s m args below meth c 10 (uc + 0) (us + 0) Qf y.2 3150 [(0, some (.ref 0)), (1, some (.ref xa)), (2, some (.ref ma)), (3, some (.ref oa)), (4, some (.ref da)), (5, some (.int i))] []) : PW E p l e (rmv 840 MC MS) s m args below meth c 10 uc us Qf h 820 [(0, some (.ref 0)), (1, some (.ref xa)), (2, some (.ref ma)), (3, some (.ref oa)), (4, some (.ref da)), (5, some (.int i))] [] := by
  refine p_aload_n X (dcg dcl_11 0 rfl) rfl rfl ?_
  refine p_callV (As := []) X ml_L_202 (dcg dcl_11 1 rfl) rfl rfl hk (wX11_texts hG hf) (by decide) (room4 (Nat.le_of_ble_eq_true rfl)) hc hs ?_
  rintro _ u9 ⟨rfl, e9⟩; have e9 := e9.symm; subst e9
  obtain ⟨y, hk2, hy, hyr, hK⟩ := hm
  refine p_aload_n X (dcg dcl_11 2 rfl) rfl rfl ?_
  refine p_callV (As := []) X ml_L_205 (dcg dcl_11 3 rfl) rfl rfl hk2 (wX12_texts hG hy) (by decide) (room4 (Nat.le_of_ble_eq_true rfl)) (Nat.le_trans (Nat.le_of_eq (Nat.add_zero _)) hc) (Nat.le_trans (Nat.le_of_eq (Nat.add_zero _)) hs) ?_
  rintro _ u9 ⟨rfl, e9⟩; have e9 := e9.symm; subst e9
  refine p_icmp_eq (tgt := 3150) X (dcg dcl_11 4 rfl) (by decide) (fun q => ?_) (fun q => ?_)
  · refine p_pick [0, 1, 2, 3, 4, 5] ?_
    exact hK
  · exact absurd hyr q
theorem dcl_12 : decs code [(833, .aload_n 1, 1), (834, .aload_n 0, 1), (835, .iload 5, 2), (837, .iconst 1, 1), (838, .iadd, 1), (839, .iaload, 1), (840, .invokevirtual 206, 3), (843, .aload_n 2, 1), (844, .aload_n 0, 1), (845, .iload 5, 2), (847, .iconst 1, 1), (848, .iadd, 1), (849, .iaload, 1), (850, .invokevirtual 209, 3), (853, .if_icmp .eq 2297, 3), (856, .iconst 0, 1), (857, .ireturn, 1)] = true := by decide +kernel
set_option maxRecDepth 100000 in
theorem lc_12 {E : PE} {p : Program} {l : Launch} {e : Env} {s : State} {m : MethodId} {args : Array Value} {below : List Frame} {meth : Method} {c : Code} {Qf : State → Prop} {MC MS uc us N : Nat} {xs : Nat → Int32} {xa ma oa da : Nat} {i : Int32} {h : PH} (X : Cx E p l e (rmv 840 MC MS) s m args below meth c RL code 10 ret) (hG : Gs E l) (hgn : Gn E) (hlx : LX E s N xs) (hib : IB i N) {r : Int32} (hf : fX11_nextText xa (xs (Int32.toNatClampNeg (i + (1 : Int32)))) h = some r) (hk : hK h xa = 11) (hc : uc + 0 ≤ MC) (hs : us + 0 ≤ MS) (hm : ∃ y : Int32 × PH, hK h ma = 12 ∧ fX12_nextText ma (xs (Int32.toNatClampNeg (i + (1 : Int32)))) h = some y ∧ r = y.1 ∧ PW E p l e (rmv 840 MC MS) s m args below meth c 10 (uc + 0) (us + 0) Qf y.2 3150 [(0, some (.ref 0)), (1, some (.ref xa)), (2, some (.ref ma)), (3, some (.ref oa)), (4, some (.ref da)), (5, some (.int i))] []) : PW E p l e (rmv 840 MC MS) s m args below meth c 10 uc us Qf h 833 [(0, some (.ref 0)), (1, some (.ref xa)), (2, some (.ref ma)), (3, some (.ref oa)), (4, some (.ref da)), (5, some (.int i))] [] := by
  refine p_aload_n X (dcg dcl_12 0 rfl) rfl rfl ?_
  refine p_aload_n X (dcg dcl_12 1 rfl) rfl rfl ?_
  refine p_iload X (dcg dcl_12 2 rfl) rfl ?_
  refine p_iconst (v := 1) X (dcg dcl_12 3 rfl) (by decide) ?_
  refine p_iadd X (dcg dcl_12 4 rfl) ?_
  refine p_sld X hlx (dcg dcl_12 5 rfl) (vp_of_inb hib.2.1) ?_
  refine p_callV (As := [_]) X ml_L_206 (dcg dcl_12 6 rfl) rfl rfl hk (wX11_nextText hG hf) (by decide) (room4 (Nat.le_of_ble_eq_true rfl)) hc hs ?_
  rintro _ u9 ⟨rfl, e9⟩; have e9 := e9.symm; subst e9
  obtain ⟨y, hk2, hy, hyr, hK⟩ := hm
  refine p_aload_n X (dcg dcl_12 7 rfl) rfl rfl ?_
  refine p_aload_n X (dcg dcl_12 8 rfl) rfl rfl ?_
  refine p_iload X (dcg dcl_12 9 rfl) rfl ?_
  refine p_iconst (v := 1) X (dcg dcl_12 10 rfl) (by decide) ?_
  refine p_iadd X (dcg dcl_12 11 rfl) ?_
  refine p_sld X hlx (dcg dcl_12 12 rfl) (vp_of_inb hib.2.1) ?_
  refine p_callV (As := [_]) X ml_L_209 (dcg dcl_12 13 rfl) rfl rfl hk2 (wX12_nextText hG hy) (by decide) (room4 (Nat.le_of_ble_eq_true rfl)) (Nat.le_trans (Nat.le_of_eq (Nat.add_zero _)) hc) (Nat.le_trans (Nat.le_of_eq (Nat.add_zero _)) hs) ?_
  rintro _ u9 ⟨rfl, e9⟩; have e9 := e9.symm; subst e9
  refine p_icmp_eq (tgt := 3150) X (dcg dcl_12 14 rfl) (by decide) (fun q => ?_) (fun q => ?_)
  · refine p_pick [0, 1, 2, 3, 4, 5] ?_
    exact hK
  · exact absurd hyr q
theorem dcl_13 : decs code [(858, .aload_n 1, 1), (859, .aload_n 0, 1), (860, .iload 5, 2), (862, .iconst 1, 1), (863, .iadd, 1), (864, .iaload, 1), (865, .aload_n 3, 1), (866, .invokestatic 210, 3), (869, .istore 6, 2), (871, .aload_n 2, 1), (872, .aload_n 0, 1), (873, .iload 5, 2), (875, .iconst 1, 1), (876, .iadd, 1), (877, .iaload, 1), (878, .invokevirtual 212, 3), (881, .istore 7, 2), (883, .aload_n 2, 1), (884, .invokevirtual 161, 3), (887, .iload 6, 2), (889, .if_icmp .eq 5, 3), (892, .iconst 0, 1), (893, .ireturn, 1), (894, .iload 6, 2), (896, .ifCond .ne 15, 3), (899, .aload_n 3, 1), (900, .iconst 0, 1), (901, .laload, 1), (902, .iload 7, 2), (904, .i2l, 1), (905, .lcmp, 1), (906, .ifCond .eq 5, 3), (909, .iconst 0, 1), (910, .ireturn, 1), (911, .goto 2239, 3)] = true := by decide +kernel
set_option maxRecDepth 100000 in
theorem lc_13 {E : PE} {p : Program} {l : Launch} {e : Env} {s : State} {m : MethodId} {args : Array Value} {below : List Frame} {meth : Method} {c : Code} {Qf : State → Prop} {MC MS uc us N : Nat} {xs : Nat → Int32} {xa ma oa da : Nat} {i : Int32} {h : PH} (X : Cx E p l e (rmv 840 MC MS) s m args below meth c RL code 10 ret) (hG : Gs E l) (hgn : Gn E) (hlx : LX E s N xs) (hib : IB i N) {r : ((Int32 × PH) ⊕ (Nat × PH))} (hf : fX11_length xa (xs (Int32.toNatClampNeg (i + (1 : Int32)))) h = some r) (hk : hK h xa = 11) (hko : ∀ z, r = .inl z → hK z.2 oa = 23 ∧ 0 < hN z.2 oa) (hcd : ∀ z, r = .inr z → z.1 = 2) (hc : uc + (xT2 r - hX h) ≤ MC) (hs : us + (vT2 r - hV h) ≤ MS) (hm : ∀ (v : Option Value) (u : PH), ((∃ z : Int32 × PH, r = .inl z ∧ v = some (.int 0) ∧ u = sL z.2 23 oa (Int32.toNatClampNeg 0) (Int32.toInt64 z.1)) ∨ (∃ (z : Nat × PH) (n : Nat), r = .inr z ∧ hX z.2 ≤ n ∧ u = hbump z.2 n ∧ ((z.1 = 2 ∧ v = some (.int 1))))) → ∃ (code : Int32) (y : Int32 × PH), v = some (.int code) ∧ hK u ma = 12 ∧ fX12_length ma (xs (Int32.toNatClampNeg (i + (1 : Int32)))) u = some y ∧ hK y.2 ma = 12 ∧ fX12_thrown ma y.2 = some code ∧ (code = 0 → hK y.2 oa = 23 ∧ 0 < hN y.2 oa ∧ hL y.2 23 oa (Int32.toNatClampNeg 0) = Int32.toInt64 y.1) ∧ PW E p l e (rmv 840 MC MS) s m args below meth c 10 (uc + (xT2 r - hX h)) (us + (vT2 r - hV h)) Qf y.2 3150 [(0, some (.ref 0)), (1, some (.ref xa)), (2, some (.ref ma)), (3, some (.ref oa)), (4, some (.ref da)), (5, some (.int i))] []) : PW E p l e (rmv 840 MC MS) s m args below meth c 10 uc us Qf h 858 [(0, some (.ref 0)), (1, some (.ref xa)), (2, some (.ref ma)), (3, some (.ref oa)), (4, some (.ref da)), (5, some (.int i))] [] := by
  refine p_aload_n X (dcg dcl_13 0 rfl) rfl rfl ?_
  refine p_aload_n X (dcg dcl_13 1 rfl) rfl rfl ?_
  refine p_iload X (dcg dcl_13 2 rfl) rfl ?_
  refine p_iconst (v := 1) X (dcg dcl_13 3 rfl) (by decide) ?_
  refine p_iadd X (dcg dcl_13 4 rfl) ?_
  refine p_sld X hlx (dcg dcl_13 5 rfl) (vp_of_inb hib.2.1) ?_
  refine p_aload_n X (dcg dcl_13 6 rfl) rfl rfl ?_
  refine p_callSH (As := [_, _, _]) X mlh_210 (dcg dcl_13 7 rfl) rfl rfl (wL_length hG hgn hf hk hko hcd) (by decide) (room4 (Nat.le_of_ble_eq_true rfl)) hc hs ?_
  intro v9 u9 hw9
  obtain ⟨code, y, rfl, hk2, hy, hk3, hth, hval, hK⟩ := hm v9 u9 hw9
  refine p_istore X (dcg dcl_13 8 rfl) (by decide) rfl ?_
  refine p_aload_n X (dcg dcl_13 9 rfl) rfl rfl ?_
  refine p_aload_n X (dcg dcl_13 10 rfl) rfl rfl ?_
  refine p_iload X (dcg dcl_13 11 rfl) rfl ?_
  refine p_iconst (v := 1) X (dcg dcl_13 12 rfl) (by decide) ?_
  refine p_iadd X (dcg dcl_13 13 rfl) ?_
  refine p_sld X hlx (dcg dcl_13 14 rfl) (vp_of_inb hib.2.1) ?_
  refine p_callV (As := [_]) X ml_L_212 (dcg dcl_13 15 rfl) rfl rfl hk2 (wX12_length hG hy) (by decide) (room4 (Nat.le_of_ble_eq_true rfl)) (Nat.le_trans (Nat.le_of_eq (Nat.add_zero _)) hc) (Nat.le_trans (Nat.le_of_eq (Nat.add_zero _)) hs) ?_
  rintro _ u9 ⟨rfl, e9⟩; have e9 := e9.symm; subst e9
  refine p_istore X (dcg dcl_13 16 rfl) (by decide) rfl ?_
  refine p_aload_n X (dcg dcl_13 17 rfl) rfl rfl ?_
  refine p_callV (As := []) X ml_L_161 (dcg dcl_13 18 rfl) rfl rfl hk3 (wX12_thrown hG hth) (by decide) (room4 (Nat.le_of_ble_eq_true rfl)) (Nat.le_trans (Nat.le_of_eq (Nat.add_zero _)) hc) (Nat.le_trans (Nat.le_of_eq (Nat.add_zero _)) hs) ?_
  rintro _ u9 ⟨rfl, e9⟩; have e9 := e9.symm; subst e9
  refine p_iload X (dcg dcl_13 19 rfl) rfl ?_
  refine p_icmp_eq (tgt := 894) X (dcg dcl_13 20 rfl) (by decide) (fun q => ?_) (fun q => ?_)
  · refine p_iload X (dcg dcl_13 23 rfl) rfl ?_
    refine p_if_ne (tgt := 911) X (dcg dcl_13 24 rfl) (by decide) (fun q => ?_) (fun q => ?_)
    · refine p_goto (tgt := 3150) X (dcg dcl_13 34 rfl) (by decide) ?_
      refine p_pick [0, 1, 2, 3, 4, 5] ?_
      exact hK
    · obtain ⟨hko2, hln2, hvl⟩ := hval (Decidable.not_not.mp q)
      refine p_aload_n X (dcg dcl_13 25 rfl) rfl rfl ?_
      refine p_iconst (v := 0) X (dcg dcl_13 26 rfl) (by decide) ?_
      refine p_lald X (dcg dcl_13 27 rfl) hko2 (vp_of_inb ⟨by decide, hln2⟩) ?_
      refine p_iload X (dcg dcl_13 28 rfl) rfl ?_
      refine p_i2l X (dcg dcl_13 29 rfl) ?_
      refine p_lcmp X (dcg dcl_13 30 rfl) ?_
      refine p_if_eq (tgt := 911) X (dcg dcl_13 31 rfl) (by decide) (fun q => ?_) (fun q => ?_)
      · refine p_goto (tgt := 3150) X (dcg dcl_13 34 rfl) (by decide) ?_
        refine p_pick [0, 1, 2, 3, 4, 5] ?_
        exact hK
      · exact absurd (by rw [hvl]; exact lg_cmp_self _) q
  · exact absurd rfl q
theorem dcl_14 : decs code [(914, .aload_n 1, 1), (915, .aload_n 0, 1), (916, .iload 5, 2), (918, .iconst 1, 1), (919, .iadd, 1), (920, .iaload, 1), (921, .aload_n 0, 1), (922, .iload 5, 2), (924, .iconst 2, 1), (925, .iadd, 1), (926, .iaload, 1), (927, .aload_n 3, 1), (928, .invokestatic 213, 3), (931, .istore 6, 2), (933, .aload_n 2, 1), (934, .aload_n 0, 1), (935, .iload 5, 2), (937, .iconst 1, 1), (938, .iadd, 1), (939, .iaload, 1), (940, .aload_n 0, 1), (941, .iload 5, 2), (943, .iconst 2, 1), (944, .iadd, 1), (945, .iaload, 1), (946, .invokevirtual 215, 3), (949, .istore 7, 2), (951, .aload_n 2, 1), (952, .invokevirtual 161, 3), (955, .iload 6, 2), (957, .if_icmp .eq 5, 3), (960, .iconst 0, 1), (961, .ireturn, 1), (962, .iload 6, 2), (964, .ifCond .ne 15, 3), (967, .aload_n 3, 1), (968, .iconst 0, 1), (969, .laload, 1), (970, .iload 7, 2), (972, .i2l, 1), (973, .lcmp, 1), (974, .ifCond .eq 5, 3), (977, .iconst 0, 1), (978, .ireturn, 1), (979, .goto 2171, 3)] = true := by decide +kernel
set_option maxRecDepth 100000 in
theorem lc_14 {E : PE} {p : Program} {l : Launch} {e : Env} {s : State} {m : MethodId} {args : Array Value} {below : List Frame} {meth : Method} {c : Code} {Qf : State → Prop} {MC MS uc us N : Nat} {xs : Nat → Int32} {xa ma oa da : Nat} {i : Int32} {h : PH} (X : Cx E p l e (rmv 840 MC MS) s m args below meth c RL code 10 ret) (hG : Gs E l) (hgn : Gn E) (hlx : LX E s N xs) (hib : IB i N) {r : ((Int32 × PH) ⊕ (Nat × PH))} (hf : fX11_wordAt xa (xs (Int32.toNatClampNeg (i + (1 : Int32)))) (xs (Int32.toNatClampNeg (i + (2 : Int32)))) h = some r) (hk : hK h xa = 11) (hko : ∀ z, r = .inl z → hK z.2 oa = 23 ∧ 0 < hN z.2 oa) (hcd : ∀ z, r = .inr z → z.1 = 2) (hc : uc + (xT2 r - hX h) ≤ MC) (hs : us + (vT2 r - hV h) ≤ MS) (hm : ∀ (v : Option Value) (u : PH), ((∃ z : Int32 × PH, r = .inl z ∧ v = some (.int 0) ∧ u = sL z.2 23 oa (Int32.toNatClampNeg 0) (Int32.toInt64 z.1)) ∨ (∃ (z : Nat × PH) (n : Nat), r = .inr z ∧ hX z.2 ≤ n ∧ u = hbump z.2 n ∧ ((z.1 = 2 ∧ v = some (.int 1))))) → ∃ (code : Int32) (y : Int32 × PH), v = some (.int code) ∧ hK u ma = 12 ∧ fX12_wordAt ma (xs (Int32.toNatClampNeg (i + (1 : Int32)))) (xs (Int32.toNatClampNeg (i + (2 : Int32)))) u = some y ∧ hK y.2 ma = 12 ∧ fX12_thrown ma y.2 = some code ∧ (code = 0 → hK y.2 oa = 23 ∧ 0 < hN y.2 oa ∧ hL y.2 23 oa (Int32.toNatClampNeg 0) = Int32.toInt64 y.1) ∧ PW E p l e (rmv 840 MC MS) s m args below meth c 10 (uc + (xT2 r - hX h)) (us + (vT2 r - hV h)) Qf y.2 3150 [(0, some (.ref 0)), (1, some (.ref xa)), (2, some (.ref ma)), (3, some (.ref oa)), (4, some (.ref da)), (5, some (.int i))] []) : PW E p l e (rmv 840 MC MS) s m args below meth c 10 uc us Qf h 914 [(0, some (.ref 0)), (1, some (.ref xa)), (2, some (.ref ma)), (3, some (.ref oa)), (4, some (.ref da)), (5, some (.int i))] [] := by
  refine p_aload_n X (dcg dcl_14 0 rfl) rfl rfl ?_
  refine p_aload_n X (dcg dcl_14 1 rfl) rfl rfl ?_
  refine p_iload X (dcg dcl_14 2 rfl) rfl ?_
  refine p_iconst (v := 1) X (dcg dcl_14 3 rfl) (by decide) ?_
  refine p_iadd X (dcg dcl_14 4 rfl) ?_
  refine p_sld X hlx (dcg dcl_14 5 rfl) (vp_of_inb hib.2.1) ?_
  refine p_aload_n X (dcg dcl_14 6 rfl) rfl rfl ?_
  refine p_iload X (dcg dcl_14 7 rfl) rfl ?_
  refine p_iconst (v := 2) X (dcg dcl_14 8 rfl) (by decide) ?_
  refine p_iadd X (dcg dcl_14 9 rfl) ?_
  refine p_sld X hlx (dcg dcl_14 10 rfl) (vp_of_inb hib.2.2.1) ?_
  refine p_aload_n X (dcg dcl_14 11 rfl) rfl rfl ?_
  refine p_callSH (As := [_, _, _, _]) X mlh_213 (dcg dcl_14 12 rfl) rfl rfl (wL_wordAt hG hgn hf hk hko hcd) (by decide) (room4 (Nat.le_of_ble_eq_true rfl)) hc hs ?_
  intro v9 u9 hw9
  obtain ⟨code, y, rfl, hk2, hy, hk3, hth, hval, hK⟩ := hm v9 u9 hw9
  refine p_istore X (dcg dcl_14 13 rfl) (by decide) rfl ?_
  refine p_aload_n X (dcg dcl_14 14 rfl) rfl rfl ?_
  refine p_aload_n X (dcg dcl_14 15 rfl) rfl rfl ?_
  refine p_iload X (dcg dcl_14 16 rfl) rfl ?_
  refine p_iconst (v := 1) X (dcg dcl_14 17 rfl) (by decide) ?_
  refine p_iadd X (dcg dcl_14 18 rfl) ?_
  refine p_sld X hlx (dcg dcl_14 19 rfl) (vp_of_inb hib.2.1) ?_
  refine p_aload_n X (dcg dcl_14 20 rfl) rfl rfl ?_
  refine p_iload X (dcg dcl_14 21 rfl) rfl ?_
  refine p_iconst (v := 2) X (dcg dcl_14 22 rfl) (by decide) ?_
  refine p_iadd X (dcg dcl_14 23 rfl) ?_
  refine p_sld X hlx (dcg dcl_14 24 rfl) (vp_of_inb hib.2.2.1) ?_
  refine p_callV (As := [_, _]) X ml_L_215 (dcg dcl_14 25 rfl) rfl rfl hk2 (wX12_wordAt hG hy) (by decide) (room4 (Nat.le_of_ble_eq_true rfl)) (Nat.le_trans (Nat.le_of_eq (Nat.add_zero _)) hc) (Nat.le_trans (Nat.le_of_eq (Nat.add_zero _)) hs) ?_
  rintro _ u9 ⟨rfl, e9⟩; have e9 := e9.symm; subst e9
  refine p_istore X (dcg dcl_14 26 rfl) (by decide) rfl ?_
  refine p_aload_n X (dcg dcl_14 27 rfl) rfl rfl ?_
  refine p_callV (As := []) X ml_L_161 (dcg dcl_14 28 rfl) rfl rfl hk3 (wX12_thrown hG hth) (by decide) (room4 (Nat.le_of_ble_eq_true rfl)) (Nat.le_trans (Nat.le_of_eq (Nat.add_zero _)) hc) (Nat.le_trans (Nat.le_of_eq (Nat.add_zero _)) hs) ?_
  rintro _ u9 ⟨rfl, e9⟩; have e9 := e9.symm; subst e9
  refine p_iload X (dcg dcl_14 29 rfl) rfl ?_
  refine p_icmp_eq (tgt := 962) X (dcg dcl_14 30 rfl) (by decide) (fun q => ?_) (fun q => ?_)
  · refine p_iload X (dcg dcl_14 33 rfl) rfl ?_
    refine p_if_ne (tgt := 979) X (dcg dcl_14 34 rfl) (by decide) (fun q => ?_) (fun q => ?_)
    · refine p_goto (tgt := 3150) X (dcg dcl_14 44 rfl) (by decide) ?_
      refine p_pick [0, 1, 2, 3, 4, 5] ?_
      exact hK
    · obtain ⟨hko2, hln2, hvl⟩ := hval (Decidable.not_not.mp q)
      refine p_aload_n X (dcg dcl_14 35 rfl) rfl rfl ?_
      refine p_iconst (v := 0) X (dcg dcl_14 36 rfl) (by decide) ?_
      refine p_lald X (dcg dcl_14 37 rfl) hko2 (vp_of_inb ⟨by decide, hln2⟩) ?_
      refine p_iload X (dcg dcl_14 38 rfl) rfl ?_
      refine p_i2l X (dcg dcl_14 39 rfl) ?_
      refine p_lcmp X (dcg dcl_14 40 rfl) ?_
      refine p_if_eq (tgt := 979) X (dcg dcl_14 41 rfl) (by decide) (fun q => ?_) (fun q => ?_)
      · refine p_goto (tgt := 3150) X (dcg dcl_14 44 rfl) (by decide) ?_
        refine p_pick [0, 1, 2, 3, 4, 5] ?_
        exact hK
      · exact absurd (by rw [hvl]; exact lg_cmp_self _) q
  · exact absurd rfl q
theorem dcl_15 : decs code [(982, .aload_n 1, 1), (983, .aload_n 0, 1), (984, .iload 5, 2), (986, .iconst 1, 1), (987, .iadd, 1), (988, .iaload, 1), (989, .aload_n 0, 1), (990, .iload 5, 2), (992, .iconst 2, 1), (993, .iadd, 1), (994, .iaload, 1), (995, .aload_n 0, 1), (996, .iload 5, 2), (998, .iconst 3, 1), (999, .iadd, 1), (1000, .iaload, 1), (1001, .aload_n 3, 1), (1002, .invokestatic 216, 3), (1005, .istore 6, 2), (1007, .aload_n 2, 1), (1008, .aload_n 0, 1), (1009, .iload 5, 2), (1011, .iconst 1, 1), (1012, .iadd, 1), (1013, .iaload, 1), (1014, .aload_n 0, 1), (1015, .iload 5, 2), (1017, .iconst 2, 1), (1018, .iadd, 1), (1019, .iaload, 1), (1020, .aload_n 0, 1), (1021, .iload 5, 2), (1023, .iconst 3, 1), (1024, .iadd, 1), (1025, .iaload, 1), (1026, .invokevirtual 218, 3), (1029, .istore 7, 2), (1031, .aload_n 2, 1), (1032, .invokevirtual 161, 3), (1035, .iload 6, 2), (1037, .if_icmp .eq 5, 3), (1040, .iconst 0, 1), (1041, .ireturn, 1), (1042, .iload 6, 2), (1044, .ifCond .ne 15, 3), (1047, .aload_n 3, 1), (1048, .iconst 0, 1), (1049, .laload, 1), (1050, .iload 7, 2), (1052, .i2l, 1), (1053, .lcmp, 1), (1054, .ifCond .eq 5, 3), (1057, .iconst 0, 1), (1058, .ireturn, 1), (1059, .goto 2091, 3)] = true := by decide +kernel
set_option maxRecDepth 100000 in
theorem lc_15 {E : PE} {p : Program} {l : Launch} {e : Env} {s : State} {m : MethodId} {args : Array Value} {below : List Frame} {meth : Method} {c : Code} {Qf : State → Prop} {MC MS uc us N : Nat} {xs : Nat → Int32} {xa ma oa da : Nat} {i : Int32} {h : PH} (X : Cx E p l e (rmv 840 MC MS) s m args below meth c RL code 10 ret) (hG : Gs E l) (hgn : Gn E) (hlx : LX E s N xs) (hib : IB i N) {r : ((Int32 × PH) ⊕ (Nat × PH))} (hf : fX11_letterAt xa (xs (Int32.toNatClampNeg (i + (1 : Int32)))) (xs (Int32.toNatClampNeg (i + (2 : Int32)))) (xs (Int32.toNatClampNeg (i + (3 : Int32)))) h = some r) (hk : hK h xa = 11) (hko : ∀ z, r = .inl z → hK z.2 oa = 23 ∧ 0 < hN z.2 oa) (hcd : ∀ z, r = .inr z → z.1 = 2) (hc : uc + (xT2 r - hX h) ≤ MC) (hs : us + (vT2 r - hV h) ≤ MS) (hm : ∀ (v : Option Value) (u : PH), ((∃ z : Int32 × PH, r = .inl z ∧ v = some (.int 0) ∧ u = sL z.2 23 oa (Int32.toNatClampNeg 0) (Int32.toInt64 z.1)) ∨ (∃ (z : Nat × PH) (n : Nat), r = .inr z ∧ hX z.2 ≤ n ∧ u = hbump z.2 n ∧ ((z.1 = 2 ∧ v = some (.int 1))))) → ∃ (code : Int32) (y : Int32 × PH), v = some (.int code) ∧ hK u ma = 12 ∧ fX12_letterAt ma (xs (Int32.toNatClampNeg (i + (1 : Int32)))) (xs (Int32.toNatClampNeg (i + (2 : Int32)))) (xs (Int32.toNatClampNeg (i + (3 : Int32)))) u = some y ∧ hK y.2 ma = 12 ∧ fX12_thrown ma y.2 = some code ∧ (code = 0 → hK y.2 oa = 23 ∧ 0 < hN y.2 oa ∧ hL y.2 23 oa (Int32.toNatClampNeg 0) = Int32.toInt64 y.1) ∧ PW E p l e (rmv 840 MC MS) s m args below meth c 10 (uc + (xT2 r - hX h)) (us + (vT2 r - hV h)) Qf y.2 3150 [(0, some (.ref 0)), (1, some (.ref xa)), (2, some (.ref ma)), (3, some (.ref oa)), (4, some (.ref da)), (5, some (.int i))] []) : PW E p l e (rmv 840 MC MS) s m args below meth c 10 uc us Qf h 982 [(0, some (.ref 0)), (1, some (.ref xa)), (2, some (.ref ma)), (3, some (.ref oa)), (4, some (.ref da)), (5, some (.int i))] [] := by
  refine p_aload_n X (dcg dcl_15 0 rfl) rfl rfl ?_
  refine p_aload_n X (dcg dcl_15 1 rfl) rfl rfl ?_
  refine p_iload X (dcg dcl_15 2 rfl) rfl ?_
  refine p_iconst (v := 1) X (dcg dcl_15 3 rfl) (by decide) ?_
  refine p_iadd X (dcg dcl_15 4 rfl) ?_
  refine p_sld X hlx (dcg dcl_15 5 rfl) (vp_of_inb hib.2.1) ?_
  refine p_aload_n X (dcg dcl_15 6 rfl) rfl rfl ?_
  refine p_iload X (dcg dcl_15 7 rfl) rfl ?_
  refine p_iconst (v := 2) X (dcg dcl_15 8 rfl) (by decide) ?_
  refine p_iadd X (dcg dcl_15 9 rfl) ?_
  refine p_sld X hlx (dcg dcl_15 10 rfl) (vp_of_inb hib.2.2.1) ?_
  refine p_aload_n X (dcg dcl_15 11 rfl) rfl rfl ?_
  refine p_iload X (dcg dcl_15 12 rfl) rfl ?_
  refine p_iconst (v := 3) X (dcg dcl_15 13 rfl) (by decide) ?_
  refine p_iadd X (dcg dcl_15 14 rfl) ?_
  refine p_sld X hlx (dcg dcl_15 15 rfl) (vp_of_inb hib.2.2.2.1) ?_
  refine p_aload_n X (dcg dcl_15 16 rfl) rfl rfl ?_
  refine p_callSH (As := [_, _, _, _, _]) X mlh_216 (dcg dcl_15 17 rfl) rfl rfl (wL_letterAt hG hgn hf hk hko hcd) (by decide) (room4 (Nat.le_of_ble_eq_true rfl)) hc hs ?_
  intro v9 u9 hw9
  obtain ⟨code, y, rfl, hk2, hy, hk3, hth, hval, hK⟩ := hm v9 u9 hw9
  refine p_istore X (dcg dcl_15 18 rfl) (by decide) rfl ?_
  refine p_aload_n X (dcg dcl_15 19 rfl) rfl rfl ?_
  refine p_aload_n X (dcg dcl_15 20 rfl) rfl rfl ?_
  refine p_iload X (dcg dcl_15 21 rfl) rfl ?_
  refine p_iconst (v := 1) X (dcg dcl_15 22 rfl) (by decide) ?_
  refine p_iadd X (dcg dcl_15 23 rfl) ?_
  refine p_sld X hlx (dcg dcl_15 24 rfl) (vp_of_inb hib.2.1) ?_
  refine p_aload_n X (dcg dcl_15 25 rfl) rfl rfl ?_
  refine p_iload X (dcg dcl_15 26 rfl) rfl ?_
  refine p_iconst (v := 2) X (dcg dcl_15 27 rfl) (by decide) ?_
  refine p_iadd X (dcg dcl_15 28 rfl) ?_
  refine p_sld X hlx (dcg dcl_15 29 rfl) (vp_of_inb hib.2.2.1) ?_
  refine p_aload_n X (dcg dcl_15 30 rfl) rfl rfl ?_
  refine p_iload X (dcg dcl_15 31 rfl) rfl ?_
  refine p_iconst (v := 3) X (dcg dcl_15 32 rfl) (by decide) ?_
  refine p_iadd X (dcg dcl_15 33 rfl) ?_
  refine p_sld X hlx (dcg dcl_15 34 rfl) (vp_of_inb hib.2.2.2.1) ?_
  refine p_callV (As := [_, _, _]) X ml_L_218 (dcg dcl_15 35 rfl) rfl rfl hk2 (wX12_letterAt hG hy) (by decide) (room4 (Nat.le_of_ble_eq_true rfl)) (Nat.le_trans (Nat.le_of_eq (Nat.add_zero _)) hc) (Nat.le_trans (Nat.le_of_eq (Nat.add_zero _)) hs) ?_
  rintro _ u9 ⟨rfl, e9⟩; have e9 := e9.symm; subst e9
  refine p_istore X (dcg dcl_15 36 rfl) (by decide) rfl ?_
  refine p_aload_n X (dcg dcl_15 37 rfl) rfl rfl ?_
  refine p_callV (As := []) X ml_L_161 (dcg dcl_15 38 rfl) rfl rfl hk3 (wX12_thrown hG hth) (by decide) (room4 (Nat.le_of_ble_eq_true rfl)) (Nat.le_trans (Nat.le_of_eq (Nat.add_zero _)) hc) (Nat.le_trans (Nat.le_of_eq (Nat.add_zero _)) hs) ?_
  rintro _ u9 ⟨rfl, e9⟩; have e9 := e9.symm; subst e9
  refine p_iload X (dcg dcl_15 39 rfl) rfl ?_
  refine p_icmp_eq (tgt := 1042) X (dcg dcl_15 40 rfl) (by decide) (fun q => ?_) (fun q => ?_)
  · refine p_iload X (dcg dcl_15 43 rfl) rfl ?_
    refine p_if_ne (tgt := 1059) X (dcg dcl_15 44 rfl) (by decide) (fun q => ?_) (fun q => ?_)
    · refine p_goto (tgt := 3150) X (dcg dcl_15 54 rfl) (by decide) ?_
      refine p_pick [0, 1, 2, 3, 4, 5] ?_
      exact hK
    · obtain ⟨hko2, hln2, hvl⟩ := hval (Decidable.not_not.mp q)
      refine p_aload_n X (dcg dcl_15 45 rfl) rfl rfl ?_
      refine p_iconst (v := 0) X (dcg dcl_15 46 rfl) (by decide) ?_
      refine p_lald X (dcg dcl_15 47 rfl) hko2 (vp_of_inb ⟨by decide, hln2⟩) ?_
      refine p_iload X (dcg dcl_15 48 rfl) rfl ?_
      refine p_i2l X (dcg dcl_15 49 rfl) ?_
      refine p_lcmp X (dcg dcl_15 50 rfl) ?_
      refine p_if_eq (tgt := 1059) X (dcg dcl_15 51 rfl) (by decide) (fun q => ?_) (fun q => ?_)
      · refine p_goto (tgt := 3150) X (dcg dcl_15 54 rfl) (by decide) ?_
        refine p_pick [0, 1, 2, 3, 4, 5] ?_
        exact hK
      · exact absurd (by rw [hvl]; exact lg_cmp_self _) q
  · exact absurd rfl q
theorem dcl_16 : decs code [(1062, .aload_n 1, 1), (1063, .invokevirtual 219, 3), (1066, .aload_n 2, 1), (1067, .invokevirtual 222, 3), (1070, .if_icmp .eq 2080, 3), (1073, .iconst 0, 1), (1074, .ireturn, 1)] = true := by decide +kernel
set_option maxRecDepth 100000 in
theorem lc_16 {E : PE} {p : Program} {l : Launch} {e : Env} {s : State} {m : MethodId} {args : Array Value} {below : List Frame} {meth : Method} {c : Code} {Qf : State → Prop} {MC MS uc us N : Nat} {xs : Nat → Int32} {xa ma oa da : Nat} {i : Int32} {h : PH} (X : Cx E p l e (rmv 840 MC MS) s m args below meth c RL code 10 ret) (hG : Gs E l) (hgn : Gn E) (hlx : LX E s N xs) (hib : IB i N) {r : Int32} (hf : fX11_words xa  h = some r) (hk : hK h xa = 11) (hc : uc + 0 ≤ MC) (hs : us + 0 ≤ MS) (hm : ∃ y : Int32 × PH, hK h ma = 12 ∧ fX12_words ma  h = some y ∧ r = y.1 ∧ PW E p l e (rmv 840 MC MS) s m args below meth c 10 (uc + 0) (us + 0) Qf y.2 3150 [(0, some (.ref 0)), (1, some (.ref xa)), (2, some (.ref ma)), (3, some (.ref oa)), (4, some (.ref da)), (5, some (.int i))] []) : PW E p l e (rmv 840 MC MS) s m args below meth c 10 uc us Qf h 1062 [(0, some (.ref 0)), (1, some (.ref xa)), (2, some (.ref ma)), (3, some (.ref oa)), (4, some (.ref da)), (5, some (.int i))] [] := by
  refine p_aload_n X (dcg dcl_16 0 rfl) rfl rfl ?_
  refine p_callV (As := []) X ml_L_219 (dcg dcl_16 1 rfl) rfl rfl hk (wX11_words hG hf) (by decide) (room4 (Nat.le_of_ble_eq_true rfl)) hc hs ?_
  rintro _ u9 ⟨rfl, e9⟩; have e9 := e9.symm; subst e9
  obtain ⟨y, hk2, hy, hyr, hK⟩ := hm
  refine p_aload_n X (dcg dcl_16 2 rfl) rfl rfl ?_
  refine p_callV (As := []) X ml_L_222 (dcg dcl_16 3 rfl) rfl rfl hk2 (wX12_words hG hy) (by decide) (room4 (Nat.le_of_ble_eq_true rfl)) (Nat.le_trans (Nat.le_of_eq (Nat.add_zero _)) hc) (Nat.le_trans (Nat.le_of_eq (Nat.add_zero _)) hs) ?_
  rintro _ u9 ⟨rfl, e9⟩; have e9 := e9.symm; subst e9
  refine p_icmp_eq (tgt := 3150) X (dcg dcl_16 4 rfl) (by decide) (fun q => ?_) (fun q => ?_)
  · refine p_pick [0, 1, 2, 3, 4, 5] ?_
    exact hK
  · exact absurd hyr q
theorem dcl_17 : decs code [(1075, .aload_n 1, 1), (1076, .aload_n 0, 1), (1077, .iload 5, 2), (1079, .iconst 1, 1), (1080, .iadd, 1), (1081, .iaload, 1), (1082, .aload_n 3, 1), (1083, .invokestatic 223, 3), (1086, .istore 6, 2), (1088, .aload_n 2, 1), (1089, .aload_n 0, 1), (1090, .iload 5, 2), (1092, .iconst 1, 1), (1093, .iadd, 1), (1094, .iaload, 1), (1095, .invokevirtual 225, 3), (1098, .istore 7, 2), (1100, .aload_n 2, 1), (1101, .invokevirtual 161, 3), (1104, .iload 6, 2), (1106, .if_icmp .eq 5, 3), (1109, .iconst 0, 1), (1110, .ireturn, 1), (1111, .iload 6, 2), (1113, .ifCond .ne 15, 3), (1116, .aload_n 3, 1), (1117, .iconst 0, 1), (1118, .laload, 1), (1119, .iload 7, 2), (1121, .i2l, 1), (1122, .lcmp, 1), (1123, .ifCond .eq 5, 3), (1126, .iconst 0, 1), (1127, .ireturn, 1), (1128, .goto 2022, 3)] = true := by decide +kernel
set_option maxRecDepth 100000 in
theorem lc_17 {E : PE} {p : Program} {l : Launch} {e : Env} {s : State} {m : MethodId} {args : Array Value} {below : List Frame} {meth : Method} {c : Code} {Qf : State → Prop} {MC MS uc us N : Nat} {xs : Nat → Int32} {xa ma oa da : Nat} {i : Int32} {h : PH} (X : Cx E p l e (rmv 840 MC MS) s m args below meth c RL code 10 ret) (hG : Gs E l) (hgn : Gn E) (hlx : LX E s N xs) (hib : IB i N) {r : ((Int32 × PH) ⊕ (Nat × PH))} (hf : fX11_indexWord xa (xs (Int32.toNatClampNeg (i + (1 : Int32)))) h = some r) (hk : hK h xa = 11) (hko : ∀ z, r = .inl z → hK z.2 oa = 23 ∧ 0 < hN z.2 oa) (hcd : ∀ z, r = .inr z → z.1 = 2) (hc : uc + (xT2 r - hX h) ≤ MC) (hs : us + (vT2 r - hV h) ≤ MS) (hm : ∀ (v : Option Value) (u : PH), ((∃ z : Int32 × PH, r = .inl z ∧ v = some (.int 0) ∧ u = sL z.2 23 oa (Int32.toNatClampNeg 0) (Int32.toInt64 z.1)) ∨ (∃ (z : Nat × PH) (n : Nat), r = .inr z ∧ hX z.2 ≤ n ∧ u = hbump z.2 n ∧ ((z.1 = 2 ∧ v = some (.int 1))))) → ∃ (code : Int32) (y : Int32 × PH), v = some (.int code) ∧ hK u ma = 12 ∧ fX12_indexWord ma (xs (Int32.toNatClampNeg (i + (1 : Int32)))) u = some y ∧ hK y.2 ma = 12 ∧ fX12_thrown ma y.2 = some code ∧ (code = 0 → hK y.2 oa = 23 ∧ 0 < hN y.2 oa ∧ hL y.2 23 oa (Int32.toNatClampNeg 0) = Int32.toInt64 y.1) ∧ PW E p l e (rmv 840 MC MS) s m args below meth c 10 (uc + (xT2 r - hX h)) (us + (vT2 r - hV h)) Qf y.2 3150 [(0, some (.ref 0)), (1, some (.ref xa)), (2, some (.ref ma)), (3, some (.ref oa)), (4, some (.ref da)), (5, some (.int i))] []) : PW E p l e (rmv 840 MC MS) s m args below meth c 10 uc us Qf h 1075 [(0, some (.ref 0)), (1, some (.ref xa)), (2, some (.ref ma)), (3, some (.ref oa)), (4, some (.ref da)), (5, some (.int i))] [] := by
  refine p_aload_n X (dcg dcl_17 0 rfl) rfl rfl ?_
  refine p_aload_n X (dcg dcl_17 1 rfl) rfl rfl ?_
  refine p_iload X (dcg dcl_17 2 rfl) rfl ?_
  refine p_iconst (v := 1) X (dcg dcl_17 3 rfl) (by decide) ?_
  refine p_iadd X (dcg dcl_17 4 rfl) ?_
  refine p_sld X hlx (dcg dcl_17 5 rfl) (vp_of_inb hib.2.1) ?_
  refine p_aload_n X (dcg dcl_17 6 rfl) rfl rfl ?_
  refine p_callSH (As := [_, _, _]) X mlh_223 (dcg dcl_17 7 rfl) rfl rfl (wL_indexWord hG hgn hf hk hko hcd) (by decide) (room4 (Nat.le_of_ble_eq_true rfl)) hc hs ?_
  intro v9 u9 hw9
  obtain ⟨code, y, rfl, hk2, hy, hk3, hth, hval, hK⟩ := hm v9 u9 hw9
  refine p_istore X (dcg dcl_17 8 rfl) (by decide) rfl ?_
  refine p_aload_n X (dcg dcl_17 9 rfl) rfl rfl ?_
  refine p_aload_n X (dcg dcl_17 10 rfl) rfl rfl ?_
  refine p_iload X (dcg dcl_17 11 rfl) rfl ?_
  refine p_iconst (v := 1) X (dcg dcl_17 12 rfl) (by decide) ?_
  refine p_iadd X (dcg dcl_17 13 rfl) ?_
  refine p_sld X hlx (dcg dcl_17 14 rfl) (vp_of_inb hib.2.1) ?_
  refine p_callV (As := [_]) X ml_L_225 (dcg dcl_17 15 rfl) rfl rfl hk2 (wX12_indexWord hG hy) (by decide) (room4 (Nat.le_of_ble_eq_true rfl)) (Nat.le_trans (Nat.le_of_eq (Nat.add_zero _)) hc) (Nat.le_trans (Nat.le_of_eq (Nat.add_zero _)) hs) ?_
  rintro _ u9 ⟨rfl, e9⟩; have e9 := e9.symm; subst e9
  refine p_istore X (dcg dcl_17 16 rfl) (by decide) rfl ?_
  refine p_aload_n X (dcg dcl_17 17 rfl) rfl rfl ?_
  refine p_callV (As := []) X ml_L_161 (dcg dcl_17 18 rfl) rfl rfl hk3 (wX12_thrown hG hth) (by decide) (room4 (Nat.le_of_ble_eq_true rfl)) (Nat.le_trans (Nat.le_of_eq (Nat.add_zero _)) hc) (Nat.le_trans (Nat.le_of_eq (Nat.add_zero _)) hs) ?_
  rintro _ u9 ⟨rfl, e9⟩; have e9 := e9.symm; subst e9
  refine p_iload X (dcg dcl_17 19 rfl) rfl ?_
  refine p_icmp_eq (tgt := 1111) X (dcg dcl_17 20 rfl) (by decide) (fun q => ?_) (fun q => ?_)
  · refine p_iload X (dcg dcl_17 23 rfl) rfl ?_
    refine p_if_ne (tgt := 1128) X (dcg dcl_17 24 rfl) (by decide) (fun q => ?_) (fun q => ?_)
    · refine p_goto (tgt := 3150) X (dcg dcl_17 34 rfl) (by decide) ?_
      refine p_pick [0, 1, 2, 3, 4, 5] ?_
      exact hK
    · obtain ⟨hko2, hln2, hvl⟩ := hval (Decidable.not_not.mp q)
      refine p_aload_n X (dcg dcl_17 25 rfl) rfl rfl ?_
      refine p_iconst (v := 0) X (dcg dcl_17 26 rfl) (by decide) ?_
      refine p_lald X (dcg dcl_17 27 rfl) hko2 (vp_of_inb ⟨by decide, hln2⟩) ?_
      refine p_iload X (dcg dcl_17 28 rfl) rfl ?_
      refine p_i2l X (dcg dcl_17 29 rfl) ?_
      refine p_lcmp X (dcg dcl_17 30 rfl) ?_
      refine p_if_eq (tgt := 1128) X (dcg dcl_17 31 rfl) (by decide) (fun q => ?_) (fun q => ?_)
      · refine p_goto (tgt := 3150) X (dcg dcl_17 34 rfl) (by decide) ?_
        refine p_pick [0, 1, 2, 3, 4, 5] ?_
        exact hK
      · exact absurd (by rw [hvl]; exact lg_cmp_self _) q
  · exact absurd rfl q
theorem dcl_18 : decs code [(1131, .aload_n 1, 1), (1132, .aload_n 3, 1), (1133, .invokestatic 226, 3), (1136, .istore 6, 2), (1138, .aload_n 2, 1), (1139, .invokevirtual 228, 3), (1142, .istore 7, 2), (1144, .aload_n 2, 1), (1145, .invokevirtual 161, 3), (1148, .iload 6, 2), (1150, .if_icmp .eq 5, 3), (1153, .iconst 0, 1), (1154, .ireturn, 1), (1155, .iload 6, 2), (1157, .ifCond .ne 15, 3), (1160, .aload_n 3, 1), (1161, .iconst 0, 1), (1162, .laload, 1), (1163, .iload 7, 2), (1165, .i2l, 1), (1166, .lcmp, 1), (1167, .ifCond .eq 5, 3), (1170, .iconst 0, 1), (1171, .ireturn, 1), (1172, .goto 1978, 3)] = true := by decide +kernel
set_option maxRecDepth 100000 in
theorem lc_18 {E : PE} {p : Program} {l : Launch} {e : Env} {s : State} {m : MethodId} {args : Array Value} {below : List Frame} {meth : Method} {c : Code} {Qf : State → Prop} {MC MS uc us N : Nat} {xs : Nat → Int32} {xa ma oa da : Nat} {i : Int32} {h : PH} (X : Cx E p l e (rmv 840 MC MS) s m args below meth c RL code 10 ret) (hG : Gs E l) (hgn : Gn E) (hlx : LX E s N xs) (hib : IB i N) {r : ((Int32 × PH) ⊕ (Nat × PH))} (hf : fX11_firstWord xa  h = some r) (hk : hK h xa = 11) (hko : ∀ z, r = .inl z → hK z.2 oa = 23 ∧ 0 < hN z.2 oa) (hcd : ∀ z, r = .inr z → z.1 = 3) (hc : uc + (xT2 r - hX h) ≤ MC) (hs : us + (vT2 r - hV h) ≤ MS) (hm : ∀ (v : Option Value) (u : PH), ((∃ z : Int32 × PH, r = .inl z ∧ v = some (.int 0) ∧ u = sL z.2 23 oa (Int32.toNatClampNeg 0) (Int32.toInt64 z.1)) ∨ (∃ (z : Nat × PH) (n : Nat), r = .inr z ∧ hX z.2 ≤ n ∧ u = hbump z.2 n ∧ ((z.1 = 3 ∧ v = some (.int 1))))) → ∃ (code : Int32) (y : Int32 × PH), v = some (.int code) ∧ hK u ma = 12 ∧ fX12_firstWord ma  u = some y ∧ hK y.2 ma = 12 ∧ fX12_thrown ma y.2 = some code ∧ (code = 0 → hK y.2 oa = 23 ∧ 0 < hN y.2 oa ∧ hL y.2 23 oa (Int32.toNatClampNeg 0) = Int32.toInt64 y.1) ∧ PW E p l e (rmv 840 MC MS) s m args below meth c 10 (uc + (xT2 r - hX h)) (us + (vT2 r - hV h)) Qf y.2 3150 [(0, some (.ref 0)), (1, some (.ref xa)), (2, some (.ref ma)), (3, some (.ref oa)), (4, some (.ref da)), (5, some (.int i))] []) : PW E p l e (rmv 840 MC MS) s m args below meth c 10 uc us Qf h 1131 [(0, some (.ref 0)), (1, some (.ref xa)), (2, some (.ref ma)), (3, some (.ref oa)), (4, some (.ref da)), (5, some (.int i))] [] := by
  refine p_aload_n X (dcg dcl_18 0 rfl) rfl rfl ?_
  refine p_aload_n X (dcg dcl_18 1 rfl) rfl rfl ?_
  refine p_callSH (As := [_, _]) X mlh_226 (dcg dcl_18 2 rfl) rfl rfl (wL_firstWord hG hgn hf hk hko hcd) (by decide) (room4 (Nat.le_of_ble_eq_true rfl)) hc hs ?_
  intro v9 u9 hw9
  obtain ⟨code, y, rfl, hk2, hy, hk3, hth, hval, hK⟩ := hm v9 u9 hw9
  refine p_istore X (dcg dcl_18 3 rfl) (by decide) rfl ?_
  refine p_aload_n X (dcg dcl_18 4 rfl) rfl rfl ?_
  refine p_callV (As := []) X ml_L_228 (dcg dcl_18 5 rfl) rfl rfl hk2 (wX12_firstWord hG hy) (by decide) (room4 (Nat.le_of_ble_eq_true rfl)) (Nat.le_trans (Nat.le_of_eq (Nat.add_zero _)) hc) (Nat.le_trans (Nat.le_of_eq (Nat.add_zero _)) hs) ?_
  rintro _ u9 ⟨rfl, e9⟩; have e9 := e9.symm; subst e9
  refine p_istore X (dcg dcl_18 6 rfl) (by decide) rfl ?_
  refine p_aload_n X (dcg dcl_18 7 rfl) rfl rfl ?_
  refine p_callV (As := []) X ml_L_161 (dcg dcl_18 8 rfl) rfl rfl hk3 (wX12_thrown hG hth) (by decide) (room4 (Nat.le_of_ble_eq_true rfl)) (Nat.le_trans (Nat.le_of_eq (Nat.add_zero _)) hc) (Nat.le_trans (Nat.le_of_eq (Nat.add_zero _)) hs) ?_
  rintro _ u9 ⟨rfl, e9⟩; have e9 := e9.symm; subst e9
  refine p_iload X (dcg dcl_18 9 rfl) rfl ?_
  refine p_icmp_eq (tgt := 1155) X (dcg dcl_18 10 rfl) (by decide) (fun q => ?_) (fun q => ?_)
  · refine p_iload X (dcg dcl_18 13 rfl) rfl ?_
    refine p_if_ne (tgt := 1172) X (dcg dcl_18 14 rfl) (by decide) (fun q => ?_) (fun q => ?_)
    · refine p_goto (tgt := 3150) X (dcg dcl_18 24 rfl) (by decide) ?_
      refine p_pick [0, 1, 2, 3, 4, 5] ?_
      exact hK
    · obtain ⟨hko2, hln2, hvl⟩ := hval (Decidable.not_not.mp q)
      refine p_aload_n X (dcg dcl_18 15 rfl) rfl rfl ?_
      refine p_iconst (v := 0) X (dcg dcl_18 16 rfl) (by decide) ?_
      refine p_lald X (dcg dcl_18 17 rfl) hko2 (vp_of_inb ⟨by decide, hln2⟩) ?_
      refine p_iload X (dcg dcl_18 18 rfl) rfl ?_
      refine p_i2l X (dcg dcl_18 19 rfl) ?_
      refine p_lcmp X (dcg dcl_18 20 rfl) ?_
      refine p_if_eq (tgt := 1172) X (dcg dcl_18 21 rfl) (by decide) (fun q => ?_) (fun q => ?_)
      · refine p_goto (tgt := 3150) X (dcg dcl_18 24 rfl) (by decide) ?_
        refine p_pick [0, 1, 2, 3, 4, 5] ?_
        exact hK
      · exact absurd (by rw [hvl]; exact lg_cmp_self _) q
  · exact absurd rfl q
theorem dcl_19 : decs code [(1175, .aload_n 1, 1), (1176, .aload_n 3, 1), (1177, .invokestatic 229, 3), (1180, .istore 6, 2), (1182, .aload_n 2, 1), (1183, .invokevirtual 231, 3), (1186, .istore 7, 2), (1188, .aload_n 2, 1), (1189, .invokevirtual 161, 3), (1192, .iload 6, 2), (1194, .if_icmp .eq 5, 3), (1197, .iconst 0, 1), (1198, .ireturn, 1), (1199, .iload 6, 2), (1201, .ifCond .ne 15, 3), (1204, .aload_n 3, 1), (1205, .iconst 0, 1), (1206, .laload, 1), (1207, .iload 7, 2), (1209, .i2l, 1), (1210, .lcmp, 1), (1211, .ifCond .eq 5, 3), (1214, .iconst 0, 1), (1215, .ireturn, 1), (1216, .goto 1934, 3)] = true := by decide +kernel
set_option maxRecDepth 100000 in
theorem lc_19 {E : PE} {p : Program} {l : Launch} {e : Env} {s : State} {m : MethodId} {args : Array Value} {below : List Frame} {meth : Method} {c : Code} {Qf : State → Prop} {MC MS uc us N : Nat} {xs : Nat → Int32} {xa ma oa da : Nat} {i : Int32} {h : PH} (X : Cx E p l e (rmv 840 MC MS) s m args below meth c RL code 10 ret) (hG : Gs E l) (hgn : Gn E) (hlx : LX E s N xs) (hib : IB i N) {r : ((Int32 × PH) ⊕ (Nat × PH))} (hf : fX11_lastWord xa  h = some r) (hk : hK h xa = 11) (hko : ∀ z, r = .inl z → hK z.2 oa = 23 ∧ 0 < hN z.2 oa) (hcd : ∀ z, r = .inr z → z.1 = 3) (hc : uc + (xT2 r - hX h) ≤ MC) (hs : us + (vT2 r - hV h) ≤ MS) (hm : ∀ (v : Option Value) (u : PH), ((∃ z : Int32 × PH, r = .inl z ∧ v = some (.int 0) ∧ u = sL z.2 23 oa (Int32.toNatClampNeg 0) (Int32.toInt64 z.1)) ∨ (∃ (z : Nat × PH) (n : Nat), r = .inr z ∧ hX z.2 ≤ n ∧ u = hbump z.2 n ∧ ((z.1 = 3 ∧ v = some (.int 1))))) → ∃ (code : Int32) (y : Int32 × PH), v = some (.int code) ∧ hK u ma = 12 ∧ fX12_lastWord ma  u = some y ∧ hK y.2 ma = 12 ∧ fX12_thrown ma y.2 = some code ∧ (code = 0 → hK y.2 oa = 23 ∧ 0 < hN y.2 oa ∧ hL y.2 23 oa (Int32.toNatClampNeg 0) = Int32.toInt64 y.1) ∧ PW E p l e (rmv 840 MC MS) s m args below meth c 10 (uc + (xT2 r - hX h)) (us + (vT2 r - hV h)) Qf y.2 3150 [(0, some (.ref 0)), (1, some (.ref xa)), (2, some (.ref ma)), (3, some (.ref oa)), (4, some (.ref da)), (5, some (.int i))] []) : PW E p l e (rmv 840 MC MS) s m args below meth c 10 uc us Qf h 1175 [(0, some (.ref 0)), (1, some (.ref xa)), (2, some (.ref ma)), (3, some (.ref oa)), (4, some (.ref da)), (5, some (.int i))] [] := by
  refine p_aload_n X (dcg dcl_19 0 rfl) rfl rfl ?_
  refine p_aload_n X (dcg dcl_19 1 rfl) rfl rfl ?_
  refine p_callSH (As := [_, _]) X mlh_229 (dcg dcl_19 2 rfl) rfl rfl (wL_lastWord hG hgn hf hk hko hcd) (by decide) (room4 (Nat.le_of_ble_eq_true rfl)) hc hs ?_
  intro v9 u9 hw9
  obtain ⟨code, y, rfl, hk2, hy, hk3, hth, hval, hK⟩ := hm v9 u9 hw9
  refine p_istore X (dcg dcl_19 3 rfl) (by decide) rfl ?_
  refine p_aload_n X (dcg dcl_19 4 rfl) rfl rfl ?_
  refine p_callV (As := []) X ml_L_231 (dcg dcl_19 5 rfl) rfl rfl hk2 (wX12_lastWord hG hy) (by decide) (room4 (Nat.le_of_ble_eq_true rfl)) (Nat.le_trans (Nat.le_of_eq (Nat.add_zero _)) hc) (Nat.le_trans (Nat.le_of_eq (Nat.add_zero _)) hs) ?_
  rintro _ u9 ⟨rfl, e9⟩; have e9 := e9.symm; subst e9
  refine p_istore X (dcg dcl_19 6 rfl) (by decide) rfl ?_
  refine p_aload_n X (dcg dcl_19 7 rfl) rfl rfl ?_
  refine p_callV (As := []) X ml_L_161 (dcg dcl_19 8 rfl) rfl rfl hk3 (wX12_thrown hG hth) (by decide) (room4 (Nat.le_of_ble_eq_true rfl)) (Nat.le_trans (Nat.le_of_eq (Nat.add_zero _)) hc) (Nat.le_trans (Nat.le_of_eq (Nat.add_zero _)) hs) ?_
  rintro _ u9 ⟨rfl, e9⟩; have e9 := e9.symm; subst e9
  refine p_iload X (dcg dcl_19 9 rfl) rfl ?_
  refine p_icmp_eq (tgt := 1199) X (dcg dcl_19 10 rfl) (by decide) (fun q => ?_) (fun q => ?_)
  · refine p_iload X (dcg dcl_19 13 rfl) rfl ?_
    refine p_if_ne (tgt := 1216) X (dcg dcl_19 14 rfl) (by decide) (fun q => ?_) (fun q => ?_)
    · refine p_goto (tgt := 3150) X (dcg dcl_19 24 rfl) (by decide) ?_
      refine p_pick [0, 1, 2, 3, 4, 5] ?_
      exact hK
    · obtain ⟨hko2, hln2, hvl⟩ := hval (Decidable.not_not.mp q)
      refine p_aload_n X (dcg dcl_19 15 rfl) rfl rfl ?_
      refine p_iconst (v := 0) X (dcg dcl_19 16 rfl) (by decide) ?_
      refine p_lald X (dcg dcl_19 17 rfl) hko2 (vp_of_inb ⟨by decide, hln2⟩) ?_
      refine p_iload X (dcg dcl_19 18 rfl) rfl ?_
      refine p_i2l X (dcg dcl_19 19 rfl) ?_
      refine p_lcmp X (dcg dcl_19 20 rfl) ?_
      refine p_if_eq (tgt := 1216) X (dcg dcl_19 21 rfl) (by decide) (fun q => ?_) (fun q => ?_)
      · refine p_goto (tgt := 3150) X (dcg dcl_19 24 rfl) (by decide) ?_
        refine p_pick [0, 1, 2, 3, 4, 5] ?_
        exact hK
      · exact absurd (by rw [hvl]; exact lg_cmp_self _) q
  · exact absurd rfl q
theorem dcl_20 : decs code [(1219, .aload_n 1, 1), (1220, .aload_n 0, 1), (1221, .iload 5, 2), (1223, .iconst 1, 1), (1224, .iadd, 1), (1225, .iaload, 1), (1226, .aload_n 0, 1), (1227, .iload 5, 2), (1229, .iconst 2, 1), (1230, .iadd, 1), (1231, .iaload, 1), (1232, .ifCond .eq 7, 3), (1235, .iconst 1, 1), (1236, .goto 4, 3), (1239, .iconst 0, 1), (1240, .aload_n 3, 1), (1241, .invokestatic 232, 3), (1244, .istore 6, 2), (1246, .aload_n 2, 1), (1247, .aload_n 0, 1), (1248, .iload 5, 2), (1250, .iconst 1, 1), (1251, .iadd, 1), (1252, .iaload, 1), (1253, .aload_n 0, 1), (1254, .iload 5, 2), (1256, .iconst 2, 1), (1257, .iadd, 1), (1258, .iaload, 1), (1259, .ifCond .eq 7, 3), (1262, .iconst 1, 1), (1263, .goto 4, 3), (1266, .iconst 0, 1), (1267, .invokevirtual 235, 3), (1270, .istore 7, 2), (1272, .aload_n 2, 1), (1273, .invokevirtual 161, 3), (1276, .iload 6, 2), (1278, .if_icmp .eq 5, 3), (1281, .iconst 0, 1), (1282, .ireturn, 1), (1283, .iload 6, 2), (1285, .ifCond .ne 15, 3), (1288, .aload_n 3, 1), (1289, .iconst 0, 1), (1290, .laload, 1), (1291, .iload 7, 2), (1293, .i2l, 1), (1294, .lcmp, 1), (1295, .ifCond .eq 5, 3), (1298, .iconst 0, 1), (1299, .ireturn, 1), (1300, .goto 1850, 3)] = true := by decide +kernel
set_option maxRecDepth 100000 in
theorem lc_20 {E : PE} {p : Program} {l : Launch} {e : Env} {s : State} {m : MethodId} {args : Array Value} {below : List Frame} {meth : Method} {c : Code} {Qf : State → Prop} {MC MS uc us N : Nat} {xs : Nat → Int32} {xa ma oa da : Nat} {i : Int32} {h : PH} (X : Cx E p l e (rmv 840 MC MS) s m args below meth c RL code 10 ret) (hG : Gs E l) (hgn : Gn E) (hlx : LX E s N xs) (hib : IB i N) {r : ((Int32 × PH) ⊕ (Nat × PH))} (hf : fX11_beside xa (xs (Int32.toNatClampNeg (i + (1 : Int32)))) (if (xs (Int32.toNatClampNeg (i + (2 : Int32)))) = 0 then (0 : Int32) else 1) h = some r) (hk : hK h xa = 11) (hko : ∀ z, r = .inl z → hK z.2 oa = 23 ∧ 0 < hN z.2 oa) (hcd : ∀ z, r = .inr z → z.1 = 1) (hc : uc + (xT2 r - hX h) ≤ MC) (hs : us + (vT2 r - hV h) ≤ MS) (hm : ∀ (v : Option Value) (u : PH), ((∃ z : Int32 × PH, r = .inl z ∧ v = some (.int 0) ∧ u = sL z.2 23 oa (Int32.toNatClampNeg 0) (Int32.toInt64 z.1)) ∨ (∃ (z : Nat × PH) (n : Nat), r = .inr z ∧ hX z.2 ≤ n ∧ u = hbump z.2 n ∧ ((z.1 = 1 ∧ v = some (.int 1))))) → ∃ (code : Int32) (y : Int32 × PH), v = some (.int code) ∧ hK u ma = 12 ∧ fX12_beside ma (xs (Int32.toNatClampNeg (i + (1 : Int32)))) (if (xs (Int32.toNatClampNeg (i + (2 : Int32)))) = 0 then (0 : Int32) else 1) u = some y ∧ hK y.2 ma = 12 ∧ fX12_thrown ma y.2 = some code ∧ (code = 0 → hK y.2 oa = 23 ∧ 0 < hN y.2 oa ∧ hL y.2 23 oa (Int32.toNatClampNeg 0) = Int32.toInt64 y.1) ∧ PW E p l e (rmv 840 MC MS) s m args below meth c 10 (uc + (xT2 r - hX h)) (us + (vT2 r - hV h)) Qf y.2 3150 [(0, some (.ref 0)), (1, some (.ref xa)), (2, some (.ref ma)), (3, some (.ref oa)), (4, some (.ref da)), (5, some (.int i))] []) : PW E p l e (rmv 840 MC MS) s m args below meth c 10 uc us Qf h 1219 [(0, some (.ref 0)), (1, some (.ref xa)), (2, some (.ref ma)), (3, some (.ref oa)), (4, some (.ref da)), (5, some (.int i))] [] := by
  refine p_aload_n X (dcg dcl_20 0 rfl) rfl rfl ?_
  refine p_aload_n X (dcg dcl_20 1 rfl) rfl rfl ?_
  refine p_iload X (dcg dcl_20 2 rfl) rfl ?_
  refine p_iconst (v := 1) X (dcg dcl_20 3 rfl) (by decide) ?_
  refine p_iadd X (dcg dcl_20 4 rfl) ?_
  refine p_sld X hlx (dcg dcl_20 5 rfl) (vp_of_inb hib.2.1) ?_
  refine p_aload_n X (dcg dcl_20 6 rfl) rfl rfl ?_
  refine p_iload X (dcg dcl_20 7 rfl) rfl ?_
  refine p_iconst (v := 2) X (dcg dcl_20 8 rfl) (by decide) ?_
  refine p_iadd X (dcg dcl_20 9 rfl) ?_
  refine p_sld X hlx (dcg dcl_20 10 rfl) (vp_of_inb hib.2.2.1) ?_
  refine p_if_eq (tgt := 1239) X (dcg dcl_20 11 rfl) (by decide) (fun q => ?_) (fun q => ?_)
  · rw [if_pos q] at hf hm
    have qq := q
    refine p_iconst (v := 0) X (dcg dcl_20 14 rfl) (by decide) ?_
    refine p_aload_n X (dcg dcl_20 15 rfl) rfl rfl ?_
    refine p_callSH (As := [_, _, _, _]) X mlh_232 (dcg dcl_20 16 rfl) rfl rfl (wL_beside hG hgn hf hk hko hcd) (by decide) (room4 (Nat.le_of_ble_eq_true rfl)) hc hs ?_
    intro v9 u9 hw9
    obtain ⟨code, y, rfl, hk2, hy, hk3, hth, hval, hK⟩ := hm v9 u9 hw9
    refine p_istore X (dcg dcl_20 17 rfl) (by decide) rfl ?_
    refine p_aload_n X (dcg dcl_20 18 rfl) rfl rfl ?_
    refine p_aload_n X (dcg dcl_20 19 rfl) rfl rfl ?_
    refine p_iload X (dcg dcl_20 20 rfl) rfl ?_
    refine p_iconst (v := 1) X (dcg dcl_20 21 rfl) (by decide) ?_
    refine p_iadd X (dcg dcl_20 22 rfl) ?_
    refine p_sld X hlx (dcg dcl_20 23 rfl) (vp_of_inb hib.2.1) ?_
    refine p_aload_n X (dcg dcl_20 24 rfl) rfl rfl ?_
    refine p_iload X (dcg dcl_20 25 rfl) rfl ?_
    refine p_iconst (v := 2) X (dcg dcl_20 26 rfl) (by decide) ?_
    refine p_iadd X (dcg dcl_20 27 rfl) ?_
    refine p_sld X hlx (dcg dcl_20 28 rfl) (vp_of_inb hib.2.2.1) ?_
    refine p_if_eq (tgt := 1266) X (dcg dcl_20 29 rfl) (by decide) (fun q => ?_) (fun q => ?_)
    · refine p_iconst (v := 0) X (dcg dcl_20 32 rfl) (by decide) ?_
      refine p_callV (As := [_, _]) X ml_L_235 (dcg dcl_20 33 rfl) rfl rfl hk2 (wX12_beside hG hy) (by decide) (room4 (Nat.le_of_ble_eq_true rfl)) (Nat.le_trans (Nat.le_of_eq (Nat.add_zero _)) hc) (Nat.le_trans (Nat.le_of_eq (Nat.add_zero _)) hs) ?_
      rintro _ u9 ⟨rfl, e9⟩; have e9 := e9.symm; subst e9
      refine p_istore X (dcg dcl_20 34 rfl) (by decide) rfl ?_
      refine p_aload_n X (dcg dcl_20 35 rfl) rfl rfl ?_
      refine p_callV (As := []) X ml_L_161 (dcg dcl_20 36 rfl) rfl rfl hk3 (wX12_thrown hG hth) (by decide) (room4 (Nat.le_of_ble_eq_true rfl)) (Nat.le_trans (Nat.le_of_eq (Nat.add_zero _)) hc) (Nat.le_trans (Nat.le_of_eq (Nat.add_zero _)) hs) ?_
      rintro _ u9 ⟨rfl, e9⟩; have e9 := e9.symm; subst e9
      refine p_iload X (dcg dcl_20 37 rfl) rfl ?_
      refine p_icmp_eq (tgt := 1283) X (dcg dcl_20 38 rfl) (by decide) (fun q => ?_) (fun q => ?_)
      · refine p_iload X (dcg dcl_20 41 rfl) rfl ?_
        refine p_if_ne (tgt := 1300) X (dcg dcl_20 42 rfl) (by decide) (fun q => ?_) (fun q => ?_)
        · refine p_goto (tgt := 3150) X (dcg dcl_20 52 rfl) (by decide) ?_
          refine p_pick [0, 1, 2, 3, 4, 5] ?_
          exact hK
        · obtain ⟨hko2, hln2, hvl⟩ := hval (Decidable.not_not.mp q)
          refine p_aload_n X (dcg dcl_20 43 rfl) rfl rfl ?_
          refine p_iconst (v := 0) X (dcg dcl_20 44 rfl) (by decide) ?_
          refine p_lald X (dcg dcl_20 45 rfl) hko2 (vp_of_inb ⟨by decide, hln2⟩) ?_
          refine p_iload X (dcg dcl_20 46 rfl) rfl ?_
          refine p_i2l X (dcg dcl_20 47 rfl) ?_
          refine p_lcmp X (dcg dcl_20 48 rfl) ?_
          refine p_if_eq (tgt := 1300) X (dcg dcl_20 49 rfl) (by decide) (fun q => ?_) (fun q => ?_)
          · refine p_goto (tgt := 3150) X (dcg dcl_20 52 rfl) (by decide) ?_
            refine p_pick [0, 1, 2, 3, 4, 5] ?_
            exact hK
          · exact absurd (by rw [hvl]; exact lg_cmp_self _) q
      · exact absurd rfl q
    · exact absurd qq q
  · rw [if_neg q] at hf hm
    have qq := q
    refine p_iconst (v := 1) X (dcg dcl_20 12 rfl) (by decide) ?_
    refine p_goto (tgt := 1240) X (dcg dcl_20 13 rfl) (by decide) ?_
    refine p_aload_n X (dcg dcl_20 15 rfl) rfl rfl ?_
    refine p_callSH (As := [_, _, _, _]) X mlh_232 (dcg dcl_20 16 rfl) rfl rfl (wL_beside hG hgn hf hk hko hcd) (by decide) (room4 (Nat.le_of_ble_eq_true rfl)) hc hs ?_
    intro v9 u9 hw9
    obtain ⟨code, y, rfl, hk2, hy, hk3, hth, hval, hK⟩ := hm v9 u9 hw9
    refine p_istore X (dcg dcl_20 17 rfl) (by decide) rfl ?_
    refine p_aload_n X (dcg dcl_20 18 rfl) rfl rfl ?_
    refine p_aload_n X (dcg dcl_20 19 rfl) rfl rfl ?_
    refine p_iload X (dcg dcl_20 20 rfl) rfl ?_
    refine p_iconst (v := 1) X (dcg dcl_20 21 rfl) (by decide) ?_
    refine p_iadd X (dcg dcl_20 22 rfl) ?_
    refine p_sld X hlx (dcg dcl_20 23 rfl) (vp_of_inb hib.2.1) ?_
    refine p_aload_n X (dcg dcl_20 24 rfl) rfl rfl ?_
    refine p_iload X (dcg dcl_20 25 rfl) rfl ?_
    refine p_iconst (v := 2) X (dcg dcl_20 26 rfl) (by decide) ?_
    refine p_iadd X (dcg dcl_20 27 rfl) ?_
    refine p_sld X hlx (dcg dcl_20 28 rfl) (vp_of_inb hib.2.2.1) ?_
    refine p_if_eq (tgt := 1266) X (dcg dcl_20 29 rfl) (by decide) (fun q => ?_) (fun q => ?_)
    · exact absurd q qq
    · refine p_iconst (v := 1) X (dcg dcl_20 30 rfl) (by decide) ?_
      refine p_goto (tgt := 1267) X (dcg dcl_20 31 rfl) (by decide) ?_
      refine p_callV (As := [_, _]) X ml_L_235 (dcg dcl_20 33 rfl) rfl rfl hk2 (wX12_beside hG hy) (by decide) (room4 (Nat.le_of_ble_eq_true rfl)) (Nat.le_trans (Nat.le_of_eq (Nat.add_zero _)) hc) (Nat.le_trans (Nat.le_of_eq (Nat.add_zero _)) hs) ?_
      rintro _ u9 ⟨rfl, e9⟩; have e9 := e9.symm; subst e9
      refine p_istore X (dcg dcl_20 34 rfl) (by decide) rfl ?_
      refine p_aload_n X (dcg dcl_20 35 rfl) rfl rfl ?_
      refine p_callV (As := []) X ml_L_161 (dcg dcl_20 36 rfl) rfl rfl hk3 (wX12_thrown hG hth) (by decide) (room4 (Nat.le_of_ble_eq_true rfl)) (Nat.le_trans (Nat.le_of_eq (Nat.add_zero _)) hc) (Nat.le_trans (Nat.le_of_eq (Nat.add_zero _)) hs) ?_
      rintro _ u9 ⟨rfl, e9⟩; have e9 := e9.symm; subst e9
      refine p_iload X (dcg dcl_20 37 rfl) rfl ?_
      refine p_icmp_eq (tgt := 1283) X (dcg dcl_20 38 rfl) (by decide) (fun q => ?_) (fun q => ?_)
      · refine p_iload X (dcg dcl_20 41 rfl) rfl ?_
        refine p_if_ne (tgt := 1300) X (dcg dcl_20 42 rfl) (by decide) (fun q => ?_) (fun q => ?_)
        · refine p_goto (tgt := 3150) X (dcg dcl_20 52 rfl) (by decide) ?_
          refine p_pick [0, 1, 2, 3, 4, 5] ?_
          exact hK
        · obtain ⟨hko2, hln2, hvl⟩ := hval (Decidable.not_not.mp q)
          refine p_aload_n X (dcg dcl_20 43 rfl) rfl rfl ?_
          refine p_iconst (v := 0) X (dcg dcl_20 44 rfl) (by decide) ?_
          refine p_lald X (dcg dcl_20 45 rfl) hko2 (vp_of_inb ⟨by decide, hln2⟩) ?_
          refine p_iload X (dcg dcl_20 46 rfl) rfl ?_
          refine p_i2l X (dcg dcl_20 47 rfl) ?_
          refine p_lcmp X (dcg dcl_20 48 rfl) ?_
          refine p_if_eq (tgt := 1300) X (dcg dcl_20 49 rfl) (by decide) (fun q => ?_) (fun q => ?_)
          · refine p_goto (tgt := 3150) X (dcg dcl_20 52 rfl) (by decide) ?_
            refine p_pick [0, 1, 2, 3, 4, 5] ?_
            exact hK
          · exact absurd (by rw [hvl]; exact lg_cmp_self _) q
      · exact absurd rfl q
theorem dcl_21 : decs code [(1303, .aload_n 1, 1), (1304, .aload_n 0, 1), (1305, .iload 5, 2), (1307, .iconst 1, 1), (1308, .iadd, 1), (1309, .iaload, 1), (1310, .aload_n 0, 1), (1311, .iload 5, 2), (1313, .iconst 2, 1), (1314, .iadd, 1), (1315, .iaload, 1), (1316, .aload_n 3, 1), (1317, .invokestatic 236, 3), (1320, .istore 6, 2), (1322, .aload_n 2, 1), (1323, .aload_n 0, 1), (1324, .iload 5, 2), (1326, .iconst 1, 1), (1327, .iadd, 1), (1328, .iaload, 1), (1329, .aload_n 0, 1), (1330, .iload 5, 2), (1332, .iconst 2, 1), (1333, .iadd, 1), (1334, .iaload, 1), (1335, .invokevirtual 238, 3), (1338, .istore 7, 2), (1340, .aload_n 2, 1), (1341, .invokevirtual 161, 3), (1344, .iload 6, 2), (1346, .if_icmp .eq 5, 3), (1349, .iconst 0, 1), (1350, .ireturn, 1), (1351, .iload 6, 2), (1353, .ifCond .ne 15, 3), (1356, .aload_n 3, 1), (1357, .iconst 0, 1), (1358, .laload, 1), (1359, .iload 7, 2), (1361, .i2l, 1), (1362, .lcmp, 1), (1363, .ifCond .eq 5, 3), (1366, .iconst 0, 1), (1367, .ireturn, 1), (1368, .goto 1782, 3)] = true := by decide +kernel
set_option maxRecDepth 100000 in
theorem lc_21 {E : PE} {p : Program} {l : Launch} {e : Env} {s : State} {m : MethodId} {args : Array Value} {below : List Frame} {meth : Method} {c : Code} {Qf : State → Prop} {MC MS uc us N : Nat} {xs : Nat → Int32} {xa ma oa da : Nat} {i : Int32} {h : PH} (X : Cx E p l e (rmv 840 MC MS) s m args below meth c RL code 10 ret) (hG : Gs E l) (hgn : Gn E) (hlx : LX E s N xs) (hib : IB i N) {r : ((Int32 × PH) ⊕ (Nat × PH))} (hf : fX11_between xa (xs (Int32.toNatClampNeg (i + (1 : Int32)))) (xs (Int32.toNatClampNeg (i + (2 : Int32)))) h = some r) (hk : hK h xa = 11) (hko : ∀ z, r = .inl z → hK z.2 oa = 23 ∧ 0 < hN z.2 oa) (hcd : ∀ z, r = .inr z → z.1 = 1) (hc : uc + (xT2 r - hX h) ≤ MC) (hs : us + (vT2 r - hV h) ≤ MS) (hm : ∀ (v : Option Value) (u : PH), ((∃ z : Int32 × PH, r = .inl z ∧ v = some (.int 0) ∧ u = sL z.2 23 oa (Int32.toNatClampNeg 0) (Int32.toInt64 z.1)) ∨ (∃ (z : Nat × PH) (n : Nat), r = .inr z ∧ hX z.2 ≤ n ∧ u = hbump z.2 n ∧ ((z.1 = 1 ∧ v = some (.int 1))))) → ∃ (code : Int32) (y : Int32 × PH), v = some (.int code) ∧ hK u ma = 12 ∧ fX12_between ma (xs (Int32.toNatClampNeg (i + (1 : Int32)))) (xs (Int32.toNatClampNeg (i + (2 : Int32)))) u = some y ∧ hK y.2 ma = 12 ∧ fX12_thrown ma y.2 = some code ∧ (code = 0 → hK y.2 oa = 23 ∧ 0 < hN y.2 oa ∧ hL y.2 23 oa (Int32.toNatClampNeg 0) = Int32.toInt64 y.1) ∧ PW E p l e (rmv 840 MC MS) s m args below meth c 10 (uc + (xT2 r - hX h)) (us + (vT2 r - hV h)) Qf y.2 3150 [(0, some (.ref 0)), (1, some (.ref xa)), (2, some (.ref ma)), (3, some (.ref oa)), (4, some (.ref da)), (5, some (.int i))] []) : PW E p l e (rmv 840 MC MS) s m args below meth c 10 uc us Qf h 1303 [(0, some (.ref 0)), (1, some (.ref xa)), (2, some (.ref ma)), (3, some (.ref oa)), (4, some (.ref da)), (5, some (.int i))] [] := by
  refine p_aload_n X (dcg dcl_21 0 rfl) rfl rfl ?_
  refine p_aload_n X (dcg dcl_21 1 rfl) rfl rfl ?_
  refine p_iload X (dcg dcl_21 2 rfl) rfl ?_
  refine p_iconst (v := 1) X (dcg dcl_21 3 rfl) (by decide) ?_
  refine p_iadd X (dcg dcl_21 4 rfl) ?_
  refine p_sld X hlx (dcg dcl_21 5 rfl) (vp_of_inb hib.2.1) ?_
  refine p_aload_n X (dcg dcl_21 6 rfl) rfl rfl ?_
  refine p_iload X (dcg dcl_21 7 rfl) rfl ?_
  refine p_iconst (v := 2) X (dcg dcl_21 8 rfl) (by decide) ?_
  refine p_iadd X (dcg dcl_21 9 rfl) ?_
  refine p_sld X hlx (dcg dcl_21 10 rfl) (vp_of_inb hib.2.2.1) ?_
  refine p_aload_n X (dcg dcl_21 11 rfl) rfl rfl ?_
  refine p_callSH (As := [_, _, _, _]) X mlh_236 (dcg dcl_21 12 rfl) rfl rfl (wL_between hG hgn hf hk hko hcd) (by decide) (room4 (Nat.le_of_ble_eq_true rfl)) hc hs ?_
  intro v9 u9 hw9
  obtain ⟨code, y, rfl, hk2, hy, hk3, hth, hval, hK⟩ := hm v9 u9 hw9
  refine p_istore X (dcg dcl_21 13 rfl) (by decide) rfl ?_
  refine p_aload_n X (dcg dcl_21 14 rfl) rfl rfl ?_
  refine p_aload_n X (dcg dcl_21 15 rfl) rfl rfl ?_
  refine p_iload X (dcg dcl_21 16 rfl) rfl ?_
  refine p_iconst (v := 1) X (dcg dcl_21 17 rfl) (by decide) ?_
  refine p_iadd X (dcg dcl_21 18 rfl) ?_
  refine p_sld X hlx (dcg dcl_21 19 rfl) (vp_of_inb hib.2.1) ?_
  refine p_aload_n X (dcg dcl_21 20 rfl) rfl rfl ?_
  refine p_iload X (dcg dcl_21 21 rfl) rfl ?_
  refine p_iconst (v := 2) X (dcg dcl_21 22 rfl) (by decide) ?_
  refine p_iadd X (dcg dcl_21 23 rfl) ?_
  refine p_sld X hlx (dcg dcl_21 24 rfl) (vp_of_inb hib.2.2.1) ?_
  refine p_callV (As := [_, _]) X ml_L_238 (dcg dcl_21 25 rfl) rfl rfl hk2 (wX12_between hG hy) (by decide) (room4 (Nat.le_of_ble_eq_true rfl)) (Nat.le_trans (Nat.le_of_eq (Nat.add_zero _)) hc) (Nat.le_trans (Nat.le_of_eq (Nat.add_zero _)) hs) ?_
  rintro _ u9 ⟨rfl, e9⟩; have e9 := e9.symm; subst e9
  refine p_istore X (dcg dcl_21 26 rfl) (by decide) rfl ?_
  refine p_aload_n X (dcg dcl_21 27 rfl) rfl rfl ?_
  refine p_callV (As := []) X ml_L_161 (dcg dcl_21 28 rfl) rfl rfl hk3 (wX12_thrown hG hth) (by decide) (room4 (Nat.le_of_ble_eq_true rfl)) (Nat.le_trans (Nat.le_of_eq (Nat.add_zero _)) hc) (Nat.le_trans (Nat.le_of_eq (Nat.add_zero _)) hs) ?_
  rintro _ u9 ⟨rfl, e9⟩; have e9 := e9.symm; subst e9
  refine p_iload X (dcg dcl_21 29 rfl) rfl ?_
  refine p_icmp_eq (tgt := 1351) X (dcg dcl_21 30 rfl) (by decide) (fun q => ?_) (fun q => ?_)
  · refine p_iload X (dcg dcl_21 33 rfl) rfl ?_
    refine p_if_ne (tgt := 1368) X (dcg dcl_21 34 rfl) (by decide) (fun q => ?_) (fun q => ?_)
    · refine p_goto (tgt := 3150) X (dcg dcl_21 44 rfl) (by decide) ?_
      refine p_pick [0, 1, 2, 3, 4, 5] ?_
      exact hK
    · obtain ⟨hko2, hln2, hvl⟩ := hval (Decidable.not_not.mp q)
      refine p_aload_n X (dcg dcl_21 35 rfl) rfl rfl ?_
      refine p_iconst (v := 0) X (dcg dcl_21 36 rfl) (by decide) ?_
      refine p_lald X (dcg dcl_21 37 rfl) hko2 (vp_of_inb ⟨by decide, hln2⟩) ?_
      refine p_iload X (dcg dcl_21 38 rfl) rfl ?_
      refine p_i2l X (dcg dcl_21 39 rfl) ?_
      refine p_lcmp X (dcg dcl_21 40 rfl) ?_
      refine p_if_eq (tgt := 1368) X (dcg dcl_21 41 rfl) (by decide) (fun q => ?_) (fun q => ?_)
      · refine p_goto (tgt := 3150) X (dcg dcl_21 44 rfl) (by decide) ?_
        refine p_pick [0, 1, 2, 3, 4, 5] ?_
        exact hK
      · exact absurd (by rw [hvl]; exact lg_cmp_self _) q
  · exact absurd rfl q
theorem dcl_22 : decs code [(1371, .aload_n 1, 1), (1372, .aload_n 0, 1), (1373, .iload 5, 2), (1375, .iconst 1, 1), (1376, .iadd, 1), (1377, .iaload, 1), (1378, .aload_n 3, 1), (1379, .invokestatic 239, 3), (1382, .istore 6, 2), (1384, .aload_n 2, 1), (1385, .aload_n 0, 1), (1386, .iload 5, 2), (1388, .iconst 1, 1), (1389, .iadd, 1), (1390, .iaload, 1), (1391, .invokevirtual 241, 3), (1394, .istore 7, 2), (1396, .aload_n 2, 1), (1397, .invokevirtual 161, 3), (1400, .iload 6, 2), (1402, .if_icmp .eq 5, 3), (1405, .iconst 0, 1), (1406, .ireturn, 1), (1407, .iload 6, 2), (1409, .ifCond .ne 15, 3), (1412, .aload_n 3, 1), (1413, .iconst 0, 1), (1414, .laload, 1), (1415, .iload 7, 2), (1417, .i2l, 1), (1418, .lcmp, 1), (1419, .ifCond .eq 5, 3), (1422, .iconst 0, 1), (1423, .ireturn, 1), (1424, .goto 1726, 3)] = true := by decide +kernel
set_option maxRecDepth 100000 in
theorem lc_22 {E : PE} {p : Program} {l : Launch} {e : Env} {s : State} {m : MethodId} {args : Array Value} {below : List Frame} {meth : Method} {c : Code} {Qf : State → Prop} {MC MS uc us N : Nat} {xs : Nat → Int32} {xa ma oa da : Nat} {i : Int32} {h : PH} (X : Cx E p l e (rmv 840 MC MS) s m args below meth c RL code 10 ret) (hG : Gs E l) (hgn : Gn E) (hlx : LX E s N xs) (hib : IB i N) {r : ((Int32 × PH) ⊕ (Nat × PH))} (hf : fX11_beginning xa (xs (Int32.toNatClampNeg (i + (1 : Int32)))) h = some r) (hk : hK h xa = 11) (hko : ∀ z, r = .inl z → hK z.2 oa = 23 ∧ 0 < hN z.2 oa) (hcd : ∀ z, r = .inr z → z.1 = 1) (hc : uc + (xT2 r - hX h) ≤ MC) (hs : us + (vT2 r - hV h) ≤ MS) (hm : ∀ (v : Option Value) (u : PH), ((∃ z : Int32 × PH, r = .inl z ∧ v = some (.int 0) ∧ u = sL z.2 23 oa (Int32.toNatClampNeg 0) (Int32.toInt64 z.1)) ∨ (∃ (z : Nat × PH) (n : Nat), r = .inr z ∧ hX z.2 ≤ n ∧ u = hbump z.2 n ∧ ((z.1 = 1 ∧ v = some (.int 1))))) → ∃ (code : Int32) (y : Int32 × PH), v = some (.int code) ∧ hK u ma = 12 ∧ fX12_beginning ma (xs (Int32.toNatClampNeg (i + (1 : Int32)))) u = some y ∧ hK y.2 ma = 12 ∧ fX12_thrown ma y.2 = some code ∧ (code = 0 → hK y.2 oa = 23 ∧ 0 < hN y.2 oa ∧ hL y.2 23 oa (Int32.toNatClampNeg 0) = Int32.toInt64 y.1) ∧ PW E p l e (rmv 840 MC MS) s m args below meth c 10 (uc + (xT2 r - hX h)) (us + (vT2 r - hV h)) Qf y.2 3150 [(0, some (.ref 0)), (1, some (.ref xa)), (2, some (.ref ma)), (3, some (.ref oa)), (4, some (.ref da)), (5, some (.int i))] []) : PW E p l e (rmv 840 MC MS) s m args below meth c 10 uc us Qf h 1371 [(0, some (.ref 0)), (1, some (.ref xa)), (2, some (.ref ma)), (3, some (.ref oa)), (4, some (.ref da)), (5, some (.int i))] [] := by
  refine p_aload_n X (dcg dcl_22 0 rfl) rfl rfl ?_
  refine p_aload_n X (dcg dcl_22 1 rfl) rfl rfl ?_
  refine p_iload X (dcg dcl_22 2 rfl) rfl ?_
  refine p_iconst (v := 1) X (dcg dcl_22 3 rfl) (by decide) ?_
  refine p_iadd X (dcg dcl_22 4 rfl) ?_
  refine p_sld X hlx (dcg dcl_22 5 rfl) (vp_of_inb hib.2.1) ?_
  refine p_aload_n X (dcg dcl_22 6 rfl) rfl rfl ?_
  refine p_callSH (As := [_, _, _]) X mlh_239 (dcg dcl_22 7 rfl) rfl rfl (wL_beginning hG hgn hf hk hko hcd) (by decide) (room4 (Nat.le_of_ble_eq_true rfl)) hc hs ?_
  intro v9 u9 hw9
  obtain ⟨code, y, rfl, hk2, hy, hk3, hth, hval, hK⟩ := hm v9 u9 hw9
  refine p_istore X (dcg dcl_22 8 rfl) (by decide) rfl ?_
  refine p_aload_n X (dcg dcl_22 9 rfl) rfl rfl ?_
  refine p_aload_n X (dcg dcl_22 10 rfl) rfl rfl ?_
  refine p_iload X (dcg dcl_22 11 rfl) rfl ?_
  refine p_iconst (v := 1) X (dcg dcl_22 12 rfl) (by decide) ?_
  refine p_iadd X (dcg dcl_22 13 rfl) ?_
  refine p_sld X hlx (dcg dcl_22 14 rfl) (vp_of_inb hib.2.1) ?_
  refine p_callV (As := [_]) X ml_L_241 (dcg dcl_22 15 rfl) rfl rfl hk2 (wX12_beginning hG hy) (by decide) (room4 (Nat.le_of_ble_eq_true rfl)) (Nat.le_trans (Nat.le_of_eq (Nat.add_zero _)) hc) (Nat.le_trans (Nat.le_of_eq (Nat.add_zero _)) hs) ?_
  rintro _ u9 ⟨rfl, e9⟩; have e9 := e9.symm; subst e9
  refine p_istore X (dcg dcl_22 16 rfl) (by decide) rfl ?_
  refine p_aload_n X (dcg dcl_22 17 rfl) rfl rfl ?_
  refine p_callV (As := []) X ml_L_161 (dcg dcl_22 18 rfl) rfl rfl hk3 (wX12_thrown hG hth) (by decide) (room4 (Nat.le_of_ble_eq_true rfl)) (Nat.le_trans (Nat.le_of_eq (Nat.add_zero _)) hc) (Nat.le_trans (Nat.le_of_eq (Nat.add_zero _)) hs) ?_
  rintro _ u9 ⟨rfl, e9⟩; have e9 := e9.symm; subst e9
  refine p_iload X (dcg dcl_22 19 rfl) rfl ?_
  refine p_icmp_eq (tgt := 1407) X (dcg dcl_22 20 rfl) (by decide) (fun q => ?_) (fun q => ?_)
  · refine p_iload X (dcg dcl_22 23 rfl) rfl ?_
    refine p_if_ne (tgt := 1424) X (dcg dcl_22 24 rfl) (by decide) (fun q => ?_) (fun q => ?_)
    · refine p_goto (tgt := 3150) X (dcg dcl_22 34 rfl) (by decide) ?_
      refine p_pick [0, 1, 2, 3, 4, 5] ?_
      exact hK
    · obtain ⟨hko2, hln2, hvl⟩ := hval (Decidable.not_not.mp q)
      refine p_aload_n X (dcg dcl_22 25 rfl) rfl rfl ?_
      refine p_iconst (v := 0) X (dcg dcl_22 26 rfl) (by decide) ?_
      refine p_lald X (dcg dcl_22 27 rfl) hko2 (vp_of_inb ⟨by decide, hln2⟩) ?_
      refine p_iload X (dcg dcl_22 28 rfl) rfl ?_
      refine p_i2l X (dcg dcl_22 29 rfl) ?_
      refine p_lcmp X (dcg dcl_22 30 rfl) ?_
      refine p_if_eq (tgt := 1424) X (dcg dcl_22 31 rfl) (by decide) (fun q => ?_) (fun q => ?_)
      · refine p_goto (tgt := 3150) X (dcg dcl_22 34 rfl) (by decide) ?_
        refine p_pick [0, 1, 2, 3, 4, 5] ?_
        exact hK
      · exact absurd (by rw [hvl]; exact lg_cmp_self _) q
  · exact absurd rfl q
theorem dcl_23 : decs code [(1427, .aload_n 1, 1), (1428, .aload_n 0, 1), (1429, .iload 5, 2), (1431, .iconst 1, 1), (1432, .iadd, 1), (1433, .iaload, 1), (1434, .aload_n 3, 1), (1435, .invokestatic 242, 3), (1438, .istore 6, 2), (1440, .aload_n 2, 1), (1441, .aload_n 0, 1), (1442, .iload 5, 2), (1444, .iconst 1, 1), (1445, .iadd, 1), (1446, .iaload, 1), (1447, .invokevirtual 244, 3), (1450, .istore 7, 2), (1452, .aload_n 2, 1), (1453, .invokevirtual 161, 3), (1456, .iload 6, 2), (1458, .if_icmp .eq 5, 3), (1461, .iconst 0, 1), (1462, .ireturn, 1), (1463, .iload 6, 2), (1465, .ifCond .ne 15, 3), (1468, .aload_n 3, 1), (1469, .iconst 0, 1), (1470, .laload, 1), (1471, .iload 7, 2), (1473, .i2l, 1), (1474, .lcmp, 1), (1475, .ifCond .eq 5, 3), (1478, .iconst 0, 1), (1479, .ireturn, 1), (1480, .goto 1670, 3)] = true := by decide +kernel
set_option maxRecDepth 100000 in
theorem lc_23 {E : PE} {p : Program} {l : Launch} {e : Env} {s : State} {m : MethodId} {args : Array Value} {below : List Frame} {meth : Method} {c : Code} {Qf : State → Prop} {MC MS uc us N : Nat} {xs : Nat → Int32} {xa ma oa da : Nat} {i : Int32} {h : PH} (X : Cx E p l e (rmv 840 MC MS) s m args below meth c RL code 10 ret) (hG : Gs E l) (hgn : Gn E) (hlx : LX E s N xs) (hib : IB i N) {r : ((Int32 × PH) ⊕ (Nat × PH))} (hf : fX11_textsWith xa (xs (Int32.toNatClampNeg (i + (1 : Int32)))) h = some r) (hk : hK h xa = 11) (hko : ∀ z, r = .inl z → hK z.2 oa = 23 ∧ 0 < hN z.2 oa) (hcd : ∀ z, r = .inr z → z.1 = 1) (hc : uc + (xT2 r - hX h) ≤ MC) (hs : us + (vT2 r - hV h) ≤ MS) (hm : ∀ (v : Option Value) (u : PH), ((∃ z : Int32 × PH, r = .inl z ∧ v = some (.int 0) ∧ u = sL z.2 23 oa (Int32.toNatClampNeg 0) (Int32.toInt64 z.1)) ∨ (∃ (z : Nat × PH) (n : Nat), r = .inr z ∧ hX z.2 ≤ n ∧ u = hbump z.2 n ∧ ((z.1 = 1 ∧ v = some (.int 1))))) → ∃ (code : Int32) (y : Int32 × PH), v = some (.int code) ∧ hK u ma = 12 ∧ fX12_textsWith ma (xs (Int32.toNatClampNeg (i + (1 : Int32)))) u = some y ∧ hK y.2 ma = 12 ∧ fX12_thrown ma y.2 = some code ∧ (code = 0 → hK y.2 oa = 23 ∧ 0 < hN y.2 oa ∧ hL y.2 23 oa (Int32.toNatClampNeg 0) = Int32.toInt64 y.1) ∧ PW E p l e (rmv 840 MC MS) s m args below meth c 10 (uc + (xT2 r - hX h)) (us + (vT2 r - hV h)) Qf y.2 3150 [(0, some (.ref 0)), (1, some (.ref xa)), (2, some (.ref ma)), (3, some (.ref oa)), (4, some (.ref da)), (5, some (.int i))] []) : PW E p l e (rmv 840 MC MS) s m args below meth c 10 uc us Qf h 1427 [(0, some (.ref 0)), (1, some (.ref xa)), (2, some (.ref ma)), (3, some (.ref oa)), (4, some (.ref da)), (5, some (.int i))] [] := by
  refine p_aload_n X (dcg dcl_23 0 rfl) rfl rfl ?_
  refine p_aload_n X (dcg dcl_23 1 rfl) rfl rfl ?_
  refine p_iload X (dcg dcl_23 2 rfl) rfl ?_
  refine p_iconst (v := 1) X (dcg dcl_23 3 rfl) (by decide) ?_
  refine p_iadd X (dcg dcl_23 4 rfl) ?_
  refine p_sld X hlx (dcg dcl_23 5 rfl) (vp_of_inb hib.2.1) ?_
  refine p_aload_n X (dcg dcl_23 6 rfl) rfl rfl ?_
  refine p_callSH (As := [_, _, _]) X mlh_242 (dcg dcl_23 7 rfl) rfl rfl (wL_textsWith hG hgn hf hk hko hcd) (by decide) (room4 (Nat.le_of_ble_eq_true rfl)) hc hs ?_
  intro v9 u9 hw9
  obtain ⟨code, y, rfl, hk2, hy, hk3, hth, hval, hK⟩ := hm v9 u9 hw9
  refine p_istore X (dcg dcl_23 8 rfl) (by decide) rfl ?_
  refine p_aload_n X (dcg dcl_23 9 rfl) rfl rfl ?_
  refine p_aload_n X (dcg dcl_23 10 rfl) rfl rfl ?_
  refine p_iload X (dcg dcl_23 11 rfl) rfl ?_
  refine p_iconst (v := 1) X (dcg dcl_23 12 rfl) (by decide) ?_
  refine p_iadd X (dcg dcl_23 13 rfl) ?_
  refine p_sld X hlx (dcg dcl_23 14 rfl) (vp_of_inb hib.2.1) ?_
  refine p_callV (As := [_]) X ml_L_244 (dcg dcl_23 15 rfl) rfl rfl hk2 (wX12_textsWith hG hy) (by decide) (room4 (Nat.le_of_ble_eq_true rfl)) (Nat.le_trans (Nat.le_of_eq (Nat.add_zero _)) hc) (Nat.le_trans (Nat.le_of_eq (Nat.add_zero _)) hs) ?_
  rintro _ u9 ⟨rfl, e9⟩; have e9 := e9.symm; subst e9
  refine p_istore X (dcg dcl_23 16 rfl) (by decide) rfl ?_
  refine p_aload_n X (dcg dcl_23 17 rfl) rfl rfl ?_
  refine p_callV (As := []) X ml_L_161 (dcg dcl_23 18 rfl) rfl rfl hk3 (wX12_thrown hG hth) (by decide) (room4 (Nat.le_of_ble_eq_true rfl)) (Nat.le_trans (Nat.le_of_eq (Nat.add_zero _)) hc) (Nat.le_trans (Nat.le_of_eq (Nat.add_zero _)) hs) ?_
  rintro _ u9 ⟨rfl, e9⟩; have e9 := e9.symm; subst e9
  refine p_iload X (dcg dcl_23 19 rfl) rfl ?_
  refine p_icmp_eq (tgt := 1463) X (dcg dcl_23 20 rfl) (by decide) (fun q => ?_) (fun q => ?_)
  · refine p_iload X (dcg dcl_23 23 rfl) rfl ?_
    refine p_if_ne (tgt := 1480) X (dcg dcl_23 24 rfl) (by decide) (fun q => ?_) (fun q => ?_)
    · refine p_goto (tgt := 3150) X (dcg dcl_23 34 rfl) (by decide) ?_
      refine p_pick [0, 1, 2, 3, 4, 5] ?_
      exact hK
    · obtain ⟨hko2, hln2, hvl⟩ := hval (Decidable.not_not.mp q)
      refine p_aload_n X (dcg dcl_23 25 rfl) rfl rfl ?_
      refine p_iconst (v := 0) X (dcg dcl_23 26 rfl) (by decide) ?_
      refine p_lald X (dcg dcl_23 27 rfl) hko2 (vp_of_inb ⟨by decide, hln2⟩) ?_
      refine p_iload X (dcg dcl_23 28 rfl) rfl ?_
      refine p_i2l X (dcg dcl_23 29 rfl) ?_
      refine p_lcmp X (dcg dcl_23 30 rfl) ?_
      refine p_if_eq (tgt := 1480) X (dcg dcl_23 31 rfl) (by decide) (fun q => ?_) (fun q => ?_)
      · refine p_goto (tgt := 3150) X (dcg dcl_23 34 rfl) (by decide) ?_
        refine p_pick [0, 1, 2, 3, 4, 5] ?_
        exact hK
      · exact absurd (by rw [hvl]; exact lg_cmp_self _) q
  · exact absurd rfl q
theorem dcl_24 : decs code [(1483, .aload_n 1, 1), (1484, .aload_n 0, 1), (1485, .iload 5, 2), (1487, .iconst 1, 1), (1488, .iadd, 1), (1489, .iaload, 1), (1490, .aload_n 0, 1), (1491, .iload 5, 2), (1493, .iconst 2, 1), (1494, .iadd, 1), (1495, .iaload, 1), (1496, .aload_n 3, 1), (1497, .invokestatic 245, 3), (1500, .istore 6, 2), (1502, .aload_n 2, 1), (1503, .aload_n 0, 1), (1504, .iload 5, 2), (1506, .iconst 1, 1), (1507, .iadd, 1), (1508, .iaload, 1), (1509, .aload_n 0, 1), (1510, .iload 5, 2), (1512, .iconst 2, 1), (1513, .iadd, 1), (1514, .iaload, 1), (1515, .invokevirtual 247, 3), (1518, .istore 7, 2), (1520, .aload_n 2, 1), (1521, .invokevirtual 161, 3), (1524, .iload 6, 2), (1526, .if_icmp .eq 5, 3), (1529, .iconst 0, 1), (1530, .ireturn, 1), (1531, .iload 6, 2), (1533, .ifCond .ne 22, 3), (1536, .aload_n 3, 1), (1537, .iconst 0, 1), (1538, .laload, 1), (1539, .iload 7, 2), (1541, .ifCond .eq 7, 3), (1544, .lconst 1, 1), (1545, .goto 4, 3), (1548, .lconst 0, 1), (1549, .lcmp, 1), (1550, .ifCond .eq 5, 3), (1553, .iconst 0, 1), (1554, .ireturn, 1), (1555, .goto 1595, 3)] = true := by decide +kernel
set_option maxRecDepth 100000 in
theorem lc_24 {E : PE} {p : Program} {l : Launch} {e : Env} {s : State} {m : MethodId} {args : Array Value} {below : List Frame} {meth : Method} {c : Code} {Qf : State → Prop} {MC MS uc us N : Nat} {xs : Nat → Int32} {xa ma oa da : Nat} {i : Int32} {h : PH} (X : Cx E p l e (rmv 840 MC MS) s m args below meth c RL code 10 ret) (hG : Gs E l) (hgn : Gn E) (hlx : LX E s N xs) (hib : IB i N) {r : ((Int32 × PH) ⊕ (Nat × PH))} (hf : fX11_isIn xa (xs (Int32.toNatClampNeg (i + (1 : Int32)))) (xs (Int32.toNatClampNeg (i + (2 : Int32)))) h = some r) (hk : hK h xa = 11) (hko : ∀ z, r = .inl z → hK z.2 oa = 23 ∧ 0 < hN z.2 oa) (hcd : ∀ z, r = .inr z → z.1 = 1 ∨ z.1 = 2) (hc : uc + (xT2 r - hX h) ≤ MC) (hs : us + (vT2 r - hV h) ≤ MS) (hm : ∀ (v : Option Value) (u : PH), ((∃ z : Int32 × PH, r = .inl z ∧ v = some (.int 0) ∧ u = sL z.2 23 oa (Int32.toNatClampNeg 0) (if z.1 = 0 then (0 : Int64) else 1)) ∨ (∃ (z : Nat × PH) (n : Nat), r = .inr z ∧ hX z.2 ≤ n ∧ u = hbump z.2 n ∧ ((z.1 = 1 ∧ v = some (.int 1)) ∨ (z.1 = 2 ∧ v = some (.int 2))))) → ∃ (code : Int32) (y : Int32 × PH), v = some (.int code) ∧ hK u ma = 12 ∧ fX12_isIn ma (xs (Int32.toNatClampNeg (i + (1 : Int32)))) (xs (Int32.toNatClampNeg (i + (2 : Int32)))) u = some y ∧ hK y.2 ma = 12 ∧ fX12_thrown ma y.2 = some code ∧ (code = 0 → hK y.2 oa = 23 ∧ 0 < hN y.2 oa ∧ hL y.2 23 oa (Int32.toNatClampNeg 0) = (if y.1 = 0 then (0 : Int64) else 1)) ∧ PW E p l e (rmv 840 MC MS) s m args below meth c 10 (uc + (xT2 r - hX h)) (us + (vT2 r - hV h)) Qf y.2 3150 [(0, some (.ref 0)), (1, some (.ref xa)), (2, some (.ref ma)), (3, some (.ref oa)), (4, some (.ref da)), (5, some (.int i))] []) : PW E p l e (rmv 840 MC MS) s m args below meth c 10 uc us Qf h 1483 [(0, some (.ref 0)), (1, some (.ref xa)), (2, some (.ref ma)), (3, some (.ref oa)), (4, some (.ref da)), (5, some (.int i))] [] := by
  refine p_aload_n X (dcg dcl_24 0 rfl) rfl rfl ?_
  refine p_aload_n X (dcg dcl_24 1 rfl) rfl rfl ?_
  refine p_iload X (dcg dcl_24 2 rfl) rfl ?_
  refine p_iconst (v := 1) X (dcg dcl_24 3 rfl) (by decide) ?_
  refine p_iadd X (dcg dcl_24 4 rfl) ?_
  refine p_sld X hlx (dcg dcl_24 5 rfl) (vp_of_inb hib.2.1) ?_
  refine p_aload_n X (dcg dcl_24 6 rfl) rfl rfl ?_
  refine p_iload X (dcg dcl_24 7 rfl) rfl ?_
  refine p_iconst (v := 2) X (dcg dcl_24 8 rfl) (by decide) ?_
  refine p_iadd X (dcg dcl_24 9 rfl) ?_
  refine p_sld X hlx (dcg dcl_24 10 rfl) (vp_of_inb hib.2.2.1) ?_
  refine p_aload_n X (dcg dcl_24 11 rfl) rfl rfl ?_
  refine p_callSH (As := [_, _, _, _]) X mlh_245 (dcg dcl_24 12 rfl) rfl rfl (wL_isIn hG hgn hf hk hko hcd) (by decide) (room4 (Nat.le_of_ble_eq_true rfl)) hc hs ?_
  intro v9 u9 hw9
  obtain ⟨code, y, rfl, hk2, hy, hk3, hth, hval, hK⟩ := hm v9 u9 hw9
  refine p_istore X (dcg dcl_24 13 rfl) (by decide) rfl ?_
  refine p_aload_n X (dcg dcl_24 14 rfl) rfl rfl ?_
  refine p_aload_n X (dcg dcl_24 15 rfl) rfl rfl ?_
  refine p_iload X (dcg dcl_24 16 rfl) rfl ?_
  refine p_iconst (v := 1) X (dcg dcl_24 17 rfl) (by decide) ?_
  refine p_iadd X (dcg dcl_24 18 rfl) ?_
  refine p_sld X hlx (dcg dcl_24 19 rfl) (vp_of_inb hib.2.1) ?_
  refine p_aload_n X (dcg dcl_24 20 rfl) rfl rfl ?_
  refine p_iload X (dcg dcl_24 21 rfl) rfl ?_
  refine p_iconst (v := 2) X (dcg dcl_24 22 rfl) (by decide) ?_
  refine p_iadd X (dcg dcl_24 23 rfl) ?_
  refine p_sld X hlx (dcg dcl_24 24 rfl) (vp_of_inb hib.2.2.1) ?_
  refine p_callV (As := [_, _]) X ml_L_247 (dcg dcl_24 25 rfl) rfl rfl hk2 (wX12_isIn hG hy) (by decide) (room4 (Nat.le_of_ble_eq_true rfl)) (Nat.le_trans (Nat.le_of_eq (Nat.add_zero _)) hc) (Nat.le_trans (Nat.le_of_eq (Nat.add_zero _)) hs) ?_
  rintro _ u9 ⟨rfl, e9⟩; have e9 := e9.symm; subst e9
  refine p_istore X (dcg dcl_24 26 rfl) (by decide) rfl ?_
  refine p_aload_n X (dcg dcl_24 27 rfl) rfl rfl ?_
  refine p_callV (As := []) X ml_L_161 (dcg dcl_24 28 rfl) rfl rfl hk3 (wX12_thrown hG hth) (by decide) (room4 (Nat.le_of_ble_eq_true rfl)) (Nat.le_trans (Nat.le_of_eq (Nat.add_zero _)) hc) (Nat.le_trans (Nat.le_of_eq (Nat.add_zero _)) hs) ?_
  rintro _ u9 ⟨rfl, e9⟩; have e9 := e9.symm; subst e9
  refine p_iload X (dcg dcl_24 29 rfl) rfl ?_
  refine p_icmp_eq (tgt := 1531) X (dcg dcl_24 30 rfl) (by decide) (fun q => ?_) (fun q => ?_)
  · refine p_iload X (dcg dcl_24 33 rfl) rfl ?_
    refine p_if_ne (tgt := 1555) X (dcg dcl_24 34 rfl) (by decide) (fun q => ?_) (fun q => ?_)
    · refine p_goto (tgt := 3150) X (dcg dcl_24 47 rfl) (by decide) ?_
      refine p_pick [0, 1, 2, 3, 4, 5] ?_
      exact hK
    · obtain ⟨hko2, hln2, hvl⟩ := hval (Decidable.not_not.mp q)
      refine p_aload_n X (dcg dcl_24 35 rfl) rfl rfl ?_
      refine p_iconst (v := 0) X (dcg dcl_24 36 rfl) (by decide) ?_
      refine p_lald X (dcg dcl_24 37 rfl) hko2 (vp_of_inb ⟨by decide, hln2⟩) ?_
      refine p_iload X (dcg dcl_24 38 rfl) rfl ?_
      refine p_if_eq (tgt := 1548) X (dcg dcl_24 39 rfl) (by decide) (fun qb => ?_) (fun qb => ?_)
      · refine p_lconst (v := 0) X (dcg dcl_24 42 rfl) (by decide) ?_
        refine p_lcmp X (dcg dcl_24 43 rfl) ?_
        refine p_if_eq (tgt := 1555) X (dcg dcl_24 44 rfl) (by decide) (fun q => ?_) (fun q => ?_)
        · refine p_goto (tgt := 3150) X (dcg dcl_24 47 rfl) (by decide) ?_
          refine p_pick [0, 1, 2, 3, 4, 5] ?_
          exact hK
        · exact absurd (by rw [hvl]; rw [if_pos qb]; exact lg_cmp_self _) q
      · refine p_lconst (v := 1) X (dcg dcl_24 40 rfl) (by decide) ?_
        refine p_goto (tgt := 1549) X (dcg dcl_24 41 rfl) (by decide) ?_
        refine p_lcmp X (dcg dcl_24 43 rfl) ?_
        refine p_if_eq (tgt := 1555) X (dcg dcl_24 44 rfl) (by decide) (fun q => ?_) (fun q => ?_)
        · refine p_goto (tgt := 3150) X (dcg dcl_24 47 rfl) (by decide) ?_
          refine p_pick [0, 1, 2, 3, 4, 5] ?_
          exact hK
        · exact absurd (by rw [hvl]; rw [if_neg qb]; exact lg_cmp_self _) q
  · exact absurd rfl q
theorem dcl_25 : decs code [(1558, .aload_n 1, 1), (1559, .aload_n 0, 1), (1560, .iload 5, 2), (1562, .iconst 1, 1), (1563, .iadd, 1), (1564, .iaload, 1), (1565, .aload_n 0, 1), (1566, .iload 5, 2), (1568, .iconst 2, 1), (1569, .iadd, 1), (1570, .iaload, 1), (1571, .aload_n 3, 1), (1572, .invokestatic 248, 3), (1575, .istore 6, 2), (1577, .aload_n 2, 1), (1578, .aload_n 0, 1), (1579, .iload 5, 2), (1581, .iconst 1, 1), (1582, .iadd, 1), (1583, .iaload, 1), (1584, .aload_n 0, 1), (1585, .iload 5, 2), (1587, .iconst 2, 1), (1588, .iadd, 1), (1589, .iaload, 1), (1590, .invokevirtual 250, 3), (1593, .istore 7, 2), (1595, .aload_n 2, 1), (1596, .invokevirtual 161, 3), (1599, .iload 6, 2), (1601, .if_icmp .eq 5, 3), (1604, .iconst 0, 1), (1605, .ireturn, 1), (1606, .iload 6, 2), (1608, .ifCond .ne 15, 3), (1611, .aload_n 3, 1), (1612, .iconst 0, 1), (1613, .laload, 1), (1614, .iload 7, 2), (1616, .i2l, 1), (1617, .lcmp, 1), (1618, .ifCond .eq 5, 3), (1621, .iconst 0, 1), (1622, .ireturn, 1), (1623, .goto 1527, 3)] = true := by decide +kernel
set_option maxRecDepth 100000 in
theorem lc_25 {E : PE} {p : Program} {l : Launch} {e : Env} {s : State} {m : MethodId} {args : Array Value} {below : List Frame} {meth : Method} {c : Code} {Qf : State → Prop} {MC MS uc us N : Nat} {xs : Nat → Int32} {xa ma oa da : Nat} {i : Int32} {h : PH} (X : Cx E p l e (rmv 840 MC MS) s m args below meth c RL code 10 ret) (hG : Gs E l) (hgn : Gn E) (hlx : LX E s N xs) (hib : IB i N) {r : ((Int32 × PH) ⊕ (Nat × PH))} (hf : fX11_nextWith xa (xs (Int32.toNatClampNeg (i + (1 : Int32)))) (xs (Int32.toNatClampNeg (i + (2 : Int32)))) h = some r) (hk : hK h xa = 11) (hko : ∀ z, r = .inl z → hK z.2 oa = 23 ∧ 0 < hN z.2 oa) (hcd : ∀ z, r = .inr z → z.1 = 1 ∨ z.1 = 2) (hc : uc + (xT2 r - hX h) ≤ MC) (hs : us + (vT2 r - hV h) ≤ MS) (hm : ∀ (v : Option Value) (u : PH), ((∃ z : Int32 × PH, r = .inl z ∧ v = some (.int 0) ∧ u = sL z.2 23 oa (Int32.toNatClampNeg 0) (Int32.toInt64 z.1)) ∨ (∃ (z : Nat × PH) (n : Nat), r = .inr z ∧ hX z.2 ≤ n ∧ u = hbump z.2 n ∧ ((z.1 = 1 ∧ v = some (.int 1)) ∨ (z.1 = 2 ∧ v = some (.int 2))))) → ∃ (code : Int32) (y : Int32 × PH), v = some (.int code) ∧ hK u ma = 12 ∧ fX12_nextWith ma (xs (Int32.toNatClampNeg (i + (1 : Int32)))) (xs (Int32.toNatClampNeg (i + (2 : Int32)))) u = some y ∧ hK y.2 ma = 12 ∧ fX12_thrown ma y.2 = some code ∧ (code = 0 → hK y.2 oa = 23 ∧ 0 < hN y.2 oa ∧ hL y.2 23 oa (Int32.toNatClampNeg 0) = Int32.toInt64 y.1) ∧ PW E p l e (rmv 840 MC MS) s m args below meth c 10 (uc + (xT2 r - hX h)) (us + (vT2 r - hV h)) Qf y.2 3150 [(0, some (.ref 0)), (1, some (.ref xa)), (2, some (.ref ma)), (3, some (.ref oa)), (4, some (.ref da)), (5, some (.int i))] []) : PW E p l e (rmv 840 MC MS) s m args below meth c 10 uc us Qf h 1558 [(0, some (.ref 0)), (1, some (.ref xa)), (2, some (.ref ma)), (3, some (.ref oa)), (4, some (.ref da)), (5, some (.int i))] [] := by
  refine p_aload_n X (dcg dcl_25 0 rfl) rfl rfl ?_
  refine p_aload_n X (dcg dcl_25 1 rfl) rfl rfl ?_
  refine p_iload X (dcg dcl_25 2 rfl) rfl ?_
  refine p_iconst (v := 1) X (dcg dcl_25 3 rfl) (by decide) ?_
  refine p_iadd X (dcg dcl_25 4 rfl) ?_
  refine p_sld X hlx (dcg dcl_25 5 rfl) (vp_of_inb hib.2.1) ?_
  refine p_aload_n X (dcg dcl_25 6 rfl) rfl rfl ?_
  refine p_iload X (dcg dcl_25 7 rfl) rfl ?_
  refine p_iconst (v := 2) X (dcg dcl_25 8 rfl) (by decide) ?_
  refine p_iadd X (dcg dcl_25 9 rfl) ?_
  refine p_sld X hlx (dcg dcl_25 10 rfl) (vp_of_inb hib.2.2.1) ?_
  refine p_aload_n X (dcg dcl_25 11 rfl) rfl rfl ?_
  refine p_callSH (As := [_, _, _, _]) X mlh_248 (dcg dcl_25 12 rfl) rfl rfl (wL_nextWith hG hgn hf hk hko hcd) (by decide) (room4 (Nat.le_of_ble_eq_true rfl)) hc hs ?_
  intro v9 u9 hw9
  obtain ⟨code, y, rfl, hk2, hy, hk3, hth, hval, hK⟩ := hm v9 u9 hw9
  refine p_istore X (dcg dcl_25 13 rfl) (by decide) rfl ?_
  refine p_aload_n X (dcg dcl_25 14 rfl) rfl rfl ?_
  refine p_aload_n X (dcg dcl_25 15 rfl) rfl rfl ?_
  refine p_iload X (dcg dcl_25 16 rfl) rfl ?_
  refine p_iconst (v := 1) X (dcg dcl_25 17 rfl) (by decide) ?_
  refine p_iadd X (dcg dcl_25 18 rfl) ?_
  refine p_sld X hlx (dcg dcl_25 19 rfl) (vp_of_inb hib.2.1) ?_
  refine p_aload_n X (dcg dcl_25 20 rfl) rfl rfl ?_
  refine p_iload X (dcg dcl_25 21 rfl) rfl ?_
  refine p_iconst (v := 2) X (dcg dcl_25 22 rfl) (by decide) ?_
  refine p_iadd X (dcg dcl_25 23 rfl) ?_
  refine p_sld X hlx (dcg dcl_25 24 rfl) (vp_of_inb hib.2.2.1) ?_
  refine p_callV (As := [_, _]) X ml_L_250 (dcg dcl_25 25 rfl) rfl rfl hk2 (wX12_nextWith hG hy) (by decide) (room4 (Nat.le_of_ble_eq_true rfl)) (Nat.le_trans (Nat.le_of_eq (Nat.add_zero _)) hc) (Nat.le_trans (Nat.le_of_eq (Nat.add_zero _)) hs) ?_
  rintro _ u9 ⟨rfl, e9⟩; have e9 := e9.symm; subst e9
  refine p_istore X (dcg dcl_25 26 rfl) (by decide) rfl ?_
  refine p_aload_n X (dcg dcl_25 27 rfl) rfl rfl ?_
  refine p_callV (As := []) X ml_L_161 (dcg dcl_25 28 rfl) rfl rfl hk3 (wX12_thrown hG hth) (by decide) (room4 (Nat.le_of_ble_eq_true rfl)) (Nat.le_trans (Nat.le_of_eq (Nat.add_zero _)) hc) (Nat.le_trans (Nat.le_of_eq (Nat.add_zero _)) hs) ?_
  rintro _ u9 ⟨rfl, e9⟩; have e9 := e9.symm; subst e9
  refine p_iload X (dcg dcl_25 29 rfl) rfl ?_
  refine p_icmp_eq (tgt := 1606) X (dcg dcl_25 30 rfl) (by decide) (fun q => ?_) (fun q => ?_)
  · refine p_iload X (dcg dcl_25 33 rfl) rfl ?_
    refine p_if_ne (tgt := 1623) X (dcg dcl_25 34 rfl) (by decide) (fun q => ?_) (fun q => ?_)
    · refine p_goto (tgt := 3150) X (dcg dcl_25 44 rfl) (by decide) ?_
      refine p_pick [0, 1, 2, 3, 4, 5] ?_
      exact hK
    · obtain ⟨hko2, hln2, hvl⟩ := hval (Decidable.not_not.mp q)
      refine p_aload_n X (dcg dcl_25 35 rfl) rfl rfl ?_
      refine p_iconst (v := 0) X (dcg dcl_25 36 rfl) (by decide) ?_
      refine p_lald X (dcg dcl_25 37 rfl) hko2 (vp_of_inb ⟨by decide, hln2⟩) ?_
      refine p_iload X (dcg dcl_25 38 rfl) rfl ?_
      refine p_i2l X (dcg dcl_25 39 rfl) ?_
      refine p_lcmp X (dcg dcl_25 40 rfl) ?_
      refine p_if_eq (tgt := 1623) X (dcg dcl_25 41 rfl) (by decide) (fun q => ?_) (fun q => ?_)
      · refine p_goto (tgt := 3150) X (dcg dcl_25 44 rfl) (by decide) ?_
        refine p_pick [0, 1, 2, 3, 4, 5] ?_
        exact hK
      · exact absurd (by rw [hvl]; exact lg_cmp_self _) q
  · exact absurd rfl q
theorem dcl_26 : decs code [(1626, .aload_n 1, 1), (1627, .aload_n 0, 1), (1628, .iload 5, 2), (1630, .iconst 1, 1), (1631, .iadd, 1), (1632, .iaload, 1), (1633, .aload_n 3, 1), (1634, .invokestatic 251, 3), (1637, .istore 6, 2), (1639, .aload_n 2, 1), (1640, .aload_n 0, 1), (1641, .iload 5, 2), (1643, .iconst 1, 1), (1644, .iadd, 1), (1645, .iaload, 1), (1646, .invokevirtual 253, 3), (1649, .istore 7, 2), (1651, .aload_n 2, 1), (1652, .invokevirtual 161, 3), (1655, .iload 6, 2), (1657, .if_icmp .eq 5, 3), (1660, .iconst 0, 1), (1661, .ireturn, 1), (1662, .iload 6, 2), (1664, .ifCond .ne 15, 3), (1667, .aload_n 3, 1), (1668, .iconst 0, 1), (1669, .laload, 1), (1670, .iload 7, 2), (1672, .i2l, 1), (1673, .lcmp, 1), (1674, .ifCond .eq 5, 3), (1677, .iconst 0, 1), (1678, .ireturn, 1), (1679, .goto 1471, 3)] = true := by decide +kernel
set_option maxRecDepth 100000 in
theorem lc_26 {E : PE} {p : Program} {l : Launch} {e : Env} {s : State} {m : MethodId} {args : Array Value} {below : List Frame} {meth : Method} {c : Code} {Qf : State → Prop} {MC MS uc us N : Nat} {xs : Nat → Int32} {xa ma oa da : Nat} {i : Int32} {h : PH} (X : Cx E p l e (rmv 840 MC MS) s m args below meth c RL code 10 ret) (hG : Gs E l) (hgn : Gn E) (hlx : LX E s N xs) (hib : IB i N) {r : ((Int32 × PH) ⊕ (Nat × PH))} (hf : fX11_places xa (xs (Int32.toNatClampNeg (i + (1 : Int32)))) h = some r) (hk : hK h xa = 11) (hko : ∀ z, r = .inl z → hK z.2 oa = 23 ∧ 0 < hN z.2 oa) (hcd : ∀ z, r = .inr z → z.1 = 1) (hc : uc + (xT2 r - hX h) ≤ MC) (hs : us + (vT2 r - hV h) ≤ MS) (hm : ∀ (v : Option Value) (u : PH), ((∃ z : Int32 × PH, r = .inl z ∧ v = some (.int 0) ∧ u = sL z.2 23 oa (Int32.toNatClampNeg 0) (Int32.toInt64 z.1)) ∨ (∃ (z : Nat × PH) (n : Nat), r = .inr z ∧ hX z.2 ≤ n ∧ u = hbump z.2 n ∧ ((z.1 = 1 ∧ v = some (.int 1))))) → ∃ (code : Int32) (y : Int32 × PH), v = some (.int code) ∧ hK u ma = 12 ∧ fX12_places ma (xs (Int32.toNatClampNeg (i + (1 : Int32)))) u = some y ∧ hK y.2 ma = 12 ∧ fX12_thrown ma y.2 = some code ∧ (code = 0 → hK y.2 oa = 23 ∧ 0 < hN y.2 oa ∧ hL y.2 23 oa (Int32.toNatClampNeg 0) = Int32.toInt64 y.1) ∧ PW E p l e (rmv 840 MC MS) s m args below meth c 10 (uc + (xT2 r - hX h)) (us + (vT2 r - hV h)) Qf y.2 3150 [(0, some (.ref 0)), (1, some (.ref xa)), (2, some (.ref ma)), (3, some (.ref oa)), (4, some (.ref da)), (5, some (.int i))] []) : PW E p l e (rmv 840 MC MS) s m args below meth c 10 uc us Qf h 1626 [(0, some (.ref 0)), (1, some (.ref xa)), (2, some (.ref ma)), (3, some (.ref oa)), (4, some (.ref da)), (5, some (.int i))] [] := by
  refine p_aload_n X (dcg dcl_26 0 rfl) rfl rfl ?_
  refine p_aload_n X (dcg dcl_26 1 rfl) rfl rfl ?_
  refine p_iload X (dcg dcl_26 2 rfl) rfl ?_
  refine p_iconst (v := 1) X (dcg dcl_26 3 rfl) (by decide) ?_
  refine p_iadd X (dcg dcl_26 4 rfl) ?_
  refine p_sld X hlx (dcg dcl_26 5 rfl) (vp_of_inb hib.2.1) ?_
  refine p_aload_n X (dcg dcl_26 6 rfl) rfl rfl ?_
  refine p_callSH (As := [_, _, _]) X mlh_251 (dcg dcl_26 7 rfl) rfl rfl (wL_places hG hgn hf hk hko hcd) (by decide) (room4 (Nat.le_of_ble_eq_true rfl)) hc hs ?_
  intro v9 u9 hw9
  obtain ⟨code, y, rfl, hk2, hy, hk3, hth, hval, hK⟩ := hm v9 u9 hw9
  refine p_istore X (dcg dcl_26 8 rfl) (by decide) rfl ?_
  refine p_aload_n X (dcg dcl_26 9 rfl) rfl rfl ?_
  refine p_aload_n X (dcg dcl_26 10 rfl) rfl rfl ?_
  refine p_iload X (dcg dcl_26 11 rfl) rfl ?_
  refine p_iconst (v := 1) X (dcg dcl_26 12 rfl) (by decide) ?_
  refine p_iadd X (dcg dcl_26 13 rfl) ?_
  refine p_sld X hlx (dcg dcl_26 14 rfl) (vp_of_inb hib.2.1) ?_
  refine p_callV (As := [_]) X ml_L_253 (dcg dcl_26 15 rfl) rfl rfl hk2 (wX12_places hG hy) (by decide) (room4 (Nat.le_of_ble_eq_true rfl)) (Nat.le_trans (Nat.le_of_eq (Nat.add_zero _)) hc) (Nat.le_trans (Nat.le_of_eq (Nat.add_zero _)) hs) ?_
  rintro _ u9 ⟨rfl, e9⟩; have e9 := e9.symm; subst e9
  refine p_istore X (dcg dcl_26 16 rfl) (by decide) rfl ?_
  refine p_aload_n X (dcg dcl_26 17 rfl) rfl rfl ?_
  refine p_callV (As := []) X ml_L_161 (dcg dcl_26 18 rfl) rfl rfl hk3 (wX12_thrown hG hth) (by decide) (room4 (Nat.le_of_ble_eq_true rfl)) (Nat.le_trans (Nat.le_of_eq (Nat.add_zero _)) hc) (Nat.le_trans (Nat.le_of_eq (Nat.add_zero _)) hs) ?_
  rintro _ u9 ⟨rfl, e9⟩; have e9 := e9.symm; subst e9
  refine p_iload X (dcg dcl_26 19 rfl) rfl ?_
  refine p_icmp_eq (tgt := 1662) X (dcg dcl_26 20 rfl) (by decide) (fun q => ?_) (fun q => ?_)
  · refine p_iload X (dcg dcl_26 23 rfl) rfl ?_
    refine p_if_ne (tgt := 1679) X (dcg dcl_26 24 rfl) (by decide) (fun q => ?_) (fun q => ?_)
    · refine p_goto (tgt := 3150) X (dcg dcl_26 34 rfl) (by decide) ?_
      refine p_pick [0, 1, 2, 3, 4, 5] ?_
      exact hK
    · obtain ⟨hko2, hln2, hvl⟩ := hval (Decidable.not_not.mp q)
      refine p_aload_n X (dcg dcl_26 25 rfl) rfl rfl ?_
      refine p_iconst (v := 0) X (dcg dcl_26 26 rfl) (by decide) ?_
      refine p_lald X (dcg dcl_26 27 rfl) hko2 (vp_of_inb ⟨by decide, hln2⟩) ?_
      refine p_iload X (dcg dcl_26 28 rfl) rfl ?_
      refine p_i2l X (dcg dcl_26 29 rfl) ?_
      refine p_lcmp X (dcg dcl_26 30 rfl) ?_
      refine p_if_eq (tgt := 1679) X (dcg dcl_26 31 rfl) (by decide) (fun q => ?_) (fun q => ?_)
      · refine p_goto (tgt := 3150) X (dcg dcl_26 34 rfl) (by decide) ?_
        refine p_pick [0, 1, 2, 3, 4, 5] ?_
        exact hK
      · exact absurd (by rw [hvl]; exact lg_cmp_self _) q
  · exact absurd rfl q
theorem dcl_27 : decs code [(1682, .aload_n 1, 1), (1683, .aload_n 0, 1), (1684, .iload 5, 2), (1686, .iconst 1, 1), (1687, .iadd, 1), (1688, .iaload, 1), (1689, .aload_n 0, 1), (1690, .iload 5, 2), (1692, .iconst 2, 1), (1693, .iadd, 1), (1694, .iaload, 1), (1695, .aload_n 0, 1), (1696, .iload 5, 2), (1698, .iconst 3, 1), (1699, .iadd, 1), (1700, .iaload, 1), (1701, .aload_n 3, 1), (1702, .invokestatic 254, 3), (1705, .istore 6, 2), (1707, .aload_n 2, 1), (1708, .aload_n 0, 1), (1709, .iload 5, 2), (1711, .iconst 1, 1), (1712, .iadd, 1), (1713, .iaload, 1), (1714, .aload_n 0, 1), (1715, .iload 5, 2), (1717, .iconst 2, 1), (1718, .iadd, 1), (1719, .iaload, 1), (1720, .aload_n 0, 1), (1721, .iload 5, 2), (1723, .iconst 3, 1), (1724, .iadd, 1), (1725, .iaload, 1), (1726, .invokevirtual 256, 3), (1729, .istore 7, 2), (1731, .aload_n 2, 1), (1732, .invokevirtual 161, 3), (1735, .iload 6, 2), (1737, .if_icmp .eq 5, 3), (1740, .iconst 0, 1), (1741, .ireturn, 1), (1742, .iload 6, 2), (1744, .ifCond .ne 15, 3), (1747, .aload_n 3, 1), (1748, .iconst 0, 1), (1749, .laload, 1), (1750, .iload 7, 2), (1752, .i2l, 1), (1753, .lcmp, 1), (1754, .ifCond .eq 5, 3), (1757, .iconst 0, 1), (1758, .ireturn, 1), (1759, .goto 1391, 3)] = true := by decide +kernel
set_option maxRecDepth 100000 in
theorem lc_27 {E : PE} {p : Program} {l : Launch} {e : Env} {s : State} {m : MethodId} {args : Array Value} {below : List Frame} {meth : Method} {c : Code} {Qf : State → Prop} {MC MS uc us N : Nat} {xs : Nat → Int32} {xa ma oa da : Nat} {i : Int32} {h : PH} (X : Cx E p l e (rmv 840 MC MS) s m args below meth c RL code 10 ret) (hG : Gs E l) (hgn : Gn E) (hlx : LX E s N xs) (hib : IB i N) {r : ((Int32 × PH) ⊕ (Nat × PH))} (hf : fX11_placeIn xa (xs (Int32.toNatClampNeg (i + (1 : Int32)))) (xs (Int32.toNatClampNeg (i + (2 : Int32)))) (xs (Int32.toNatClampNeg (i + (3 : Int32)))) h = some r) (hk : hK h xa = 11) (hko : ∀ z, r = .inl z → hK z.2 oa = 23 ∧ 0 < hN z.2 oa) (hcd : ∀ z, r = .inr z → z.1 = 1 ∨ z.1 = 2) (hc : uc + (xT2 r - hX h) ≤ MC) (hs : us + (vT2 r - hV h) ≤ MS) (hm : ∀ (v : Option Value) (u : PH), ((∃ z : Int32 × PH, r = .inl z ∧ v = some (.int 0) ∧ u = sL z.2 23 oa (Int32.toNatClampNeg 0) (Int32.toInt64 z.1)) ∨ (∃ (z : Nat × PH) (n : Nat), r = .inr z ∧ hX z.2 ≤ n ∧ u = hbump z.2 n ∧ ((z.1 = 1 ∧ v = some (.int 1)) ∨ (z.1 = 2 ∧ v = some (.int 2))))) → ∃ (code : Int32) (y : Int32 × PH), v = some (.int code) ∧ hK u ma = 12 ∧ fX12_placeIn ma (xs (Int32.toNatClampNeg (i + (1 : Int32)))) (xs (Int32.toNatClampNeg (i + (2 : Int32)))) (xs (Int32.toNatClampNeg (i + (3 : Int32)))) u = some y ∧ hK y.2 ma = 12 ∧ fX12_thrown ma y.2 = some code ∧ (code = 0 → hK y.2 oa = 23 ∧ 0 < hN y.2 oa ∧ hL y.2 23 oa (Int32.toNatClampNeg 0) = Int32.toInt64 y.1) ∧ PW E p l e (rmv 840 MC MS) s m args below meth c 10 (uc + (xT2 r - hX h)) (us + (vT2 r - hV h)) Qf y.2 3150 [(0, some (.ref 0)), (1, some (.ref xa)), (2, some (.ref ma)), (3, some (.ref oa)), (4, some (.ref da)), (5, some (.int i))] []) : PW E p l e (rmv 840 MC MS) s m args below meth c 10 uc us Qf h 1682 [(0, some (.ref 0)), (1, some (.ref xa)), (2, some (.ref ma)), (3, some (.ref oa)), (4, some (.ref da)), (5, some (.int i))] [] := by
  refine p_aload_n X (dcg dcl_27 0 rfl) rfl rfl ?_
  refine p_aload_n X (dcg dcl_27 1 rfl) rfl rfl ?_
  refine p_iload X (dcg dcl_27 2 rfl) rfl ?_
  refine p_iconst (v := 1) X (dcg dcl_27 3 rfl) (by decide) ?_
  refine p_iadd X (dcg dcl_27 4 rfl) ?_
  refine p_sld X hlx (dcg dcl_27 5 rfl) (vp_of_inb hib.2.1) ?_
  refine p_aload_n X (dcg dcl_27 6 rfl) rfl rfl ?_
  refine p_iload X (dcg dcl_27 7 rfl) rfl ?_
  refine p_iconst (v := 2) X (dcg dcl_27 8 rfl) (by decide) ?_
  refine p_iadd X (dcg dcl_27 9 rfl) ?_
  refine p_sld X hlx (dcg dcl_27 10 rfl) (vp_of_inb hib.2.2.1) ?_
  refine p_aload_n X (dcg dcl_27 11 rfl) rfl rfl ?_
  refine p_iload X (dcg dcl_27 12 rfl) rfl ?_
  refine p_iconst (v := 3) X (dcg dcl_27 13 rfl) (by decide) ?_
  refine p_iadd X (dcg dcl_27 14 rfl) ?_
  refine p_sld X hlx (dcg dcl_27 15 rfl) (vp_of_inb hib.2.2.2.1) ?_
  refine p_aload_n X (dcg dcl_27 16 rfl) rfl rfl ?_
  refine p_callSH (As := [_, _, _, _, _]) X mlh_254 (dcg dcl_27 17 rfl) rfl rfl (wL_placeIn hG hgn hf hk hko hcd) (by decide) (room4 (Nat.le_of_ble_eq_true rfl)) hc hs ?_
  intro v9 u9 hw9
  obtain ⟨code, y, rfl, hk2, hy, hk3, hth, hval, hK⟩ := hm v9 u9 hw9
  refine p_istore X (dcg dcl_27 18 rfl) (by decide) rfl ?_
  refine p_aload_n X (dcg dcl_27 19 rfl) rfl rfl ?_
  refine p_aload_n X (dcg dcl_27 20 rfl) rfl rfl ?_
  refine p_iload X (dcg dcl_27 21 rfl) rfl ?_
  refine p_iconst (v := 1) X (dcg dcl_27 22 rfl) (by decide) ?_
  refine p_iadd X (dcg dcl_27 23 rfl) ?_
  refine p_sld X hlx (dcg dcl_27 24 rfl) (vp_of_inb hib.2.1) ?_
  refine p_aload_n X (dcg dcl_27 25 rfl) rfl rfl ?_
  refine p_iload X (dcg dcl_27 26 rfl) rfl ?_
  refine p_iconst (v := 2) X (dcg dcl_27 27 rfl) (by decide) ?_
  refine p_iadd X (dcg dcl_27 28 rfl) ?_
  refine p_sld X hlx (dcg dcl_27 29 rfl) (vp_of_inb hib.2.2.1) ?_
  refine p_aload_n X (dcg dcl_27 30 rfl) rfl rfl ?_
  refine p_iload X (dcg dcl_27 31 rfl) rfl ?_
  refine p_iconst (v := 3) X (dcg dcl_27 32 rfl) (by decide) ?_
  refine p_iadd X (dcg dcl_27 33 rfl) ?_
  refine p_sld X hlx (dcg dcl_27 34 rfl) (vp_of_inb hib.2.2.2.1) ?_
  refine p_callV (As := [_, _, _]) X ml_L_256 (dcg dcl_27 35 rfl) rfl rfl hk2 (wX12_placeIn hG hy) (by decide) (room4 (Nat.le_of_ble_eq_true rfl)) (Nat.le_trans (Nat.le_of_eq (Nat.add_zero _)) hc) (Nat.le_trans (Nat.le_of_eq (Nat.add_zero _)) hs) ?_
  rintro _ u9 ⟨rfl, e9⟩; have e9 := e9.symm; subst e9
  refine p_istore X (dcg dcl_27 36 rfl) (by decide) rfl ?_
  refine p_aload_n X (dcg dcl_27 37 rfl) rfl rfl ?_
  refine p_callV (As := []) X ml_L_161 (dcg dcl_27 38 rfl) rfl rfl hk3 (wX12_thrown hG hth) (by decide) (room4 (Nat.le_of_ble_eq_true rfl)) (Nat.le_trans (Nat.le_of_eq (Nat.add_zero _)) hc) (Nat.le_trans (Nat.le_of_eq (Nat.add_zero _)) hs) ?_
  rintro _ u9 ⟨rfl, e9⟩; have e9 := e9.symm; subst e9
  refine p_iload X (dcg dcl_27 39 rfl) rfl ?_
  refine p_icmp_eq (tgt := 1742) X (dcg dcl_27 40 rfl) (by decide) (fun q => ?_) (fun q => ?_)
  · refine p_iload X (dcg dcl_27 43 rfl) rfl ?_
    refine p_if_ne (tgt := 1759) X (dcg dcl_27 44 rfl) (by decide) (fun q => ?_) (fun q => ?_)
    · refine p_goto (tgt := 3150) X (dcg dcl_27 54 rfl) (by decide) ?_
      refine p_pick [0, 1, 2, 3, 4, 5] ?_
      exact hK
    · obtain ⟨hko2, hln2, hvl⟩ := hval (Decidable.not_not.mp q)
      refine p_aload_n X (dcg dcl_27 45 rfl) rfl rfl ?_
      refine p_iconst (v := 0) X (dcg dcl_27 46 rfl) (by decide) ?_
      refine p_lald X (dcg dcl_27 47 rfl) hko2 (vp_of_inb ⟨by decide, hln2⟩) ?_
      refine p_iload X (dcg dcl_27 48 rfl) rfl ?_
      refine p_i2l X (dcg dcl_27 49 rfl) ?_
      refine p_lcmp X (dcg dcl_27 50 rfl) ?_
      refine p_if_eq (tgt := 1759) X (dcg dcl_27 51 rfl) (by decide) (fun q => ?_) (fun q => ?_)
      · refine p_goto (tgt := 3150) X (dcg dcl_27 54 rfl) (by decide) ?_
        refine p_pick [0, 1, 2, 3, 4, 5] ?_
        exact hK
      · exact absurd (by rw [hvl]; exact lg_cmp_self _) q
  · exact absurd rfl q
