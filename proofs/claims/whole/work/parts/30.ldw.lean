/-! the law: its calls, 28 on (by program: wip/whole/mklaw.py) -/
theorem dcl_28 : decs code [(1762, .aload_n 1, 1), (1763, .aload_n 0, 1), (1764, .iload 5, 2), (1766, .iconst 1, 1), (1767, .iadd, 1), (1768, .iaload, 1), (1769, .aload_n 3, 1), (1770, .invokestatic 257, 3), (1773, .istore 6, 2), (1775, .aload_n 2, 1), (1776, .aload_n 0, 1), (1777, .iload 5, 2), (1779, .iconst 1, 1), (1780, .iadd, 1), (1781, .iaload, 1), (1782, .invokevirtual 259, 3), (1785, .istore 7, 2), (1787, .aload_n 2, 1), (1788, .invokevirtual 161, 3), (1791, .iload 6, 2), (1793, .if_icmp .eq 5, 3), (1796, .iconst 0, 1), (1797, .ireturn, 1), (1798, .iload 6, 2), (1800, .ifCond .ne 15, 3), (1803, .aload_n 3, 1), (1804, .iconst 0, 1), (1805, .laload, 1), (1806, .iload 7, 2), (1808, .i2l, 1), (1809, .lcmp, 1), (1810, .ifCond .eq 5, 3), (1813, .iconst 0, 1), (1814, .ireturn, 1), (1815, .goto 1335, 3)] = true := by decide +kernel
set_option maxRecDepth 100000 in
theorem lc_28 {E : PE} {p : Program} {l : Launch} {e : Env} {s : State} {m : MethodId} {args : Array Value} {below : List Frame} {meth : Method} {c : Code} {Qf : State → Prop} {MC MS uc us N : Nat} {xs : Nat → Int32} {xa ma oa da : Nat} {i : Int32} {h : PH} (X : Cx E p l e (rmv 840 MC MS) s m args below meth c RL code 10 ret) (hG : Gs E l) (hgn : Gn E) (hlx : LX E s N xs) (hib : IB i N) {r : ((Int32 × PH) ⊕ (Nat × PH))} (hf : fX11_frequent xa (xs (Int32.toNatClampNeg (i + (1 : Int32)))) h = some r) (hk : hK h xa = 11) (hko : ∀ z, r = .inl z → hK z.2 oa = 23 ∧ 0 < hN z.2 oa) (hcd : ∀ z, r = .inr z → z.1 = 2) (hc : uc + (xT2 r - hX h) ≤ MC) (hs : us + (vT2 r - hV h) ≤ MS) (hm : ∀ (v : Option Value) (u : PH), ((∃ z : Int32 × PH, r = .inl z ∧ v = some (.int 0) ∧ u = sL z.2 23 oa (Int32.toNatClampNeg 0) (Int32.toInt64 z.1)) ∨ (∃ (z : Nat × PH) (n : Nat), r = .inr z ∧ hX z.2 ≤ n ∧ u = hbump z.2 n ∧ ((z.1 = 2 ∧ v = some (.int 1))))) → ∃ (code : Int32) (y : Int32 × PH), v = some (.int code) ∧ hK u ma = 12 ∧ fX12_frequent ma (xs (Int32.toNatClampNeg (i + (1 : Int32)))) u = some y ∧ hK y.2 ma = 12 ∧ fX12_thrown ma y.2 = some code ∧ (code = 0 → hK y.2 oa = 23 ∧ 0 < hN y.2 oa ∧ hL y.2 23 oa (Int32.toNatClampNeg 0) = Int32.toInt64 y.1) ∧ PW E p l e (rmv 840 MC MS) s m args below meth c 10 (uc + (xT2 r - hX h)) (us + (vT2 r - hV h)) Qf y.2 3150 [(0, some (.ref 0)), (1, some (.ref xa)), (2, some (.ref ma)), (3, some (.ref oa)), (4, some (.ref da)), (5, some (.int i))] []) : PW E p l e (rmv 840 MC MS) s m args below meth c 10 uc us Qf h 1762 [(0, some (.ref 0)), (1, some (.ref xa)), (2, some (.ref ma)), (3, some (.ref oa)), (4, some (.ref da)), (5, some (.int i))] [] := by
  refine p_aload_n X (dcg dcl_28 0 rfl) rfl rfl ?_
  refine p_aload_n X (dcg dcl_28 1 rfl) rfl rfl ?_
  refine p_iload X (dcg dcl_28 2 rfl) rfl ?_
  refine p_iconst (v := 1) X (dcg dcl_28 3 rfl) (by decide) ?_
  refine p_iadd X (dcg dcl_28 4 rfl) ?_
  refine p_sld X hlx (dcg dcl_28 5 rfl) (vp_of_inb hib.2.1) ?_
  refine p_aload_n X (dcg dcl_28 6 rfl) rfl rfl ?_
  refine p_callSH (As := [_, _, _]) X mlh_257 (dcg dcl_28 7 rfl) rfl rfl (wL_frequent hG hgn hf hk hko hcd) (by decide) (room4 (Nat.le_of_ble_eq_true rfl)) hc hs ?_
  intro v9 u9 hw9
  obtain ⟨code, y, rfl, hk2, hy, hk3, hth, hval, hK⟩ := hm v9 u9 hw9
  refine p_istore X (dcg dcl_28 8 rfl) (by decide) rfl ?_
  refine p_aload_n X (dcg dcl_28 9 rfl) rfl rfl ?_
  refine p_aload_n X (dcg dcl_28 10 rfl) rfl rfl ?_
  refine p_iload X (dcg dcl_28 11 rfl) rfl ?_
  refine p_iconst (v := 1) X (dcg dcl_28 12 rfl) (by decide) ?_
  refine p_iadd X (dcg dcl_28 13 rfl) ?_
  refine p_sld X hlx (dcg dcl_28 14 rfl) (vp_of_inb hib.2.1) ?_
  refine p_callV (As := [_]) X ml_L_259 (dcg dcl_28 15 rfl) rfl rfl hk2 (wX12_frequent hG hy) (by decide) (room4 (Nat.le_of_ble_eq_true rfl)) (Nat.le_trans (Nat.le_of_eq (Nat.add_zero _)) hc) (Nat.le_trans (Nat.le_of_eq (Nat.add_zero _)) hs) ?_
  rintro _ u9 ⟨rfl, e9⟩; have e9 := e9.symm; subst e9
  refine p_istore X (dcg dcl_28 16 rfl) (by decide) rfl ?_
  refine p_aload_n X (dcg dcl_28 17 rfl) rfl rfl ?_
  refine p_callV (As := []) X ml_L_161 (dcg dcl_28 18 rfl) rfl rfl hk3 (wX12_thrown hG hth) (by decide) (room4 (Nat.le_of_ble_eq_true rfl)) (Nat.le_trans (Nat.le_of_eq (Nat.add_zero _)) hc) (Nat.le_trans (Nat.le_of_eq (Nat.add_zero _)) hs) ?_
  rintro _ u9 ⟨rfl, e9⟩; have e9 := e9.symm; subst e9
  refine p_iload X (dcg dcl_28 19 rfl) rfl ?_
  refine p_icmp_eq (tgt := 1798) X (dcg dcl_28 20 rfl) (by decide) (fun q => ?_) (fun q => ?_)
  · refine p_iload X (dcg dcl_28 23 rfl) rfl ?_
    refine p_if_ne (tgt := 1815) X (dcg dcl_28 24 rfl) (by decide) (fun q => ?_) (fun q => ?_)
    · refine p_goto (tgt := 3150) X (dcg dcl_28 34 rfl) (by decide) ?_
      refine p_pick [0, 1, 2, 3, 4, 5] ?_
      exact hK
    · obtain ⟨hko2, hln2, hvl⟩ := hval (Decidable.not_not.mp q)
      refine p_aload_n X (dcg dcl_28 25 rfl) rfl rfl ?_
      refine p_iconst (v := 0) X (dcg dcl_28 26 rfl) (by decide) ?_
      refine p_lald X (dcg dcl_28 27 rfl) hko2 (vp_of_inb ⟨by decide, hln2⟩) ?_
      refine p_iload X (dcg dcl_28 28 rfl) rfl ?_
      refine p_i2l X (dcg dcl_28 29 rfl) ?_
      refine p_lcmp X (dcg dcl_28 30 rfl) ?_
      refine p_if_eq (tgt := 1815) X (dcg dcl_28 31 rfl) (by decide) (fun q => ?_) (fun q => ?_)
      · refine p_goto (tgt := 3150) X (dcg dcl_28 34 rfl) (by decide) ?_
        refine p_pick [0, 1, 2, 3, 4, 5] ?_
        exact hK
      · exact absurd (by rw [hvl]; exact lg_cmp_self _) q
  · exact absurd rfl q
theorem dcl_29 : decs code [(1818, .aload_n 1, 1), (1819, .aload_n 0, 1), (1820, .iload 5, 2), (1822, .iconst 1, 1), (1823, .iadd, 1), (1824, .iaload, 1), (1825, .aload_n 0, 1), (1826, .iload 5, 2), (1828, .iconst 2, 1), (1829, .iadd, 1), (1830, .iaload, 1), (1831, .aload_n 3, 1), (1832, .invokestatic 260, 3), (1835, .istore 6, 2), (1837, .aload_n 2, 1), (1838, .aload_n 0, 1), (1839, .iload 5, 2), (1841, .iconst 1, 1), (1842, .iadd, 1), (1843, .iaload, 1), (1844, .aload_n 0, 1), (1845, .iload 5, 2), (1847, .iconst 2, 1), (1848, .iadd, 1), (1849, .iaload, 1), (1850, .invokevirtual 262, 3), (1853, .istore 7, 2), (1855, .aload_n 2, 1), (1856, .invokevirtual 161, 3), (1859, .iload 6, 2), (1861, .if_icmp .eq 5, 3), (1864, .iconst 0, 1), (1865, .ireturn, 1), (1866, .iload 6, 2), (1868, .ifCond .ne 15, 3), (1871, .aload_n 3, 1), (1872, .iconst 0, 1), (1873, .laload, 1), (1874, .iload 7, 2), (1876, .i2l, 1), (1877, .lcmp, 1), (1878, .ifCond .eq 5, 3), (1881, .iconst 0, 1), (1882, .ireturn, 1), (1883, .goto 1267, 3)] = true := by decide +kernel
set_option maxRecDepth 100000 in
theorem lc_29 {E : PE} {p : Program} {l : Launch} {e : Env} {s : State} {m : MethodId} {args : Array Value} {below : List Frame} {meth : Method} {c : Code} {Qf : State → Prop} {MC MS uc us N : Nat} {xs : Nat → Int32} {xa ma oa da : Nat} {i : Int32} {h : PH} (X : Cx E p l e (rmv 840 MC MS) s m args below meth c RL code 10 ret) (hG : Gs E l) (hgn : Gn E) (hlx : LX E s N xs) (hib : IB i N) {r : ((Int32 × PH) ⊕ (Nat × PH))} (hf : fX11_together xa (xs (Int32.toNatClampNeg (i + (1 : Int32)))) (xs (Int32.toNatClampNeg (i + (2 : Int32)))) h = some r) (hk : hK h xa = 11) (hko : ∀ z, r = .inl z → hK z.2 oa = 23 ∧ 0 < hN z.2 oa) (hcd : ∀ z, r = .inr z → z.1 = 1) (hc : uc + (xT2 r - hX h) ≤ MC) (hs : us + (vT2 r - hV h) ≤ MS) (hm : ∀ (v : Option Value) (u : PH), ((∃ z : Int32 × PH, r = .inl z ∧ v = some (.int 0) ∧ u = sL z.2 23 oa (Int32.toNatClampNeg 0) (Int32.toInt64 z.1)) ∨ (∃ (z : Nat × PH) (n : Nat), r = .inr z ∧ hX z.2 ≤ n ∧ u = hbump z.2 n ∧ ((z.1 = 1 ∧ v = some (.int 1))))) → ∃ (code : Int32) (y : Int32 × PH), v = some (.int code) ∧ hK u ma = 12 ∧ fX12_together ma (xs (Int32.toNatClampNeg (i + (1 : Int32)))) (xs (Int32.toNatClampNeg (i + (2 : Int32)))) u = some y ∧ hK y.2 ma = 12 ∧ fX12_thrown ma y.2 = some code ∧ (code = 0 → hK y.2 oa = 23 ∧ 0 < hN y.2 oa ∧ hL y.2 23 oa (Int32.toNatClampNeg 0) = Int32.toInt64 y.1) ∧ PW E p l e (rmv 840 MC MS) s m args below meth c 10 (uc + (xT2 r - hX h)) (us + (vT2 r - hV h)) Qf y.2 3150 [(0, some (.ref 0)), (1, some (.ref xa)), (2, some (.ref ma)), (3, some (.ref oa)), (4, some (.ref da)), (5, some (.int i))] []) : PW E p l e (rmv 840 MC MS) s m args below meth c 10 uc us Qf h 1818 [(0, some (.ref 0)), (1, some (.ref xa)), (2, some (.ref ma)), (3, some (.ref oa)), (4, some (.ref da)), (5, some (.int i))] [] := by
  refine p_aload_n X (dcg dcl_29 0 rfl) rfl rfl ?_
  refine p_aload_n X (dcg dcl_29 1 rfl) rfl rfl ?_
  refine p_iload X (dcg dcl_29 2 rfl) rfl ?_
  refine p_iconst (v := 1) X (dcg dcl_29 3 rfl) (by decide) ?_
  refine p_iadd X (dcg dcl_29 4 rfl) ?_
  refine p_sld X hlx (dcg dcl_29 5 rfl) (vp_of_inb hib.2.1) ?_
  refine p_aload_n X (dcg dcl_29 6 rfl) rfl rfl ?_
  refine p_iload X (dcg dcl_29 7 rfl) rfl ?_
  refine p_iconst (v := 2) X (dcg dcl_29 8 rfl) (by decide) ?_
  refine p_iadd X (dcg dcl_29 9 rfl) ?_
  refine p_sld X hlx (dcg dcl_29 10 rfl) (vp_of_inb hib.2.2.1) ?_
  refine p_aload_n X (dcg dcl_29 11 rfl) rfl rfl ?_
  refine p_callSH (As := [_, _, _, _]) X mlh_260 (dcg dcl_29 12 rfl) rfl rfl (wL_together hG hgn hf hk hko hcd) (by decide) (room4 (Nat.le_of_ble_eq_true rfl)) hc hs ?_
  intro v9 u9 hw9
  obtain ⟨code, y, rfl, hk2, hy, hk3, hth, hval, hK⟩ := hm v9 u9 hw9
  refine p_istore X (dcg dcl_29 13 rfl) (by decide) rfl ?_
  refine p_aload_n X (dcg dcl_29 14 rfl) rfl rfl ?_
  refine p_aload_n X (dcg dcl_29 15 rfl) rfl rfl ?_
  refine p_iload X (dcg dcl_29 16 rfl) rfl ?_
  refine p_iconst (v := 1) X (dcg dcl_29 17 rfl) (by decide) ?_
  refine p_iadd X (dcg dcl_29 18 rfl) ?_
  refine p_sld X hlx (dcg dcl_29 19 rfl) (vp_of_inb hib.2.1) ?_
  refine p_aload_n X (dcg dcl_29 20 rfl) rfl rfl ?_
  refine p_iload X (dcg dcl_29 21 rfl) rfl ?_
  refine p_iconst (v := 2) X (dcg dcl_29 22 rfl) (by decide) ?_
  refine p_iadd X (dcg dcl_29 23 rfl) ?_
  refine p_sld X hlx (dcg dcl_29 24 rfl) (vp_of_inb hib.2.2.1) ?_
  refine p_callV (As := [_, _]) X ml_L_262 (dcg dcl_29 25 rfl) rfl rfl hk2 (wX12_together hG hy) (by decide) (room4 (Nat.le_of_ble_eq_true rfl)) (Nat.le_trans (Nat.le_of_eq (Nat.add_zero _)) hc) (Nat.le_trans (Nat.le_of_eq (Nat.add_zero _)) hs) ?_
  rintro _ u9 ⟨rfl, e9⟩; have e9 := e9.symm; subst e9
  refine p_istore X (dcg dcl_29 26 rfl) (by decide) rfl ?_
  refine p_aload_n X (dcg dcl_29 27 rfl) rfl rfl ?_
  refine p_callV (As := []) X ml_L_161 (dcg dcl_29 28 rfl) rfl rfl hk3 (wX12_thrown hG hth) (by decide) (room4 (Nat.le_of_ble_eq_true rfl)) (Nat.le_trans (Nat.le_of_eq (Nat.add_zero _)) hc) (Nat.le_trans (Nat.le_of_eq (Nat.add_zero _)) hs) ?_
  rintro _ u9 ⟨rfl, e9⟩; have e9 := e9.symm; subst e9
  refine p_iload X (dcg dcl_29 29 rfl) rfl ?_
  refine p_icmp_eq (tgt := 1866) X (dcg dcl_29 30 rfl) (by decide) (fun q => ?_) (fun q => ?_)
  · refine p_iload X (dcg dcl_29 33 rfl) rfl ?_
    refine p_if_ne (tgt := 1883) X (dcg dcl_29 34 rfl) (by decide) (fun q => ?_) (fun q => ?_)
    · refine p_goto (tgt := 3150) X (dcg dcl_29 44 rfl) (by decide) ?_
      refine p_pick [0, 1, 2, 3, 4, 5] ?_
      exact hK
    · obtain ⟨hko2, hln2, hvl⟩ := hval (Decidable.not_not.mp q)
      refine p_aload_n X (dcg dcl_29 35 rfl) rfl rfl ?_
      refine p_iconst (v := 0) X (dcg dcl_29 36 rfl) (by decide) ?_
      refine p_lald X (dcg dcl_29 37 rfl) hko2 (vp_of_inb ⟨by decide, hln2⟩) ?_
      refine p_iload X (dcg dcl_29 38 rfl) rfl ?_
      refine p_i2l X (dcg dcl_29 39 rfl) ?_
      refine p_lcmp X (dcg dcl_29 40 rfl) ?_
      refine p_if_eq (tgt := 1883) X (dcg dcl_29 41 rfl) (by decide) (fun q => ?_) (fun q => ?_)
      · refine p_goto (tgt := 3150) X (dcg dcl_29 44 rfl) (by decide) ?_
        refine p_pick [0, 1, 2, 3, 4, 5] ?_
        exact hK
      · exact absurd (by rw [hvl]; exact lg_cmp_self _) q
  · exact absurd rfl q
theorem dcl_30 : decs code [(1886, .aload_n 1, 1), (1887, .aload_n 0, 1), (1888, .iload 5, 2), (1890, .iconst 1, 1), (1891, .iadd, 1), (1892, .iaload, 1), (1893, .aload_n 3, 1), (1894, .invokestatic 263, 3), (1897, .istore 6, 2), (1899, .aload_n 2, 1), (1900, .aload_n 0, 1), (1901, .iload 5, 2), (1903, .iconst 1, 1), (1904, .iadd, 1), (1905, .iaload, 1), (1906, .invokevirtual 265, 3), (1909, .istore 7, 2), (1911, .aload_n 2, 1), (1912, .invokevirtual 161, 3), (1915, .iload 6, 2), (1917, .if_icmp .eq 5, 3), (1920, .iconst 0, 1), (1921, .ireturn, 1), (1922, .iload 6, 2), (1924, .ifCond .ne 15, 3), (1927, .aload_n 3, 1), (1928, .iconst 0, 1), (1929, .laload, 1), (1930, .iload 7, 2), (1932, .i2l, 1), (1933, .lcmp, 1), (1934, .ifCond .eq 5, 3), (1937, .iconst 0, 1), (1938, .ireturn, 1), (1939, .goto 1211, 3)] = true := by decide +kernel
set_option maxRecDepth 100000 in
theorem lc_30 {E : PE} {p : Program} {l : Launch} {e : Env} {s : State} {m : MethodId} {args : Array Value} {below : List Frame} {meth : Method} {c : Code} {Qf : State → Prop} {MC MS uc us N : Nat} {xs : Nat → Int32} {xa ma oa da : Nat} {i : Int32} {h : PH} (X : Cx E p l e (rmv 840 MC MS) s m args below meth c RL code 10 ret) (hG : Gs E l) (hgn : Gn E) (hlx : LX E s N xs) (hib : IB i N) {r : ((Int32 × PH) ⊕ (Nat × PH))} (hf : fX11_companion xa (xs (Int32.toNatClampNeg (i + (1 : Int32)))) h = some r) (hk : hK h xa = 11) (hko : ∀ z, r = .inl z → hK z.2 oa = 23 ∧ 0 < hN z.2 oa) (hcd : ∀ z, r = .inr z → z.1 = 1) (hc : uc + (xT2 r - hX h) ≤ MC) (hs : us + (vT2 r - hV h) ≤ MS) (hm : ∀ (v : Option Value) (u : PH), ((∃ z : Int32 × PH, r = .inl z ∧ v = some (.int 0) ∧ u = sL z.2 23 oa (Int32.toNatClampNeg 0) (Int32.toInt64 z.1)) ∨ (∃ (z : Nat × PH) (n : Nat), r = .inr z ∧ hX z.2 ≤ n ∧ u = hbump z.2 n ∧ ((z.1 = 1 ∧ v = some (.int 1))))) → ∃ (code : Int32) (y : Int32 × PH), v = some (.int code) ∧ hK u ma = 12 ∧ fX12_companion ma (xs (Int32.toNatClampNeg (i + (1 : Int32)))) u = some y ∧ hK y.2 ma = 12 ∧ fX12_thrown ma y.2 = some code ∧ (code = 0 → hK y.2 oa = 23 ∧ 0 < hN y.2 oa ∧ hL y.2 23 oa (Int32.toNatClampNeg 0) = Int32.toInt64 y.1) ∧ PW E p l e (rmv 840 MC MS) s m args below meth c 10 (uc + (xT2 r - hX h)) (us + (vT2 r - hV h)) Qf y.2 3150 [(0, some (.ref 0)), (1, some (.ref xa)), (2, some (.ref ma)), (3, some (.ref oa)), (4, some (.ref da)), (5, some (.int i))] []) : PW E p l e (rmv 840 MC MS) s m args below meth c 10 uc us Qf h 1886 [(0, some (.ref 0)), (1, some (.ref xa)), (2, some (.ref ma)), (3, some (.ref oa)), (4, some (.ref da)), (5, some (.int i))] [] := by
  refine p_aload_n X (dcg dcl_30 0 rfl) rfl rfl ?_
  refine p_aload_n X (dcg dcl_30 1 rfl) rfl rfl ?_
  refine p_iload X (dcg dcl_30 2 rfl) rfl ?_
  refine p_iconst (v := 1) X (dcg dcl_30 3 rfl) (by decide) ?_
  refine p_iadd X (dcg dcl_30 4 rfl) ?_
  refine p_sld X hlx (dcg dcl_30 5 rfl) (vp_of_inb hib.2.1) ?_
  refine p_aload_n X (dcg dcl_30 6 rfl) rfl rfl ?_
  refine p_callSH (As := [_, _, _]) X mlh_263 (dcg dcl_30 7 rfl) rfl rfl (wL_companion hG hgn hf hk hko hcd) (by decide) (room4 (Nat.le_of_ble_eq_true rfl)) hc hs ?_
  intro v9 u9 hw9
  obtain ⟨code, y, rfl, hk2, hy, hk3, hth, hval, hK⟩ := hm v9 u9 hw9
  refine p_istore X (dcg dcl_30 8 rfl) (by decide) rfl ?_
  refine p_aload_n X (dcg dcl_30 9 rfl) rfl rfl ?_
  refine p_aload_n X (dcg dcl_30 10 rfl) rfl rfl ?_
  refine p_iload X (dcg dcl_30 11 rfl) rfl ?_
  refine p_iconst (v := 1) X (dcg dcl_30 12 rfl) (by decide) ?_
  refine p_iadd X (dcg dcl_30 13 rfl) ?_
  refine p_sld X hlx (dcg dcl_30 14 rfl) (vp_of_inb hib.2.1) ?_
  refine p_callV (As := [_]) X ml_L_265 (dcg dcl_30 15 rfl) rfl rfl hk2 (wX12_companion hG hy) (by decide) (room4 (Nat.le_of_ble_eq_true rfl)) (Nat.le_trans (Nat.le_of_eq (Nat.add_zero _)) hc) (Nat.le_trans (Nat.le_of_eq (Nat.add_zero _)) hs) ?_
  rintro _ u9 ⟨rfl, e9⟩; have e9 := e9.symm; subst e9
  refine p_istore X (dcg dcl_30 16 rfl) (by decide) rfl ?_
  refine p_aload_n X (dcg dcl_30 17 rfl) rfl rfl ?_
  refine p_callV (As := []) X ml_L_161 (dcg dcl_30 18 rfl) rfl rfl hk3 (wX12_thrown hG hth) (by decide) (room4 (Nat.le_of_ble_eq_true rfl)) (Nat.le_trans (Nat.le_of_eq (Nat.add_zero _)) hc) (Nat.le_trans (Nat.le_of_eq (Nat.add_zero _)) hs) ?_
  rintro _ u9 ⟨rfl, e9⟩; have e9 := e9.symm; subst e9
  refine p_iload X (dcg dcl_30 19 rfl) rfl ?_
  refine p_icmp_eq (tgt := 1922) X (dcg dcl_30 20 rfl) (by decide) (fun q => ?_) (fun q => ?_)
  · refine p_iload X (dcg dcl_30 23 rfl) rfl ?_
    refine p_if_ne (tgt := 1939) X (dcg dcl_30 24 rfl) (by decide) (fun q => ?_) (fun q => ?_)
    · refine p_goto (tgt := 3150) X (dcg dcl_30 34 rfl) (by decide) ?_
      refine p_pick [0, 1, 2, 3, 4, 5] ?_
      exact hK
    · obtain ⟨hko2, hln2, hvl⟩ := hval (Decidable.not_not.mp q)
      refine p_aload_n X (dcg dcl_30 25 rfl) rfl rfl ?_
      refine p_iconst (v := 0) X (dcg dcl_30 26 rfl) (by decide) ?_
      refine p_lald X (dcg dcl_30 27 rfl) hko2 (vp_of_inb ⟨by decide, hln2⟩) ?_
      refine p_iload X (dcg dcl_30 28 rfl) rfl ?_
      refine p_i2l X (dcg dcl_30 29 rfl) ?_
      refine p_lcmp X (dcg dcl_30 30 rfl) ?_
      refine p_if_eq (tgt := 1939) X (dcg dcl_30 31 rfl) (by decide) (fun q => ?_) (fun q => ?_)
      · refine p_goto (tgt := 3150) X (dcg dcl_30 34 rfl) (by decide) ?_
        refine p_pick [0, 1, 2, 3, 4, 5] ?_
        exact hK
      · exact absurd (by rw [hvl]; exact lg_cmp_self _) q
  · exact absurd rfl q
theorem dcl_31 : decs code [(1942, .aload_n 1, 1), (1943, .aload_n 0, 1), (1944, .iload 5, 2), (1946, .iconst 1, 1), (1947, .iadd, 1), (1948, .iaload, 1), (1949, .aload_n 3, 1), (1950, .invokestatic 266, 3), (1953, .istore 6, 2), (1955, .aload_n 2, 1), (1956, .aload_n 0, 1), (1957, .iload 5, 2), (1959, .iconst 1, 1), (1960, .iadd, 1), (1961, .iaload, 1), (1962, .invokevirtual 268, 3), (1965, .istore 7, 2), (1967, .aload_n 2, 1), (1968, .invokevirtual 161, 3), (1971, .iload 6, 2), (1973, .if_icmp .eq 5, 3), (1976, .iconst 0, 1), (1977, .ireturn, 1), (1978, .iload 6, 2), (1980, .ifCond .ne 15, 3), (1983, .aload_n 3, 1), (1984, .iconst 0, 1), (1985, .laload, 1), (1986, .iload 7, 2), (1988, .i2l, 1), (1989, .lcmp, 1), (1990, .ifCond .eq 5, 3), (1993, .iconst 0, 1), (1994, .ireturn, 1), (1995, .goto 1155, 3)] = true := by decide +kernel
set_option maxRecDepth 100000 in
theorem lc_31 {E : PE} {p : Program} {l : Launch} {e : Env} {s : State} {m : MethodId} {args : Array Value} {below : List Frame} {meth : Method} {c : Code} {Qf : State → Prop} {MC MS uc us N : Nat} {xs : Nat → Int32} {xa ma oa da : Nat} {i : Int32} {h : PH} (X : Cx E p l e (rmv 840 MC MS) s m args below meth c RL code 10 ret) (hG : Gs E l) (hgn : Gn E) (hlx : LX E s N xs) (hib : IB i N) {r : ((Int32 × PH) ⊕ (Nat × PH))} (hf : fX11_neighbours xa (xs (Int32.toNatClampNeg (i + (1 : Int32)))) h = some r) (hk : hK h xa = 11) (hko : ∀ z, r = .inl z → hK z.2 oa = 23 ∧ 0 < hN z.2 oa) (hcd : ∀ z, r = .inr z → z.1 = 1) (hc : uc + (xT2 r - hX h) ≤ MC) (hs : us + (vT2 r - hV h) ≤ MS) (hm : ∀ (v : Option Value) (u : PH), ((∃ z : Int32 × PH, r = .inl z ∧ v = some (.int 0) ∧ u = sL z.2 23 oa (Int32.toNatClampNeg 0) (Int32.toInt64 z.1)) ∨ (∃ (z : Nat × PH) (n : Nat), r = .inr z ∧ hX z.2 ≤ n ∧ u = hbump z.2 n ∧ ((z.1 = 1 ∧ v = some (.int 1))))) → ∃ (code : Int32) (y : Int32 × PH), v = some (.int code) ∧ hK u ma = 12 ∧ fX12_neighbours ma (xs (Int32.toNatClampNeg (i + (1 : Int32)))) u = some y ∧ hK y.2 ma = 12 ∧ fX12_thrown ma y.2 = some code ∧ (code = 0 → hK y.2 oa = 23 ∧ 0 < hN y.2 oa ∧ hL y.2 23 oa (Int32.toNatClampNeg 0) = Int32.toInt64 y.1) ∧ PW E p l e (rmv 840 MC MS) s m args below meth c 10 (uc + (xT2 r - hX h)) (us + (vT2 r - hV h)) Qf y.2 3150 [(0, some (.ref 0)), (1, some (.ref xa)), (2, some (.ref ma)), (3, some (.ref oa)), (4, some (.ref da)), (5, some (.int i))] []) : PW E p l e (rmv 840 MC MS) s m args below meth c 10 uc us Qf h 1942 [(0, some (.ref 0)), (1, some (.ref xa)), (2, some (.ref ma)), (3, some (.ref oa)), (4, some (.ref da)), (5, some (.int i))] [] := by
  refine p_aload_n X (dcg dcl_31 0 rfl) rfl rfl ?_
  refine p_aload_n X (dcg dcl_31 1 rfl) rfl rfl ?_
  refine p_iload X (dcg dcl_31 2 rfl) rfl ?_
  refine p_iconst (v := 1) X (dcg dcl_31 3 rfl) (by decide) ?_
  refine p_iadd X (dcg dcl_31 4 rfl) ?_
  refine p_sld X hlx (dcg dcl_31 5 rfl) (vp_of_inb hib.2.1) ?_
  refine p_aload_n X (dcg dcl_31 6 rfl) rfl rfl ?_
  refine p_callSH (As := [_, _, _]) X mlh_266 (dcg dcl_31 7 rfl) rfl rfl (wL_neighbours hG hgn hf hk hko hcd) (by decide) (room4 (Nat.le_of_ble_eq_true rfl)) hc hs ?_
  intro v9 u9 hw9
  obtain ⟨code, y, rfl, hk2, hy, hk3, hth, hval, hK⟩ := hm v9 u9 hw9
  refine p_istore X (dcg dcl_31 8 rfl) (by decide) rfl ?_
  refine p_aload_n X (dcg dcl_31 9 rfl) rfl rfl ?_
  refine p_aload_n X (dcg dcl_31 10 rfl) rfl rfl ?_
  refine p_iload X (dcg dcl_31 11 rfl) rfl ?_
  refine p_iconst (v := 1) X (dcg dcl_31 12 rfl) (by decide) ?_
  refine p_iadd X (dcg dcl_31 13 rfl) ?_
  refine p_sld X hlx (dcg dcl_31 14 rfl) (vp_of_inb hib.2.1) ?_
  refine p_callV (As := [_]) X ml_L_268 (dcg dcl_31 15 rfl) rfl rfl hk2 (wX12_neighbours hG hy) (by decide) (room4 (Nat.le_of_ble_eq_true rfl)) (Nat.le_trans (Nat.le_of_eq (Nat.add_zero _)) hc) (Nat.le_trans (Nat.le_of_eq (Nat.add_zero _)) hs) ?_
  rintro _ u9 ⟨rfl, e9⟩; have e9 := e9.symm; subst e9
  refine p_istore X (dcg dcl_31 16 rfl) (by decide) rfl ?_
  refine p_aload_n X (dcg dcl_31 17 rfl) rfl rfl ?_
  refine p_callV (As := []) X ml_L_161 (dcg dcl_31 18 rfl) rfl rfl hk3 (wX12_thrown hG hth) (by decide) (room4 (Nat.le_of_ble_eq_true rfl)) (Nat.le_trans (Nat.le_of_eq (Nat.add_zero _)) hc) (Nat.le_trans (Nat.le_of_eq (Nat.add_zero _)) hs) ?_
  rintro _ u9 ⟨rfl, e9⟩; have e9 := e9.symm; subst e9
  refine p_iload X (dcg dcl_31 19 rfl) rfl ?_
  refine p_icmp_eq (tgt := 1978) X (dcg dcl_31 20 rfl) (by decide) (fun q => ?_) (fun q => ?_)
  · refine p_iload X (dcg dcl_31 23 rfl) rfl ?_
    refine p_if_ne (tgt := 1995) X (dcg dcl_31 24 rfl) (by decide) (fun q => ?_) (fun q => ?_)
    · refine p_goto (tgt := 3150) X (dcg dcl_31 34 rfl) (by decide) ?_
      refine p_pick [0, 1, 2, 3, 4, 5] ?_
      exact hK
    · obtain ⟨hko2, hln2, hvl⟩ := hval (Decidable.not_not.mp q)
      refine p_aload_n X (dcg dcl_31 25 rfl) rfl rfl ?_
      refine p_iconst (v := 0) X (dcg dcl_31 26 rfl) (by decide) ?_
      refine p_lald X (dcg dcl_31 27 rfl) hko2 (vp_of_inb ⟨by decide, hln2⟩) ?_
      refine p_iload X (dcg dcl_31 28 rfl) rfl ?_
      refine p_i2l X (dcg dcl_31 29 rfl) ?_
      refine p_lcmp X (dcg dcl_31 30 rfl) ?_
      refine p_if_eq (tgt := 1995) X (dcg dcl_31 31 rfl) (by decide) (fun q => ?_) (fun q => ?_)
      · refine p_goto (tgt := 3150) X (dcg dcl_31 34 rfl) (by decide) ?_
        refine p_pick [0, 1, 2, 3, 4, 5] ?_
        exact hK
      · exact absurd (by rw [hvl]; exact lg_cmp_self _) q
  · exact absurd rfl q
theorem dcl_32 : decs code [(1998, .aload_n 1, 1), (1999, .aload_n 0, 1), (2000, .iload 5, 2), (2002, .iconst 1, 1), (2003, .iadd, 1), (2004, .iaload, 1), (2005, .aload_n 0, 1), (2006, .iload 5, 2), (2008, .iconst 2, 1), (2009, .iadd, 1), (2010, .iaload, 1), (2011, .aload_n 3, 1), (2012, .invokestatic 269, 3), (2015, .istore 6, 2), (2017, .aload_n 2, 1), (2018, .aload_n 0, 1), (2019, .iload 5, 2), (2021, .iconst 1, 1), (2022, .iadd, 1), (2023, .iaload, 1), (2024, .aload_n 0, 1), (2025, .iload 5, 2), (2027, .iconst 2, 1), (2028, .iadd, 1), (2029, .iaload, 1), (2030, .invokevirtual 271, 3), (2033, .istore 7, 2), (2035, .aload_n 2, 1), (2036, .invokevirtual 161, 3), (2039, .iload 6, 2), (2041, .if_icmp .eq 5, 3), (2044, .iconst 0, 1), (2045, .ireturn, 1), (2046, .iload 6, 2), (2048, .ifCond .ne 15, 3), (2051, .aload_n 3, 1), (2052, .iconst 0, 1), (2053, .laload, 1), (2054, .iload 7, 2), (2056, .i2l, 1), (2057, .lcmp, 1), (2058, .ifCond .eq 5, 3), (2061, .iconst 0, 1), (2062, .ireturn, 1), (2063, .goto 1087, 3)] = true := by decide +kernel
set_option maxRecDepth 100000 in
theorem lc_32 {E : PE} {p : Program} {l : Launch} {e : Env} {s : State} {m : MethodId} {args : Array Value} {below : List Frame} {meth : Method} {c : Code} {Qf : State → Prop} {MC MS uc us N : Nat} {xs : Nat → Int32} {xa ma oa da : Nat} {i : Int32} {h : PH} (X : Cx E p l e (rmv 840 MC MS) s m args below meth c RL code 10 ret) (hG : Gs E l) (hgn : Gn E) (hlx : LX E s N xs) (hib : IB i N) {r : ((Int32 × PH) ⊕ (Nat × PH))} (hf : fX11_neighbourAt xa (xs (Int32.toNatClampNeg (i + (1 : Int32)))) (xs (Int32.toNatClampNeg (i + (2 : Int32)))) h = some r) (hk : hK h xa = 11) (hko : ∀ z, r = .inl z → hK z.2 oa = 23 ∧ 0 < hN z.2 oa) (hcd : ∀ z, r = .inr z → z.1 = 1) (hc : uc + (xT2 r - hX h) ≤ MC) (hs : us + (vT2 r - hV h) ≤ MS) (hm : ∀ (v : Option Value) (u : PH), ((∃ z : Int32 × PH, r = .inl z ∧ v = some (.int 0) ∧ u = sL z.2 23 oa (Int32.toNatClampNeg 0) (Int32.toInt64 z.1)) ∨ (∃ (z : Nat × PH) (n : Nat), r = .inr z ∧ hX z.2 ≤ n ∧ u = hbump z.2 n ∧ ((z.1 = 1 ∧ v = some (.int 1))))) → ∃ (code : Int32) (y : Int32 × PH), v = some (.int code) ∧ hK u ma = 12 ∧ fX12_neighbourAt ma (xs (Int32.toNatClampNeg (i + (1 : Int32)))) (xs (Int32.toNatClampNeg (i + (2 : Int32)))) u = some y ∧ hK y.2 ma = 12 ∧ fX12_thrown ma y.2 = some code ∧ (code = 0 → hK y.2 oa = 23 ∧ 0 < hN y.2 oa ∧ hL y.2 23 oa (Int32.toNatClampNeg 0) = Int32.toInt64 y.1) ∧ PW E p l e (rmv 840 MC MS) s m args below meth c 10 (uc + (xT2 r - hX h)) (us + (vT2 r - hV h)) Qf y.2 3150 [(0, some (.ref 0)), (1, some (.ref xa)), (2, some (.ref ma)), (3, some (.ref oa)), (4, some (.ref da)), (5, some (.int i))] []) : PW E p l e (rmv 840 MC MS) s m args below meth c 10 uc us Qf h 1998 [(0, some (.ref 0)), (1, some (.ref xa)), (2, some (.ref ma)), (3, some (.ref oa)), (4, some (.ref da)), (5, some (.int i))] [] := by
  refine p_aload_n X (dcg dcl_32 0 rfl) rfl rfl ?_
  refine p_aload_n X (dcg dcl_32 1 rfl) rfl rfl ?_
  refine p_iload X (dcg dcl_32 2 rfl) rfl ?_
  refine p_iconst (v := 1) X (dcg dcl_32 3 rfl) (by decide) ?_
  refine p_iadd X (dcg dcl_32 4 rfl) ?_
  refine p_sld X hlx (dcg dcl_32 5 rfl) (vp_of_inb hib.2.1) ?_
  refine p_aload_n X (dcg dcl_32 6 rfl) rfl rfl ?_
  refine p_iload X (dcg dcl_32 7 rfl) rfl ?_
  refine p_iconst (v := 2) X (dcg dcl_32 8 rfl) (by decide) ?_
  refine p_iadd X (dcg dcl_32 9 rfl) ?_
  refine p_sld X hlx (dcg dcl_32 10 rfl) (vp_of_inb hib.2.2.1) ?_
  refine p_aload_n X (dcg dcl_32 11 rfl) rfl rfl ?_
  refine p_callSH (As := [_, _, _, _]) X mlh_269 (dcg dcl_32 12 rfl) rfl rfl (wL_neighbourAt hG hgn hf hk hko hcd) (by decide) (room4 (Nat.le_of_ble_eq_true rfl)) hc hs ?_
  intro v9 u9 hw9
  obtain ⟨code, y, rfl, hk2, hy, hk3, hth, hval, hK⟩ := hm v9 u9 hw9
  refine p_istore X (dcg dcl_32 13 rfl) (by decide) rfl ?_
  refine p_aload_n X (dcg dcl_32 14 rfl) rfl rfl ?_
  refine p_aload_n X (dcg dcl_32 15 rfl) rfl rfl ?_
  refine p_iload X (dcg dcl_32 16 rfl) rfl ?_
  refine p_iconst (v := 1) X (dcg dcl_32 17 rfl) (by decide) ?_
  refine p_iadd X (dcg dcl_32 18 rfl) ?_
  refine p_sld X hlx (dcg dcl_32 19 rfl) (vp_of_inb hib.2.1) ?_
  refine p_aload_n X (dcg dcl_32 20 rfl) rfl rfl ?_
  refine p_iload X (dcg dcl_32 21 rfl) rfl ?_
  refine p_iconst (v := 2) X (dcg dcl_32 22 rfl) (by decide) ?_
  refine p_iadd X (dcg dcl_32 23 rfl) ?_
  refine p_sld X hlx (dcg dcl_32 24 rfl) (vp_of_inb hib.2.2.1) ?_
  refine p_callV (As := [_, _]) X ml_L_271 (dcg dcl_32 25 rfl) rfl rfl hk2 (wX12_neighbourAt hG hy) (by decide) (room4 (Nat.le_of_ble_eq_true rfl)) (Nat.le_trans (Nat.le_of_eq (Nat.add_zero _)) hc) (Nat.le_trans (Nat.le_of_eq (Nat.add_zero _)) hs) ?_
  rintro _ u9 ⟨rfl, e9⟩; have e9 := e9.symm; subst e9
  refine p_istore X (dcg dcl_32 26 rfl) (by decide) rfl ?_
  refine p_aload_n X (dcg dcl_32 27 rfl) rfl rfl ?_
  refine p_callV (As := []) X ml_L_161 (dcg dcl_32 28 rfl) rfl rfl hk3 (wX12_thrown hG hth) (by decide) (room4 (Nat.le_of_ble_eq_true rfl)) (Nat.le_trans (Nat.le_of_eq (Nat.add_zero _)) hc) (Nat.le_trans (Nat.le_of_eq (Nat.add_zero _)) hs) ?_
  rintro _ u9 ⟨rfl, e9⟩; have e9 := e9.symm; subst e9
  refine p_iload X (dcg dcl_32 29 rfl) rfl ?_
  refine p_icmp_eq (tgt := 2046) X (dcg dcl_32 30 rfl) (by decide) (fun q => ?_) (fun q => ?_)
  · refine p_iload X (dcg dcl_32 33 rfl) rfl ?_
    refine p_if_ne (tgt := 2063) X (dcg dcl_32 34 rfl) (by decide) (fun q => ?_) (fun q => ?_)
    · refine p_goto (tgt := 3150) X (dcg dcl_32 44 rfl) (by decide) ?_
      refine p_pick [0, 1, 2, 3, 4, 5] ?_
      exact hK
    · obtain ⟨hko2, hln2, hvl⟩ := hval (Decidable.not_not.mp q)
      refine p_aload_n X (dcg dcl_32 35 rfl) rfl rfl ?_
      refine p_iconst (v := 0) X (dcg dcl_32 36 rfl) (by decide) ?_
      refine p_lald X (dcg dcl_32 37 rfl) hko2 (vp_of_inb ⟨by decide, hln2⟩) ?_
      refine p_iload X (dcg dcl_32 38 rfl) rfl ?_
      refine p_i2l X (dcg dcl_32 39 rfl) ?_
      refine p_lcmp X (dcg dcl_32 40 rfl) ?_
      refine p_if_eq (tgt := 2063) X (dcg dcl_32 41 rfl) (by decide) (fun q => ?_) (fun q => ?_)
      · refine p_goto (tgt := 3150) X (dcg dcl_32 44 rfl) (by decide) ?_
        refine p_pick [0, 1, 2, 3, 4, 5] ?_
        exact hK
      · exact absurd (by rw [hvl]; exact lg_cmp_self _) q
  · exact absurd rfl q
theorem dcl_33 : decs code [(2066, .aload_n 1, 1), (2067, .aload_n 3, 1), (2068, .invokestatic 272, 3), (2071, .istore 6, 2), (2073, .aload_n 2, 1), (2074, .invokevirtual 274, 3), (2077, .istore 7, 2), (2079, .aload_n 2, 1), (2080, .invokevirtual 161, 3), (2083, .iload 6, 2), (2085, .if_icmp .eq 5, 3), (2088, .iconst 0, 1), (2089, .ireturn, 1), (2090, .iload 6, 2), (2092, .ifCond .ne 15, 3), (2095, .aload_n 3, 1), (2096, .iconst 0, 1), (2097, .laload, 1), (2098, .iload 7, 2), (2100, .i2l, 1), (2101, .lcmp, 1), (2102, .ifCond .eq 5, 3), (2105, .iconst 0, 1), (2106, .ireturn, 1), (2107, .goto 1043, 3)] = true := by decide +kernel
set_option maxRecDepth 100000 in
theorem lc_33 {E : PE} {p : Program} {l : Launch} {e : Env} {s : State} {m : MethodId} {args : Array Value} {below : List Frame} {meth : Method} {c : Code} {Qf : State → Prop} {MC MS uc us N : Nat} {xs : Nat → Int32} {xa ma oa da : Nat} {i : Int32} {h : PH} (X : Cx E p l e (rmv 840 MC MS) s m args below meth c RL code 10 ret) (hG : Gs E l) (hgn : Gn E) (hlx : LX E s N xs) (hib : IB i N) {r : ((Int32 × PH) ⊕ (Nat × PH))} (hf : fX11_ask xa  h = some r) (hk : hK h xa = 11) (hko : ∀ z, r = .inl z → hK z.2 oa = 23 ∧ 0 < hN z.2 oa) (hcd : ∀ z, r = .inr z → z.1 = 1) (hc : uc + (xT2 r - hX h) ≤ MC) (hs : us + (vT2 r - hV h) ≤ MS) (hm : ∀ (v : Option Value) (u : PH), ((∃ z : Int32 × PH, r = .inl z ∧ v = some (.int 0) ∧ u = sL z.2 23 oa (Int32.toNatClampNeg 0) (Int32.toInt64 z.1)) ∨ (∃ (z : Nat × PH) (n : Nat), r = .inr z ∧ hX z.2 ≤ n ∧ u = hbump z.2 n ∧ ((z.1 = 1 ∧ v = some (.int 1))))) → ∃ (code : Int32) (y : Int32 × PH), v = some (.int code) ∧ hK u ma = 12 ∧ fX12_ask ma  u = some y ∧ hK y.2 ma = 12 ∧ fX12_thrown ma y.2 = some code ∧ (code = 0 → hK y.2 oa = 23 ∧ 0 < hN y.2 oa ∧ hL y.2 23 oa (Int32.toNatClampNeg 0) = Int32.toInt64 y.1) ∧ PW E p l e (rmv 840 MC MS) s m args below meth c 10 (uc + (xT2 r - hX h)) (us + (vT2 r - hV h)) Qf y.2 3150 [(0, some (.ref 0)), (1, some (.ref xa)), (2, some (.ref ma)), (3, some (.ref oa)), (4, some (.ref da)), (5, some (.int i))] []) : PW E p l e (rmv 840 MC MS) s m args below meth c 10 uc us Qf h 2066 [(0, some (.ref 0)), (1, some (.ref xa)), (2, some (.ref ma)), (3, some (.ref oa)), (4, some (.ref da)), (5, some (.int i))] [] := by
  refine p_aload_n X (dcg dcl_33 0 rfl) rfl rfl ?_
  refine p_aload_n X (dcg dcl_33 1 rfl) rfl rfl ?_
  refine p_callSH (As := [_, _]) X mlh_272 (dcg dcl_33 2 rfl) rfl rfl (wL_ask hG hgn hf hk hko hcd) (by decide) (room4 (Nat.le_of_ble_eq_true rfl)) hc hs ?_
  intro v9 u9 hw9
  obtain ⟨code, y, rfl, hk2, hy, hk3, hth, hval, hK⟩ := hm v9 u9 hw9
  refine p_istore X (dcg dcl_33 3 rfl) (by decide) rfl ?_
  refine p_aload_n X (dcg dcl_33 4 rfl) rfl rfl ?_
  refine p_callV (As := []) X ml_L_274 (dcg dcl_33 5 rfl) rfl rfl hk2 (wX12_ask hG hy) (by decide) (room4 (Nat.le_of_ble_eq_true rfl)) (Nat.le_trans (Nat.le_of_eq (Nat.add_zero _)) hc) (Nat.le_trans (Nat.le_of_eq (Nat.add_zero _)) hs) ?_
  rintro _ u9 ⟨rfl, e9⟩; have e9 := e9.symm; subst e9
  refine p_istore X (dcg dcl_33 6 rfl) (by decide) rfl ?_
  refine p_aload_n X (dcg dcl_33 7 rfl) rfl rfl ?_
  refine p_callV (As := []) X ml_L_161 (dcg dcl_33 8 rfl) rfl rfl hk3 (wX12_thrown hG hth) (by decide) (room4 (Nat.le_of_ble_eq_true rfl)) (Nat.le_trans (Nat.le_of_eq (Nat.add_zero _)) hc) (Nat.le_trans (Nat.le_of_eq (Nat.add_zero _)) hs) ?_
  rintro _ u9 ⟨rfl, e9⟩; have e9 := e9.symm; subst e9
  refine p_iload X (dcg dcl_33 9 rfl) rfl ?_
  refine p_icmp_eq (tgt := 2090) X (dcg dcl_33 10 rfl) (by decide) (fun q => ?_) (fun q => ?_)
  · refine p_iload X (dcg dcl_33 13 rfl) rfl ?_
    refine p_if_ne (tgt := 2107) X (dcg dcl_33 14 rfl) (by decide) (fun q => ?_) (fun q => ?_)
    · refine p_goto (tgt := 3150) X (dcg dcl_33 24 rfl) (by decide) ?_
      refine p_pick [0, 1, 2, 3, 4, 5] ?_
      exact hK
    · obtain ⟨hko2, hln2, hvl⟩ := hval (Decidable.not_not.mp q)
      refine p_aload_n X (dcg dcl_33 15 rfl) rfl rfl ?_
      refine p_iconst (v := 0) X (dcg dcl_33 16 rfl) (by decide) ?_
      refine p_lald X (dcg dcl_33 17 rfl) hko2 (vp_of_inb ⟨by decide, hln2⟩) ?_
      refine p_iload X (dcg dcl_33 18 rfl) rfl ?_
      refine p_i2l X (dcg dcl_33 19 rfl) ?_
      refine p_lcmp X (dcg dcl_33 20 rfl) ?_
      refine p_if_eq (tgt := 2107) X (dcg dcl_33 21 rfl) (by decide) (fun q => ?_) (fun q => ?_)
      · refine p_goto (tgt := 3150) X (dcg dcl_33 24 rfl) (by decide) ?_
        refine p_pick [0, 1, 2, 3, 4, 5] ?_
        exact hK
      · exact absurd (by rw [hvl]; exact lg_cmp_self _) q
  · exact absurd rfl q
theorem dcl_34 : decs code [(2110, .aload_n 1, 1), (2111, .aload_n 0, 1), (2112, .iload 5, 2), (2114, .iconst 1, 1), (2115, .iadd, 1), (2116, .iaload, 1), (2117, .aload_n 3, 1), (2118, .invokestatic 275, 3), (2121, .istore 6, 2), (2123, .aload_n 2, 1), (2124, .aload_n 0, 1), (2125, .iload 5, 2), (2127, .iconst 1, 1), (2128, .iadd, 1), (2129, .iaload, 1), (2130, .invokevirtual 277, 3), (2133, .istore 7, 2), (2135, .aload_n 2, 1), (2136, .invokevirtual 161, 3), (2139, .iload 6, 2), (2141, .if_icmp .eq 5, 3), (2144, .iconst 0, 1), (2145, .ireturn, 1), (2146, .iload 6, 2), (2148, .ifCond .ne 15, 3), (2151, .aload_n 3, 1), (2152, .iconst 0, 1), (2153, .laload, 1), (2154, .iload 7, 2), (2156, .i2l, 1), (2157, .lcmp, 1), (2158, .ifCond .eq 5, 3), (2161, .iconst 0, 1), (2162, .ireturn, 1), (2163, .goto 987, 3)] = true := by decide +kernel
set_option maxRecDepth 100000 in
theorem lc_34 {E : PE} {p : Program} {l : Launch} {e : Env} {s : State} {m : MethodId} {args : Array Value} {below : List Frame} {meth : Method} {c : Code} {Qf : State → Prop} {MC MS uc us N : Nat} {xs : Nat → Int32} {xa ma oa da : Nat} {i : Int32} {h : PH} (X : Cx E p l e (rmv 840 MC MS) s m args below meth c RL code 10 ret) (hG : Gs E l) (hgn : Gn E) (hlx : LX E s N xs) (hib : IB i N) {r : ((Int32 × PH) ⊕ (Nat × PH))} (hf : fX11_askKept xa (xs (Int32.toNatClampNeg (i + (1 : Int32)))) h = some r) (hk : hK h xa = 11) (hko : ∀ z, r = .inl z → hK z.2 oa = 23 ∧ 0 < hN z.2 oa) (hcd : ∀ z, r = .inr z → z.1 = 1 ∨ z.1 = 3) (hc : uc + (xT2 r - hX h) ≤ MC) (hs : us + (vT2 r - hV h) ≤ MS) (hm : ∀ (v : Option Value) (u : PH), ((∃ z : Int32 × PH, r = .inl z ∧ v = some (.int 0) ∧ u = sL z.2 23 oa (Int32.toNatClampNeg 0) (Int32.toInt64 z.1)) ∨ (∃ (z : Nat × PH) (n : Nat), r = .inr z ∧ hX z.2 ≤ n ∧ u = hbump z.2 n ∧ ((z.1 = 1 ∧ v = some (.int 1)) ∨ (z.1 = 3 ∧ v = some (.int 2))))) → ∃ (code : Int32) (y : Int32 × PH), v = some (.int code) ∧ hK u ma = 12 ∧ fX12_askKept ma (xs (Int32.toNatClampNeg (i + (1 : Int32)))) u = some y ∧ hK y.2 ma = 12 ∧ fX12_thrown ma y.2 = some code ∧ (code = 0 → hK y.2 oa = 23 ∧ 0 < hN y.2 oa ∧ hL y.2 23 oa (Int32.toNatClampNeg 0) = Int32.toInt64 y.1) ∧ PW E p l e (rmv 840 MC MS) s m args below meth c 10 (uc + (xT2 r - hX h)) (us + (vT2 r - hV h)) Qf y.2 3150 [(0, some (.ref 0)), (1, some (.ref xa)), (2, some (.ref ma)), (3, some (.ref oa)), (4, some (.ref da)), (5, some (.int i))] []) : PW E p l e (rmv 840 MC MS) s m args below meth c 10 uc us Qf h 2110 [(0, some (.ref 0)), (1, some (.ref xa)), (2, some (.ref ma)), (3, some (.ref oa)), (4, some (.ref da)), (5, some (.int i))] [] := by
  refine p_aload_n X (dcg dcl_34 0 rfl) rfl rfl ?_
  refine p_aload_n X (dcg dcl_34 1 rfl) rfl rfl ?_
  refine p_iload X (dcg dcl_34 2 rfl) rfl ?_
  refine p_iconst (v := 1) X (dcg dcl_34 3 rfl) (by decide) ?_
  refine p_iadd X (dcg dcl_34 4 rfl) ?_
  refine p_sld X hlx (dcg dcl_34 5 rfl) (vp_of_inb hib.2.1) ?_
  refine p_aload_n X (dcg dcl_34 6 rfl) rfl rfl ?_
  refine p_callSH (As := [_, _, _]) X mlh_275 (dcg dcl_34 7 rfl) rfl rfl (wL_askKept hG hgn hf hk hko hcd) (by decide) (room4 (Nat.le_of_ble_eq_true rfl)) hc hs ?_
  intro v9 u9 hw9
  obtain ⟨code, y, rfl, hk2, hy, hk3, hth, hval, hK⟩ := hm v9 u9 hw9
  refine p_istore X (dcg dcl_34 8 rfl) (by decide) rfl ?_
  refine p_aload_n X (dcg dcl_34 9 rfl) rfl rfl ?_
  refine p_aload_n X (dcg dcl_34 10 rfl) rfl rfl ?_
  refine p_iload X (dcg dcl_34 11 rfl) rfl ?_
  refine p_iconst (v := 1) X (dcg dcl_34 12 rfl) (by decide) ?_
  refine p_iadd X (dcg dcl_34 13 rfl) ?_
  refine p_sld X hlx (dcg dcl_34 14 rfl) (vp_of_inb hib.2.1) ?_
  refine p_callV (As := [_]) X ml_L_277 (dcg dcl_34 15 rfl) rfl rfl hk2 (wX12_askKept hG hy) (by decide) (room4 (Nat.le_of_ble_eq_true rfl)) (Nat.le_trans (Nat.le_of_eq (Nat.add_zero _)) hc) (Nat.le_trans (Nat.le_of_eq (Nat.add_zero _)) hs) ?_
  rintro _ u9 ⟨rfl, e9⟩; have e9 := e9.symm; subst e9
  refine p_istore X (dcg dcl_34 16 rfl) (by decide) rfl ?_
  refine p_aload_n X (dcg dcl_34 17 rfl) rfl rfl ?_
  refine p_callV (As := []) X ml_L_161 (dcg dcl_34 18 rfl) rfl rfl hk3 (wX12_thrown hG hth) (by decide) (room4 (Nat.le_of_ble_eq_true rfl)) (Nat.le_trans (Nat.le_of_eq (Nat.add_zero _)) hc) (Nat.le_trans (Nat.le_of_eq (Nat.add_zero _)) hs) ?_
  rintro _ u9 ⟨rfl, e9⟩; have e9 := e9.symm; subst e9
  refine p_iload X (dcg dcl_34 19 rfl) rfl ?_
  refine p_icmp_eq (tgt := 2146) X (dcg dcl_34 20 rfl) (by decide) (fun q => ?_) (fun q => ?_)
  · refine p_iload X (dcg dcl_34 23 rfl) rfl ?_
    refine p_if_ne (tgt := 2163) X (dcg dcl_34 24 rfl) (by decide) (fun q => ?_) (fun q => ?_)
    · refine p_goto (tgt := 3150) X (dcg dcl_34 34 rfl) (by decide) ?_
      refine p_pick [0, 1, 2, 3, 4, 5] ?_
      exact hK
    · obtain ⟨hko2, hln2, hvl⟩ := hval (Decidable.not_not.mp q)
      refine p_aload_n X (dcg dcl_34 25 rfl) rfl rfl ?_
      refine p_iconst (v := 0) X (dcg dcl_34 26 rfl) (by decide) ?_
      refine p_lald X (dcg dcl_34 27 rfl) hko2 (vp_of_inb ⟨by decide, hln2⟩) ?_
      refine p_iload X (dcg dcl_34 28 rfl) rfl ?_
      refine p_i2l X (dcg dcl_34 29 rfl) ?_
      refine p_lcmp X (dcg dcl_34 30 rfl) ?_
      refine p_if_eq (tgt := 2163) X (dcg dcl_34 31 rfl) (by decide) (fun q => ?_) (fun q => ?_)
      · refine p_goto (tgt := 3150) X (dcg dcl_34 34 rfl) (by decide) ?_
        refine p_pick [0, 1, 2, 3, 4, 5] ?_
        exact hK
      · exact absurd (by rw [hvl]; exact lg_cmp_self _) q
  · exact absurd rfl q
theorem dcl_35 : decs code [(2166, .aload_n 1, 1), (2167, .aload_n 0, 1), (2168, .iload 5, 2), (2170, .iconst 1, 1), (2171, .iadd, 1), (2172, .iaload, 1), (2173, .invokevirtual 278, 3), (2176, .aload_n 2, 1), (2177, .aload_n 0, 1), (2178, .iload 5, 2), (2180, .iconst 1, 1), (2181, .iadd, 1), (2182, .iaload, 1), (2183, .invokevirtual 281, 3), (2186, .if_icmp .eq 964, 3), (2189, .iconst 0, 1), (2190, .ireturn, 1)] = true := by decide +kernel
set_option maxRecDepth 100000 in
theorem lc_35 {E : PE} {p : Program} {l : Launch} {e : Env} {s : State} {m : MethodId} {args : Array Value} {below : List Frame} {meth : Method} {c : Code} {Qf : State → Prop} {MC MS uc us N : Nat} {xs : Nat → Int32} {xa ma oa da : Nat} {i : Int32} {h : PH} (X : Cx E p l e (rmv 840 MC MS) s m args below meth c RL code 10 ret) (hG : Gs E l) (hgn : Gn E) (hlx : LX E s N xs) (hib : IB i N) {r : Int32} (hf : fX11_foundAt xa (xs (Int32.toNatClampNeg (i + (1 : Int32)))) h = some r) (hk : hK h xa = 11) (hc : uc + 0 ≤ MC) (hs : us + 0 ≤ MS) (hm : ∃ y : Int32 × PH, hK h ma = 12 ∧ fX12_foundAt ma (xs (Int32.toNatClampNeg (i + (1 : Int32)))) h = some y ∧ r = y.1 ∧ PW E p l e (rmv 840 MC MS) s m args below meth c 10 (uc + 0) (us + 0) Qf y.2 3150 [(0, some (.ref 0)), (1, some (.ref xa)), (2, some (.ref ma)), (3, some (.ref oa)), (4, some (.ref da)), (5, some (.int i))] []) : PW E p l e (rmv 840 MC MS) s m args below meth c 10 uc us Qf h 2166 [(0, some (.ref 0)), (1, some (.ref xa)), (2, some (.ref ma)), (3, some (.ref oa)), (4, some (.ref da)), (5, some (.int i))] [] := by
  refine p_aload_n X (dcg dcl_35 0 rfl) rfl rfl ?_
  refine p_aload_n X (dcg dcl_35 1 rfl) rfl rfl ?_
  refine p_iload X (dcg dcl_35 2 rfl) rfl ?_
  refine p_iconst (v := 1) X (dcg dcl_35 3 rfl) (by decide) ?_
  refine p_iadd X (dcg dcl_35 4 rfl) ?_
  refine p_sld X hlx (dcg dcl_35 5 rfl) (vp_of_inb hib.2.1) ?_
  refine p_callV (As := [_]) X ml_L_278 (dcg dcl_35 6 rfl) rfl rfl hk (wX11_foundAt hG hf) (by decide) (room4 (Nat.le_of_ble_eq_true rfl)) hc hs ?_
  rintro _ u9 ⟨rfl, e9⟩; have e9 := e9.symm; subst e9
  obtain ⟨y, hk2, hy, hyr, hK⟩ := hm
  refine p_aload_n X (dcg dcl_35 7 rfl) rfl rfl ?_
  refine p_aload_n X (dcg dcl_35 8 rfl) rfl rfl ?_
  refine p_iload X (dcg dcl_35 9 rfl) rfl ?_
  refine p_iconst (v := 1) X (dcg dcl_35 10 rfl) (by decide) ?_
  refine p_iadd X (dcg dcl_35 11 rfl) ?_
  refine p_sld X hlx (dcg dcl_35 12 rfl) (vp_of_inb hib.2.1) ?_
  refine p_callV (As := [_]) X ml_L_281 (dcg dcl_35 13 rfl) rfl rfl hk2 (wX12_foundAt hG hy) (by decide) (room4 (Nat.le_of_ble_eq_true rfl)) (Nat.le_trans (Nat.le_of_eq (Nat.add_zero _)) hc) (Nat.le_trans (Nat.le_of_eq (Nat.add_zero _)) hs) ?_
  rintro _ u9 ⟨rfl, e9⟩; have e9 := e9.symm; subst e9
  refine p_icmp_eq (tgt := 3150) X (dcg dcl_35 14 rfl) (by decide) (fun q => ?_) (fun q => ?_)
  · refine p_pick [0, 1, 2, 3, 4, 5] ?_
    exact hK
  · exact absurd hyr q
theorem dcl_36 : decs code [(2191, .aload_n 1, 1), (2192, .aload_n 0, 1), (2193, .iload 5, 2), (2195, .iconst 1, 1), (2196, .iadd, 1), (2197, .iaload, 1), (2198, .invokevirtual 282, 3), (2201, .aload_n 2, 1), (2202, .aload_n 0, 1), (2203, .iload 5, 2), (2205, .iconst 1, 1), (2206, .iadd, 1), (2207, .iaload, 1), (2208, .invokevirtual 285, 3), (2211, .if_icmp .eq 939, 3), (2214, .iconst 0, 1), (2215, .ireturn, 1)] = true := by decide +kernel
set_option maxRecDepth 100000 in
theorem lc_36 {E : PE} {p : Program} {l : Launch} {e : Env} {s : State} {m : MethodId} {args : Array Value} {below : List Frame} {meth : Method} {c : Code} {Qf : State → Prop} {MC MS uc us N : Nat} {xs : Nat → Int32} {xa ma oa da : Nat} {i : Int32} {h : PH} (X : Cx E p l e (rmv 840 MC MS) s m args below meth c RL code 10 ret) (hG : Gs E l) (hgn : Gn E) (hlx : LX E s N xs) (hib : IB i N) {r : Int32} (hf : fX11_rankAt xa (xs (Int32.toNatClampNeg (i + (1 : Int32)))) h = some r) (hk : hK h xa = 11) (hc : uc + 0 ≤ MC) (hs : us + 0 ≤ MS) (hm : ∃ y : Int32 × PH, hK h ma = 12 ∧ fX12_rankAt ma (xs (Int32.toNatClampNeg (i + (1 : Int32)))) h = some y ∧ r = y.1 ∧ PW E p l e (rmv 840 MC MS) s m args below meth c 10 (uc + 0) (us + 0) Qf y.2 3150 [(0, some (.ref 0)), (1, some (.ref xa)), (2, some (.ref ma)), (3, some (.ref oa)), (4, some (.ref da)), (5, some (.int i))] []) : PW E p l e (rmv 840 MC MS) s m args below meth c 10 uc us Qf h 2191 [(0, some (.ref 0)), (1, some (.ref xa)), (2, some (.ref ma)), (3, some (.ref oa)), (4, some (.ref da)), (5, some (.int i))] [] := by
  refine p_aload_n X (dcg dcl_36 0 rfl) rfl rfl ?_
  refine p_aload_n X (dcg dcl_36 1 rfl) rfl rfl ?_
  refine p_iload X (dcg dcl_36 2 rfl) rfl ?_
  refine p_iconst (v := 1) X (dcg dcl_36 3 rfl) (by decide) ?_
  refine p_iadd X (dcg dcl_36 4 rfl) ?_
  refine p_sld X hlx (dcg dcl_36 5 rfl) (vp_of_inb hib.2.1) ?_
  refine p_callV (As := [_]) X ml_L_282 (dcg dcl_36 6 rfl) rfl rfl hk (wX11_rankAt hG hf) (by decide) (room4 (Nat.le_of_ble_eq_true rfl)) hc hs ?_
  rintro _ u9 ⟨rfl, e9⟩; have e9 := e9.symm; subst e9
  obtain ⟨y, hk2, hy, hyr, hK⟩ := hm
  refine p_aload_n X (dcg dcl_36 7 rfl) rfl rfl ?_
  refine p_aload_n X (dcg dcl_36 8 rfl) rfl rfl ?_
  refine p_iload X (dcg dcl_36 9 rfl) rfl ?_
  refine p_iconst (v := 1) X (dcg dcl_36 10 rfl) (by decide) ?_
  refine p_iadd X (dcg dcl_36 11 rfl) ?_
  refine p_sld X hlx (dcg dcl_36 12 rfl) (vp_of_inb hib.2.1) ?_
  refine p_callV (As := [_]) X ml_L_285 (dcg dcl_36 13 rfl) rfl rfl hk2 (wX12_rankAt hG hy) (by decide) (room4 (Nat.le_of_ble_eq_true rfl)) (Nat.le_trans (Nat.le_of_eq (Nat.add_zero _)) hc) (Nat.le_trans (Nat.le_of_eq (Nat.add_zero _)) hs) ?_
  rintro _ u9 ⟨rfl, e9⟩; have e9 := e9.symm; subst e9
  refine p_icmp_eq (tgt := 3150) X (dcg dcl_36 14 rfl) (by decide) (fun q => ?_) (fun q => ?_)
  · refine p_pick [0, 1, 2, 3, 4, 5] ?_
    exact hK
  · exact absurd hyr q
theorem dcl_37 : decs code [(2216, .aload_n 1, 1), (2217, .aload_n 0, 1), (2218, .iload 5, 2), (2220, .iconst 1, 1), (2221, .iadd, 1), (2222, .iaload, 1), (2223, .invokevirtual 286, 3), (2226, .aload_n 2, 1), (2227, .aload_n 0, 1), (2228, .iload 5, 2), (2230, .iconst 1, 1), (2231, .iadd, 1), (2232, .iaload, 1), (2233, .invokevirtual 289, 3), (2236, .if_icmp .eq 914, 3), (2239, .iconst 0, 1), (2240, .ireturn, 1)] = true := by decide +kernel
set_option maxRecDepth 100000 in
theorem lc_37 {E : PE} {p : Program} {l : Launch} {e : Env} {s : State} {m : MethodId} {args : Array Value} {below : List Frame} {meth : Method} {c : Code} {Qf : State → Prop} {MC MS uc us N : Nat} {xs : Nat → Int32} {xa ma oa da : Nat} {i : Int32} {h : PH} (X : Cx E p l e (rmv 840 MC MS) s m args below meth c RL code 10 ret) (hG : Gs E l) (hgn : Gn E) (hlx : LX E s N xs) (hib : IB i N) {r : Int32} (hf : fX11_scoreAt xa (xs (Int32.toNatClampNeg (i + (1 : Int32)))) h = some r) (hk : hK h xa = 11) (hc : uc + 0 ≤ MC) (hs : us + 0 ≤ MS) (hm : ∃ y : Int32 × PH, hK h ma = 12 ∧ fX12_scoreAt ma (xs (Int32.toNatClampNeg (i + (1 : Int32)))) h = some y ∧ r = y.1 ∧ PW E p l e (rmv 840 MC MS) s m args below meth c 10 (uc + 0) (us + 0) Qf y.2 3150 [(0, some (.ref 0)), (1, some (.ref xa)), (2, some (.ref ma)), (3, some (.ref oa)), (4, some (.ref da)), (5, some (.int i))] []) : PW E p l e (rmv 840 MC MS) s m args below meth c 10 uc us Qf h 2216 [(0, some (.ref 0)), (1, some (.ref xa)), (2, some (.ref ma)), (3, some (.ref oa)), (4, some (.ref da)), (5, some (.int i))] [] := by
  refine p_aload_n X (dcg dcl_37 0 rfl) rfl rfl ?_
  refine p_aload_n X (dcg dcl_37 1 rfl) rfl rfl ?_
  refine p_iload X (dcg dcl_37 2 rfl) rfl ?_
  refine p_iconst (v := 1) X (dcg dcl_37 3 rfl) (by decide) ?_
  refine p_iadd X (dcg dcl_37 4 rfl) ?_
  refine p_sld X hlx (dcg dcl_37 5 rfl) (vp_of_inb hib.2.1) ?_
  refine p_callV (As := [_]) X ml_L_286 (dcg dcl_37 6 rfl) rfl rfl hk (wX11_scoreAt hG hf) (by decide) (room4 (Nat.le_of_ble_eq_true rfl)) hc hs ?_
  rintro _ u9 ⟨rfl, e9⟩; have e9 := e9.symm; subst e9
  obtain ⟨y, hk2, hy, hyr, hK⟩ := hm
  refine p_aload_n X (dcg dcl_37 7 rfl) rfl rfl ?_
  refine p_aload_n X (dcg dcl_37 8 rfl) rfl rfl ?_
  refine p_iload X (dcg dcl_37 9 rfl) rfl ?_
  refine p_iconst (v := 1) X (dcg dcl_37 10 rfl) (by decide) ?_
  refine p_iadd X (dcg dcl_37 11 rfl) ?_
  refine p_sld X hlx (dcg dcl_37 12 rfl) (vp_of_inb hib.2.1) ?_
  refine p_callV (As := [_]) X ml_L_289 (dcg dcl_37 13 rfl) rfl rfl hk2 (wX12_scoreAt hG hy) (by decide) (room4 (Nat.le_of_ble_eq_true rfl)) (Nat.le_trans (Nat.le_of_eq (Nat.add_zero _)) hc) (Nat.le_trans (Nat.le_of_eq (Nat.add_zero _)) hs) ?_
  rintro _ u9 ⟨rfl, e9⟩; have e9 := e9.symm; subst e9
  refine p_icmp_eq (tgt := 3150) X (dcg dcl_37 14 rfl) (by decide) (fun q => ?_) (fun q => ?_)
  · refine p_pick [0, 1, 2, 3, 4, 5] ?_
    exact hK
  · exact absurd hyr q
theorem dcl_38 : decs code [(2241, .aload_n 1, 1), (2242, .aload_n 0, 1), (2243, .iload 5, 2), (2245, .iconst 1, 1), (2246, .iadd, 1), (2247, .iaload, 1), (2248, .aload_n 3, 1), (2249, .invokestatic 290, 3), (2252, .istore 6, 2), (2254, .aload_n 2, 1), (2255, .aload_n 0, 1), (2256, .iload 5, 2), (2258, .iconst 1, 1), (2259, .iadd, 1), (2260, .iaload, 1), (2261, .invokevirtual 292, 3), (2264, .istore 7, 2), (2266, .aload_n 2, 1), (2267, .invokevirtual 161, 3), (2270, .iload 6, 2), (2272, .if_icmp .eq 5, 3), (2275, .iconst 0, 1), (2276, .ireturn, 1), (2277, .iload 6, 2), (2279, .ifCond .ne 15, 3), (2282, .aload_n 3, 1), (2283, .iconst 0, 1), (2284, .laload, 1), (2285, .iload 7, 2), (2287, .i2l, 1), (2288, .lcmp, 1), (2289, .ifCond .eq 5, 3), (2292, .iconst 0, 1), (2293, .ireturn, 1), (2294, .goto 856, 3)] = true := by decide +kernel
set_option maxRecDepth 100000 in
theorem lc_38 {E : PE} {p : Program} {l : Launch} {e : Env} {s : State} {m : MethodId} {args : Array Value} {below : List Frame} {meth : Method} {c : Code} {Qf : State → Prop} {MC MS uc us N : Nat} {xs : Nat → Int32} {xa ma oa da : Nat} {i : Int32} {h : PH} (X : Cx E p l e (rmv 840 MC MS) s m args below meth c RL code 10 ret) (hG : Gs E l) (hgn : Gn E) (hlx : LX E s N xs) (hib : IB i N) {r : ((Int32 × PH) ⊕ (Nat × PH))} (hf : fX11_keep xa (xs (Int32.toNatClampNeg (i + (1 : Int32)))) h = some r) (hk : hK h xa = 11) (hko : ∀ z, r = .inl z → hK z.2 oa = 23 ∧ 0 < hN z.2 oa) (hcd : ∀ z, r = .inr z → z.1 = 1) (hc : uc + (xT2 r - hX h) ≤ MC) (hs : us + (vT2 r - hV h) ≤ MS) (hm : ∀ (v : Option Value) (u : PH), ((∃ z : Int32 × PH, r = .inl z ∧ v = some (.int 0) ∧ u = sL z.2 23 oa (Int32.toNatClampNeg 0) (Int32.toInt64 z.1)) ∨ (∃ (z : Nat × PH) (n : Nat), r = .inr z ∧ hX z.2 ≤ n ∧ u = hbump z.2 n ∧ ((z.1 = 1 ∧ v = some (.int 1))))) → ∃ (code : Int32) (y : Int32 × PH), v = some (.int code) ∧ hK u ma = 12 ∧ fX12_keep ma (xs (Int32.toNatClampNeg (i + (1 : Int32)))) u = some y ∧ hK y.2 ma = 12 ∧ fX12_thrown ma y.2 = some code ∧ (code = 0 → hK y.2 oa = 23 ∧ 0 < hN y.2 oa ∧ hL y.2 23 oa (Int32.toNatClampNeg 0) = Int32.toInt64 y.1) ∧ PW E p l e (rmv 840 MC MS) s m args below meth c 10 (uc + (xT2 r - hX h)) (us + (vT2 r - hV h)) Qf y.2 3150 [(0, some (.ref 0)), (1, some (.ref xa)), (2, some (.ref ma)), (3, some (.ref oa)), (4, some (.ref da)), (5, some (.int i))] []) : PW E p l e (rmv 840 MC MS) s m args below meth c 10 uc us Qf h 2241 [(0, some (.ref 0)), (1, some (.ref xa)), (2, some (.ref ma)), (3, some (.ref oa)), (4, some (.ref da)), (5, some (.int i))] [] := by
  refine p_aload_n X (dcg dcl_38 0 rfl) rfl rfl ?_
  refine p_aload_n X (dcg dcl_38 1 rfl) rfl rfl ?_
  refine p_iload X (dcg dcl_38 2 rfl) rfl ?_
  refine p_iconst (v := 1) X (dcg dcl_38 3 rfl) (by decide) ?_
  refine p_iadd X (dcg dcl_38 4 rfl) ?_
  refine p_sld X hlx (dcg dcl_38 5 rfl) (vp_of_inb hib.2.1) ?_
  refine p_aload_n X (dcg dcl_38 6 rfl) rfl rfl ?_
  refine p_callSH (As := [_, _, _]) X mlh_290 (dcg dcl_38 7 rfl) rfl rfl (wL_keep hG hgn hf hk hko hcd) (by decide) (room4 (Nat.le_of_ble_eq_true rfl)) hc hs ?_
  intro v9 u9 hw9
  obtain ⟨code, y, rfl, hk2, hy, hk3, hth, hval, hK⟩ := hm v9 u9 hw9
  refine p_istore X (dcg dcl_38 8 rfl) (by decide) rfl ?_
  refine p_aload_n X (dcg dcl_38 9 rfl) rfl rfl ?_
  refine p_aload_n X (dcg dcl_38 10 rfl) rfl rfl ?_
  refine p_iload X (dcg dcl_38 11 rfl) rfl ?_
  refine p_iconst (v := 1) X (dcg dcl_38 12 rfl) (by decide) ?_
  refine p_iadd X (dcg dcl_38 13 rfl) ?_
  refine p_sld X hlx (dcg dcl_38 14 rfl) (vp_of_inb hib.2.1) ?_
  refine p_callV (As := [_]) X ml_L_292 (dcg dcl_38 15 rfl) rfl rfl hk2 (wX12_keep hG hy) (by decide) (room4 (Nat.le_of_ble_eq_true rfl)) (Nat.le_trans (Nat.le_of_eq (Nat.add_zero _)) hc) (Nat.le_trans (Nat.le_of_eq (Nat.add_zero _)) hs) ?_
  rintro _ u9 ⟨rfl, e9⟩; have e9 := e9.symm; subst e9
  refine p_istore X (dcg dcl_38 16 rfl) (by decide) rfl ?_
  refine p_aload_n X (dcg dcl_38 17 rfl) rfl rfl ?_
  refine p_callV (As := []) X ml_L_161 (dcg dcl_38 18 rfl) rfl rfl hk3 (wX12_thrown hG hth) (by decide) (room4 (Nat.le_of_ble_eq_true rfl)) (Nat.le_trans (Nat.le_of_eq (Nat.add_zero _)) hc) (Nat.le_trans (Nat.le_of_eq (Nat.add_zero _)) hs) ?_
  rintro _ u9 ⟨rfl, e9⟩; have e9 := e9.symm; subst e9
  refine p_iload X (dcg dcl_38 19 rfl) rfl ?_
  refine p_icmp_eq (tgt := 2277) X (dcg dcl_38 20 rfl) (by decide) (fun q => ?_) (fun q => ?_)
  · refine p_iload X (dcg dcl_38 23 rfl) rfl ?_
    refine p_if_ne (tgt := 2294) X (dcg dcl_38 24 rfl) (by decide) (fun q => ?_) (fun q => ?_)
    · refine p_goto (tgt := 3150) X (dcg dcl_38 34 rfl) (by decide) ?_
      refine p_pick [0, 1, 2, 3, 4, 5] ?_
      exact hK
    · obtain ⟨hko2, hln2, hvl⟩ := hval (Decidable.not_not.mp q)
      refine p_aload_n X (dcg dcl_38 25 rfl) rfl rfl ?_
      refine p_iconst (v := 0) X (dcg dcl_38 26 rfl) (by decide) ?_
      refine p_lald X (dcg dcl_38 27 rfl) hko2 (vp_of_inb ⟨by decide, hln2⟩) ?_
      refine p_iload X (dcg dcl_38 28 rfl) rfl ?_
      refine p_i2l X (dcg dcl_38 29 rfl) ?_
      refine p_lcmp X (dcg dcl_38 30 rfl) ?_
      refine p_if_eq (tgt := 2294) X (dcg dcl_38 31 rfl) (by decide) (fun q => ?_) (fun q => ?_)
      · refine p_goto (tgt := 3150) X (dcg dcl_38 34 rfl) (by decide) ?_
        refine p_pick [0, 1, 2, 3, 4, 5] ?_
        exact hK
      · exact absurd (by rw [hvl]; exact lg_cmp_self _) q
  · exact absurd rfl q
theorem dcl_39 : decs code [(2297, .aload_n 1, 1), (2298, .aload_n 0, 1), (2299, .iload 5, 2), (2301, .iconst 1, 1), (2302, .iadd, 1), (2303, .iaload, 1), (2304, .aload_n 0, 1), (2305, .iload 5, 2), (2307, .iconst 2, 1), (2308, .iadd, 1), (2309, .iaload, 1), (2310, .aload_n 3, 1), (2311, .invokestatic 293, 3), (2314, .istore 6, 2), (2316, .aload_n 2, 1), (2317, .aload_n 0, 1), (2318, .iload 5, 2), (2320, .iconst 1, 1), (2321, .iadd, 1), (2322, .iaload, 1), (2323, .aload_n 0, 1), (2324, .iload 5, 2), (2326, .iconst 2, 1), (2327, .iadd, 1), (2328, .iaload, 1), (2329, .invokevirtual 295, 3), (2332, .istore 7, 2), (2334, .aload_n 2, 1), (2335, .invokevirtual 161, 3), (2338, .iload 6, 2), (2340, .if_icmp .eq 5, 3), (2343, .iconst 0, 1), (2344, .ireturn, 1), (2345, .iload 6, 2), (2347, .ifCond .ne 15, 3), (2350, .aload_n 3, 1), (2351, .iconst 0, 1), (2352, .laload, 1), (2353, .iload 7, 2), (2355, .i2l, 1), (2356, .lcmp, 1), (2357, .ifCond .eq 5, 3), (2360, .iconst 0, 1), (2361, .ireturn, 1), (2362, .goto 788, 3)] = true := by decide +kernel
set_option maxRecDepth 100000 in
theorem lc_39 {E : PE} {p : Program} {l : Launch} {e : Env} {s : State} {m : MethodId} {args : Array Value} {below : List Frame} {meth : Method} {c : Code} {Qf : State → Prop} {MC MS uc us N : Nat} {xs : Nat → Int32} {xa ma oa da : Nat} {i : Int32} {h : PH} (X : Cx E p l e (rmv 840 MC MS) s m args below meth c RL code 10 ret) (hG : Gs E l) (hgn : Gn E) (hlx : LX E s N xs) (hib : IB i N) {r : ((Int32 × PH) ⊕ (Nat × PH))} (hf : fX11_keepNot xa (xs (Int32.toNatClampNeg (i + (1 : Int32)))) (xs (Int32.toNatClampNeg (i + (2 : Int32)))) h = some r) (hk : hK h xa = 11) (hko : ∀ z, r = .inl z → hK z.2 oa = 23 ∧ 0 < hN z.2 oa) (hcd : ∀ z, r = .inr z → z.1 = 1 ∨ z.1 = 3) (hc : uc + (xT2 r - hX h) ≤ MC) (hs : us + (vT2 r - hV h) ≤ MS) (hm : ∀ (v : Option Value) (u : PH), ((∃ z : Int32 × PH, r = .inl z ∧ v = some (.int 0) ∧ u = sL z.2 23 oa (Int32.toNatClampNeg 0) (Int32.toInt64 z.1)) ∨ (∃ (z : Nat × PH) (n : Nat), r = .inr z ∧ hX z.2 ≤ n ∧ u = hbump z.2 n ∧ ((z.1 = 1 ∧ v = some (.int 1)) ∨ (z.1 = 3 ∧ v = some (.int 2))))) → ∃ (code : Int32) (y : Int32 × PH), v = some (.int code) ∧ hK u ma = 12 ∧ fX12_keepNot ma (xs (Int32.toNatClampNeg (i + (1 : Int32)))) (xs (Int32.toNatClampNeg (i + (2 : Int32)))) u = some y ∧ hK y.2 ma = 12 ∧ fX12_thrown ma y.2 = some code ∧ (code = 0 → hK y.2 oa = 23 ∧ 0 < hN y.2 oa ∧ hL y.2 23 oa (Int32.toNatClampNeg 0) = Int32.toInt64 y.1) ∧ PW E p l e (rmv 840 MC MS) s m args below meth c 10 (uc + (xT2 r - hX h)) (us + (vT2 r - hV h)) Qf y.2 3150 [(0, some (.ref 0)), (1, some (.ref xa)), (2, some (.ref ma)), (3, some (.ref oa)), (4, some (.ref da)), (5, some (.int i))] []) : PW E p l e (rmv 840 MC MS) s m args below meth c 10 uc us Qf h 2297 [(0, some (.ref 0)), (1, some (.ref xa)), (2, some (.ref ma)), (3, some (.ref oa)), (4, some (.ref da)), (5, some (.int i))] [] := by
  refine p_aload_n X (dcg dcl_39 0 rfl) rfl rfl ?_
  refine p_aload_n X (dcg dcl_39 1 rfl) rfl rfl ?_
  refine p_iload X (dcg dcl_39 2 rfl) rfl ?_
  refine p_iconst (v := 1) X (dcg dcl_39 3 rfl) (by decide) ?_
  refine p_iadd X (dcg dcl_39 4 rfl) ?_
  refine p_sld X hlx (dcg dcl_39 5 rfl) (vp_of_inb hib.2.1) ?_
  refine p_aload_n X (dcg dcl_39 6 rfl) rfl rfl ?_
  refine p_iload X (dcg dcl_39 7 rfl) rfl ?_
  refine p_iconst (v := 2) X (dcg dcl_39 8 rfl) (by decide) ?_
  refine p_iadd X (dcg dcl_39 9 rfl) ?_
  refine p_sld X hlx (dcg dcl_39 10 rfl) (vp_of_inb hib.2.2.1) ?_
  refine p_aload_n X (dcg dcl_39 11 rfl) rfl rfl ?_
  refine p_callSH (As := [_, _, _, _]) X mlh_293 (dcg dcl_39 12 rfl) rfl rfl (wL_keepNot hG hgn hf hk hko hcd) (by decide) (room4 (Nat.le_of_ble_eq_true rfl)) hc hs ?_
  intro v9 u9 hw9
  obtain ⟨code, y, rfl, hk2, hy, hk3, hth, hval, hK⟩ := hm v9 u9 hw9
  refine p_istore X (dcg dcl_39 13 rfl) (by decide) rfl ?_
  refine p_aload_n X (dcg dcl_39 14 rfl) rfl rfl ?_
  refine p_aload_n X (dcg dcl_39 15 rfl) rfl rfl ?_
  refine p_iload X (dcg dcl_39 16 rfl) rfl ?_
  refine p_iconst (v := 1) X (dcg dcl_39 17 rfl) (by decide) ?_
  refine p_iadd X (dcg dcl_39 18 rfl) ?_
  refine p_sld X hlx (dcg dcl_39 19 rfl) (vp_of_inb hib.2.1) ?_
  refine p_aload_n X (dcg dcl_39 20 rfl) rfl rfl ?_
  refine p_iload X (dcg dcl_39 21 rfl) rfl ?_
  refine p_iconst (v := 2) X (dcg dcl_39 22 rfl) (by decide) ?_
  refine p_iadd X (dcg dcl_39 23 rfl) ?_
  refine p_sld X hlx (dcg dcl_39 24 rfl) (vp_of_inb hib.2.2.1) ?_
  refine p_callV (As := [_, _]) X ml_L_295 (dcg dcl_39 25 rfl) rfl rfl hk2 (wX12_keepNot hG hy) (by decide) (room4 (Nat.le_of_ble_eq_true rfl)) (Nat.le_trans (Nat.le_of_eq (Nat.add_zero _)) hc) (Nat.le_trans (Nat.le_of_eq (Nat.add_zero _)) hs) ?_
  rintro _ u9 ⟨rfl, e9⟩; have e9 := e9.symm; subst e9
  refine p_istore X (dcg dcl_39 26 rfl) (by decide) rfl ?_
  refine p_aload_n X (dcg dcl_39 27 rfl) rfl rfl ?_
  refine p_callV (As := []) X ml_L_161 (dcg dcl_39 28 rfl) rfl rfl hk3 (wX12_thrown hG hth) (by decide) (room4 (Nat.le_of_ble_eq_true rfl)) (Nat.le_trans (Nat.le_of_eq (Nat.add_zero _)) hc) (Nat.le_trans (Nat.le_of_eq (Nat.add_zero _)) hs) ?_
  rintro _ u9 ⟨rfl, e9⟩; have e9 := e9.symm; subst e9
  refine p_iload X (dcg dcl_39 29 rfl) rfl ?_
  refine p_icmp_eq (tgt := 2345) X (dcg dcl_39 30 rfl) (by decide) (fun q => ?_) (fun q => ?_)
  · refine p_iload X (dcg dcl_39 33 rfl) rfl ?_
    refine p_if_ne (tgt := 2362) X (dcg dcl_39 34 rfl) (by decide) (fun q => ?_) (fun q => ?_)
    · refine p_goto (tgt := 3150) X (dcg dcl_39 44 rfl) (by decide) ?_
      refine p_pick [0, 1, 2, 3, 4, 5] ?_
      exact hK
    · obtain ⟨hko2, hln2, hvl⟩ := hval (Decidable.not_not.mp q)
      refine p_aload_n X (dcg dcl_39 35 rfl) rfl rfl ?_
      refine p_iconst (v := 0) X (dcg dcl_39 36 rfl) (by decide) ?_
      refine p_lald X (dcg dcl_39 37 rfl) hko2 (vp_of_inb ⟨by decide, hln2⟩) ?_
      refine p_iload X (dcg dcl_39 38 rfl) rfl ?_
      refine p_i2l X (dcg dcl_39 39 rfl) ?_
      refine p_lcmp X (dcg dcl_39 40 rfl) ?_
      refine p_if_eq (tgt := 2362) X (dcg dcl_39 41 rfl) (by decide) (fun q => ?_) (fun q => ?_)
      · refine p_goto (tgt := 3150) X (dcg dcl_39 44 rfl) (by decide) ?_
        refine p_pick [0, 1, 2, 3, 4, 5] ?_
        exact hK
      · exact absurd (by rw [hvl]; exact lg_cmp_self _) q
  · exact absurd rfl q
theorem dcl_40 : decs code [(2365, .aload_n 1, 1), (2366, .aload_n 0, 1), (2367, .iload 5, 2), (2369, .iconst 1, 1), (2370, .iadd, 1), (2371, .iaload, 1), (2372, .aload_n 3, 1), (2373, .invokestatic 296, 3), (2376, .istore 6, 2), (2378, .aload_n 2, 1), (2379, .aload_n 0, 1), (2380, .iload 5, 2), (2382, .iconst 1, 1), (2383, .iadd, 1), (2384, .iaload, 1), (2385, .invokevirtual 298, 3), (2388, .istore 7, 2), (2390, .aload_n 2, 1), (2391, .invokevirtual 161, 3), (2394, .iload 6, 2), (2396, .if_icmp .eq 5, 3), (2399, .iconst 0, 1), (2400, .ireturn, 1), (2401, .iload 6, 2), (2403, .ifCond .ne 22, 3), (2406, .aload_n 3, 1), (2407, .iconst 0, 1), (2408, .laload, 1), (2409, .iload 7, 2), (2411, .ifCond .eq 7, 3), (2414, .lconst 1, 1), (2415, .goto 4, 3), (2418, .lconst 0, 1), (2419, .lcmp, 1), (2420, .ifCond .eq 5, 3), (2423, .iconst 0, 1), (2424, .ireturn, 1), (2425, .goto 725, 3)] = true := by decide +kernel
set_option maxRecDepth 100000 in
theorem lc_40 {E : PE} {p : Program} {l : Launch} {e : Env} {s : State} {m : MethodId} {args : Array Value} {below : List Frame} {meth : Method} {c : Code} {Qf : State → Prop} {MC MS uc us N : Nat} {xs : Nat → Int32} {xa ma oa da : Nat} {i : Int32} {h : PH} (X : Cx E p l e (rmv 840 MC MS) s m args below meth c RL code 10 ret) (hG : Gs E l) (hgn : Gn E) (hlx : LX E s N xs) (hib : IB i N) {r : ((Int32 × PH) ⊕ (Nat × PH))} (hf : fX11_drop xa (xs (Int32.toNatClampNeg (i + (1 : Int32)))) h = some r) (hk : hK h xa = 11) (hko : ∀ z, r = .inl z → hK z.2 oa = 23 ∧ 0 < hN z.2 oa) (hcd : ∀ z, r = .inr z → z.1 = 1) (hc : uc + (xT2 r - hX h) ≤ MC) (hs : us + (vT2 r - hV h) ≤ MS) (hm : ∀ (v : Option Value) (u : PH), ((∃ z : Int32 × PH, r = .inl z ∧ v = some (.int 0) ∧ u = sL z.2 23 oa (Int32.toNatClampNeg 0) (if z.1 = 0 then (0 : Int64) else 1)) ∨ (∃ (z : Nat × PH) (n : Nat), r = .inr z ∧ hX z.2 ≤ n ∧ u = hbump z.2 n ∧ ((z.1 = 1 ∧ v = some (.int 1))))) → ∃ (code : Int32) (y : Int32 × PH), v = some (.int code) ∧ hK u ma = 12 ∧ fX12_drop ma (xs (Int32.toNatClampNeg (i + (1 : Int32)))) u = some y ∧ hK y.2 ma = 12 ∧ fX12_thrown ma y.2 = some code ∧ (code = 0 → hK y.2 oa = 23 ∧ 0 < hN y.2 oa ∧ hL y.2 23 oa (Int32.toNatClampNeg 0) = (if y.1 = 0 then (0 : Int64) else 1)) ∧ PW E p l e (rmv 840 MC MS) s m args below meth c 10 (uc + (xT2 r - hX h)) (us + (vT2 r - hV h)) Qf y.2 3150 [(0, some (.ref 0)), (1, some (.ref xa)), (2, some (.ref ma)), (3, some (.ref oa)), (4, some (.ref da)), (5, some (.int i))] []) : PW E p l e (rmv 840 MC MS) s m args below meth c 10 uc us Qf h 2365 [(0, some (.ref 0)), (1, some (.ref xa)), (2, some (.ref ma)), (3, some (.ref oa)), (4, some (.ref da)), (5, some (.int i))] [] := by
  refine p_aload_n X (dcg dcl_40 0 rfl) rfl rfl ?_
  refine p_aload_n X (dcg dcl_40 1 rfl) rfl rfl ?_
  refine p_iload X (dcg dcl_40 2 rfl) rfl ?_
  refine p_iconst (v := 1) X (dcg dcl_40 3 rfl) (by decide) ?_
  refine p_iadd X (dcg dcl_40 4 rfl) ?_
  refine p_sld X hlx (dcg dcl_40 5 rfl) (vp_of_inb hib.2.1) ?_
  refine p_aload_n X (dcg dcl_40 6 rfl) rfl rfl ?_
  refine p_callSH (As := [_, _, _]) X mlh_296 (dcg dcl_40 7 rfl) rfl rfl (wL_drop hG hgn hf hk hko hcd) (by decide) (room4 (Nat.le_of_ble_eq_true rfl)) hc hs ?_
  intro v9 u9 hw9
  obtain ⟨code, y, rfl, hk2, hy, hk3, hth, hval, hK⟩ := hm v9 u9 hw9
  refine p_istore X (dcg dcl_40 8 rfl) (by decide) rfl ?_
  refine p_aload_n X (dcg dcl_40 9 rfl) rfl rfl ?_
  refine p_aload_n X (dcg dcl_40 10 rfl) rfl rfl ?_
  refine p_iload X (dcg dcl_40 11 rfl) rfl ?_
  refine p_iconst (v := 1) X (dcg dcl_40 12 rfl) (by decide) ?_
  refine p_iadd X (dcg dcl_40 13 rfl) ?_
  refine p_sld X hlx (dcg dcl_40 14 rfl) (vp_of_inb hib.2.1) ?_
  refine p_callV (As := [_]) X ml_L_298 (dcg dcl_40 15 rfl) rfl rfl hk2 (wX12_drop hG hy) (by decide) (room4 (Nat.le_of_ble_eq_true rfl)) (Nat.le_trans (Nat.le_of_eq (Nat.add_zero _)) hc) (Nat.le_trans (Nat.le_of_eq (Nat.add_zero _)) hs) ?_
  rintro _ u9 ⟨rfl, e9⟩; have e9 := e9.symm; subst e9
  refine p_istore X (dcg dcl_40 16 rfl) (by decide) rfl ?_
  refine p_aload_n X (dcg dcl_40 17 rfl) rfl rfl ?_
  refine p_callV (As := []) X ml_L_161 (dcg dcl_40 18 rfl) rfl rfl hk3 (wX12_thrown hG hth) (by decide) (room4 (Nat.le_of_ble_eq_true rfl)) (Nat.le_trans (Nat.le_of_eq (Nat.add_zero _)) hc) (Nat.le_trans (Nat.le_of_eq (Nat.add_zero _)) hs) ?_
  rintro _ u9 ⟨rfl, e9⟩; have e9 := e9.symm; subst e9
  refine p_iload X (dcg dcl_40 19 rfl) rfl ?_
  refine p_icmp_eq (tgt := 2401) X (dcg dcl_40 20 rfl) (by decide) (fun q => ?_) (fun q => ?_)
  · refine p_iload X (dcg dcl_40 23 rfl) rfl ?_
    refine p_if_ne (tgt := 2425) X (dcg dcl_40 24 rfl) (by decide) (fun q => ?_) (fun q => ?_)
    · refine p_goto (tgt := 3150) X (dcg dcl_40 37 rfl) (by decide) ?_
      refine p_pick [0, 1, 2, 3, 4, 5] ?_
      exact hK
    · obtain ⟨hko2, hln2, hvl⟩ := hval (Decidable.not_not.mp q)
      refine p_aload_n X (dcg dcl_40 25 rfl) rfl rfl ?_
      refine p_iconst (v := 0) X (dcg dcl_40 26 rfl) (by decide) ?_
      refine p_lald X (dcg dcl_40 27 rfl) hko2 (vp_of_inb ⟨by decide, hln2⟩) ?_
      refine p_iload X (dcg dcl_40 28 rfl) rfl ?_
      refine p_if_eq (tgt := 2418) X (dcg dcl_40 29 rfl) (by decide) (fun qb => ?_) (fun qb => ?_)
      · refine p_lconst (v := 0) X (dcg dcl_40 32 rfl) (by decide) ?_
        refine p_lcmp X (dcg dcl_40 33 rfl) ?_
        refine p_if_eq (tgt := 2425) X (dcg dcl_40 34 rfl) (by decide) (fun q => ?_) (fun q => ?_)
        · refine p_goto (tgt := 3150) X (dcg dcl_40 37 rfl) (by decide) ?_
          refine p_pick [0, 1, 2, 3, 4, 5] ?_
          exact hK
        · exact absurd (by rw [hvl]; rw [if_pos qb]; exact lg_cmp_self _) q
      · refine p_lconst (v := 1) X (dcg dcl_40 30 rfl) (by decide) ?_
        refine p_goto (tgt := 2419) X (dcg dcl_40 31 rfl) (by decide) ?_
        refine p_lcmp X (dcg dcl_40 33 rfl) ?_
        refine p_if_eq (tgt := 2425) X (dcg dcl_40 34 rfl) (by decide) (fun q => ?_) (fun q => ?_)
        · refine p_goto (tgt := 3150) X (dcg dcl_40 37 rfl) (by decide) ?_
          refine p_pick [0, 1, 2, 3, 4, 5] ?_
          exact hK
        · exact absurd (by rw [hvl]; rw [if_neg qb]; exact lg_cmp_self _) q
  · exact absurd rfl q
theorem dcl_41 : decs code [(2428, .aload_n 1, 1), (2429, .aload_n 0, 1), (2430, .iload 5, 2), (2432, .iconst 1, 1), (2433, .iadd, 1), (2434, .iaload, 1), (2435, .aload_n 3, 1), (2436, .invokestatic 299, 3), (2439, .istore 6, 2), (2441, .aload_n 2, 1), (2442, .aload_n 0, 1), (2443, .iload 5, 2), (2445, .iconst 1, 1), (2446, .iadd, 1), (2447, .iaload, 1), (2448, .invokevirtual 301, 3), (2451, .istore 7, 2), (2453, .aload_n 2, 1), (2454, .invokevirtual 161, 3), (2457, .iload 6, 2), (2459, .if_icmp .eq 5, 3), (2462, .iconst 0, 1), (2463, .ireturn, 1), (2464, .iload 6, 2), (2466, .ifCond .ne 15, 3), (2469, .aload_n 3, 1), (2470, .iconst 0, 1), (2471, .laload, 1), (2472, .iload 7, 2), (2474, .i2l, 1), (2475, .lcmp, 1), (2476, .ifCond .eq 5, 3), (2479, .iconst 0, 1), (2480, .ireturn, 1), (2481, .goto 669, 3)] = true := by decide +kernel
set_option maxRecDepth 100000 in
theorem lc_41 {E : PE} {p : Program} {l : Launch} {e : Env} {s : State} {m : MethodId} {args : Array Value} {below : List Frame} {meth : Method} {c : Code} {Qf : State → Prop} {MC MS uc us N : Nat} {xs : Nat → Int32} {xa ma oa da : Nat} {i : Int32} {h : PH} (X : Cx E p l e (rmv 840 MC MS) s m args below meth c RL code 10 ret) (hG : Gs E l) (hgn : Gn E) (hlx : LX E s N xs) (hib : IB i N) {r : ((Int32 × PH) ⊕ (Nat × PH))} (hf : fX11_parts xa (xs (Int32.toNatClampNeg (i + (1 : Int32)))) h = some r) (hk : hK h xa = 11) (hko : ∀ z, r = .inl z → hK z.2 oa = 23 ∧ 0 < hN z.2 oa) (hcd : ∀ z, r = .inr z → z.1 = 1 ∨ z.1 = 3) (hc : uc + (xT2 r - hX h) ≤ MC) (hs : us + (vT2 r - hV h) ≤ MS) (hm : ∀ (v : Option Value) (u : PH), ((∃ z : Int32 × PH, r = .inl z ∧ v = some (.int 0) ∧ u = sL z.2 23 oa (Int32.toNatClampNeg 0) (Int32.toInt64 z.1)) ∨ (∃ (z : Nat × PH) (n : Nat), r = .inr z ∧ hX z.2 ≤ n ∧ u = hbump z.2 n ∧ ((z.1 = 1 ∧ v = some (.int 1)) ∨ (z.1 = 3 ∧ v = some (.int 2))))) → ∃ (code : Int32) (y : Int32 × PH), v = some (.int code) ∧ hK u ma = 12 ∧ fX12_parts ma (xs (Int32.toNatClampNeg (i + (1 : Int32)))) u = some y ∧ hK y.2 ma = 12 ∧ fX12_thrown ma y.2 = some code ∧ (code = 0 → hK y.2 oa = 23 ∧ 0 < hN y.2 oa ∧ hL y.2 23 oa (Int32.toNatClampNeg 0) = Int32.toInt64 y.1) ∧ PW E p l e (rmv 840 MC MS) s m args below meth c 10 (uc + (xT2 r - hX h)) (us + (vT2 r - hV h)) Qf y.2 3150 [(0, some (.ref 0)), (1, some (.ref xa)), (2, some (.ref ma)), (3, some (.ref oa)), (4, some (.ref da)), (5, some (.int i))] []) : PW E p l e (rmv 840 MC MS) s m args below meth c 10 uc us Qf h 2428 [(0, some (.ref 0)), (1, some (.ref xa)), (2, some (.ref ma)), (3, some (.ref oa)), (4, some (.ref da)), (5, some (.int i))] [] := by
  refine p_aload_n X (dcg dcl_41 0 rfl) rfl rfl ?_
  refine p_aload_n X (dcg dcl_41 1 rfl) rfl rfl ?_
  refine p_iload X (dcg dcl_41 2 rfl) rfl ?_
  refine p_iconst (v := 1) X (dcg dcl_41 3 rfl) (by decide) ?_
  refine p_iadd X (dcg dcl_41 4 rfl) ?_
  refine p_sld X hlx (dcg dcl_41 5 rfl) (vp_of_inb hib.2.1) ?_
  refine p_aload_n X (dcg dcl_41 6 rfl) rfl rfl ?_
  refine p_callSH (As := [_, _, _]) X mlh_299 (dcg dcl_41 7 rfl) rfl rfl (wL_parts hG hgn hf hk hko hcd) (by decide) (room4 (Nat.le_of_ble_eq_true rfl)) hc hs ?_
  intro v9 u9 hw9
  obtain ⟨code, y, rfl, hk2, hy, hk3, hth, hval, hK⟩ := hm v9 u9 hw9
  refine p_istore X (dcg dcl_41 8 rfl) (by decide) rfl ?_
  refine p_aload_n X (dcg dcl_41 9 rfl) rfl rfl ?_
  refine p_aload_n X (dcg dcl_41 10 rfl) rfl rfl ?_
  refine p_iload X (dcg dcl_41 11 rfl) rfl ?_
  refine p_iconst (v := 1) X (dcg dcl_41 12 rfl) (by decide) ?_
  refine p_iadd X (dcg dcl_41 13 rfl) ?_
  refine p_sld X hlx (dcg dcl_41 14 rfl) (vp_of_inb hib.2.1) ?_
  refine p_callV (As := [_]) X ml_L_301 (dcg dcl_41 15 rfl) rfl rfl hk2 (wX12_parts hG hy) (by decide) (room4 (Nat.le_of_ble_eq_true rfl)) (Nat.le_trans (Nat.le_of_eq (Nat.add_zero _)) hc) (Nat.le_trans (Nat.le_of_eq (Nat.add_zero _)) hs) ?_
  rintro _ u9 ⟨rfl, e9⟩; have e9 := e9.symm; subst e9
  refine p_istore X (dcg dcl_41 16 rfl) (by decide) rfl ?_
  refine p_aload_n X (dcg dcl_41 17 rfl) rfl rfl ?_
  refine p_callV (As := []) X ml_L_161 (dcg dcl_41 18 rfl) rfl rfl hk3 (wX12_thrown hG hth) (by decide) (room4 (Nat.le_of_ble_eq_true rfl)) (Nat.le_trans (Nat.le_of_eq (Nat.add_zero _)) hc) (Nat.le_trans (Nat.le_of_eq (Nat.add_zero _)) hs) ?_
  rintro _ u9 ⟨rfl, e9⟩; have e9 := e9.symm; subst e9
  refine p_iload X (dcg dcl_41 19 rfl) rfl ?_
  refine p_icmp_eq (tgt := 2464) X (dcg dcl_41 20 rfl) (by decide) (fun q => ?_) (fun q => ?_)
  · refine p_iload X (dcg dcl_41 23 rfl) rfl ?_
    refine p_if_ne (tgt := 2481) X (dcg dcl_41 24 rfl) (by decide) (fun q => ?_) (fun q => ?_)
    · refine p_goto (tgt := 3150) X (dcg dcl_41 34 rfl) (by decide) ?_
      refine p_pick [0, 1, 2, 3, 4, 5] ?_
      exact hK
    · obtain ⟨hko2, hln2, hvl⟩ := hval (Decidable.not_not.mp q)
      refine p_aload_n X (dcg dcl_41 25 rfl) rfl rfl ?_
      refine p_iconst (v := 0) X (dcg dcl_41 26 rfl) (by decide) ?_
      refine p_lald X (dcg dcl_41 27 rfl) hko2 (vp_of_inb ⟨by decide, hln2⟩) ?_
      refine p_iload X (dcg dcl_41 28 rfl) rfl ?_
      refine p_i2l X (dcg dcl_41 29 rfl) ?_
      refine p_lcmp X (dcg dcl_41 30 rfl) ?_
      refine p_if_eq (tgt := 2481) X (dcg dcl_41 31 rfl) (by decide) (fun q => ?_) (fun q => ?_)
      · refine p_goto (tgt := 3150) X (dcg dcl_41 34 rfl) (by decide) ?_
        refine p_pick [0, 1, 2, 3, 4, 5] ?_
        exact hK
      · exact absurd (by rw [hvl]; exact lg_cmp_self _) q
  · exact absurd rfl q
theorem dcl_42 : decs code [(2484, .aload_n 1, 1), (2485, .aload_n 0, 1), (2486, .iload 5, 2), (2488, .iconst 1, 1), (2489, .iadd, 1), (2490, .iaload, 1), (2491, .aload_n 0, 1), (2492, .iload 5, 2), (2494, .iconst 2, 1), (2495, .iadd, 1), (2496, .iaload, 1), (2497, .aload_n 3, 1), (2498, .invokestatic 302, 3), (2501, .istore 6, 2), (2503, .aload_n 2, 1), (2504, .aload_n 0, 1), (2505, .iload 5, 2), (2507, .iconst 1, 1), (2508, .iadd, 1), (2509, .iaload, 1), (2510, .aload_n 0, 1), (2511, .iload 5, 2), (2513, .iconst 2, 1), (2514, .iadd, 1), (2515, .iaload, 1), (2516, .invokevirtual 304, 3), (2519, .istore 7, 2), (2521, .aload_n 2, 1), (2522, .invokevirtual 161, 3), (2525, .iload 6, 2), (2527, .if_icmp .eq 5, 3), (2530, .iconst 0, 1), (2531, .ireturn, 1), (2532, .iload 6, 2), (2534, .ifCond .ne 15, 3), (2537, .aload_n 3, 1), (2538, .iconst 0, 1), (2539, .laload, 1), (2540, .iload 7, 2), (2542, .i2l, 1), (2543, .lcmp, 1), (2544, .ifCond .eq 5, 3), (2547, .iconst 0, 1), (2548, .ireturn, 1), (2549, .goto 601, 3)] = true := by decide +kernel
set_option maxRecDepth 100000 in
theorem lc_42 {E : PE} {p : Program} {l : Launch} {e : Env} {s : State} {m : MethodId} {args : Array Value} {below : List Frame} {meth : Method} {c : Code} {Qf : State → Prop} {MC MS uc us N : Nat} {xs : Nat → Int32} {xa ma oa da : Nat} {i : Int32} {h : PH} (X : Cx E p l e (rmv 840 MC MS) s m args below meth c RL code 10 ret) (hG : Gs E l) (hgn : Gn E) (hlx : LX E s N xs) (hib : IB i N) {r : ((Int32 × PH) ⊕ (Nat × PH))} (hf : fX11_partFound xa (xs (Int32.toNatClampNeg (i + (1 : Int32)))) (xs (Int32.toNatClampNeg (i + (2 : Int32)))) h = some r) (hk : hK h xa = 11) (hko : ∀ z, r = .inl z → hK z.2 oa = 23 ∧ 0 < hN z.2 oa) (hcd : ∀ z, r = .inr z → z.1 = 1 ∨ z.1 = 3 ∨ z.1 = 2) (hc : uc + (xT2 r - hX h) ≤ MC) (hs : us + (vT2 r - hV h) ≤ MS) (hm : ∀ (v : Option Value) (u : PH), ((∃ z : Int32 × PH, r = .inl z ∧ v = some (.int 0) ∧ u = sL z.2 23 oa (Int32.toNatClampNeg 0) (Int32.toInt64 z.1)) ∨ (∃ (z : Nat × PH) (n : Nat), r = .inr z ∧ hX z.2 ≤ n ∧ u = hbump z.2 n ∧ ((z.1 = 1 ∧ v = some (.int 1)) ∨ (z.1 = 3 ∧ v = some (.int 2)) ∨ (z.1 = 2 ∧ v = some (.int 3))))) → ∃ (code : Int32) (y : Int32 × PH), v = some (.int code) ∧ hK u ma = 12 ∧ fX12_partFound ma (xs (Int32.toNatClampNeg (i + (1 : Int32)))) (xs (Int32.toNatClampNeg (i + (2 : Int32)))) u = some y ∧ hK y.2 ma = 12 ∧ fX12_thrown ma y.2 = some code ∧ (code = 0 → hK y.2 oa = 23 ∧ 0 < hN y.2 oa ∧ hL y.2 23 oa (Int32.toNatClampNeg 0) = Int32.toInt64 y.1) ∧ PW E p l e (rmv 840 MC MS) s m args below meth c 10 (uc + (xT2 r - hX h)) (us + (vT2 r - hV h)) Qf y.2 3150 [(0, some (.ref 0)), (1, some (.ref xa)), (2, some (.ref ma)), (3, some (.ref oa)), (4, some (.ref da)), (5, some (.int i))] []) : PW E p l e (rmv 840 MC MS) s m args below meth c 10 uc us Qf h 2484 [(0, some (.ref 0)), (1, some (.ref xa)), (2, some (.ref ma)), (3, some (.ref oa)), (4, some (.ref da)), (5, some (.int i))] [] := by
  refine p_aload_n X (dcg dcl_42 0 rfl) rfl rfl ?_
  refine p_aload_n X (dcg dcl_42 1 rfl) rfl rfl ?_
  refine p_iload X (dcg dcl_42 2 rfl) rfl ?_
  refine p_iconst (v := 1) X (dcg dcl_42 3 rfl) (by decide) ?_
  refine p_iadd X (dcg dcl_42 4 rfl) ?_
  refine p_sld X hlx (dcg dcl_42 5 rfl) (vp_of_inb hib.2.1) ?_
  refine p_aload_n X (dcg dcl_42 6 rfl) rfl rfl ?_
  refine p_iload X (dcg dcl_42 7 rfl) rfl ?_
  refine p_iconst (v := 2) X (dcg dcl_42 8 rfl) (by decide) ?_
  refine p_iadd X (dcg dcl_42 9 rfl) ?_
  refine p_sld X hlx (dcg dcl_42 10 rfl) (vp_of_inb hib.2.2.1) ?_
  refine p_aload_n X (dcg dcl_42 11 rfl) rfl rfl ?_
  refine p_callSH (As := [_, _, _, _]) X mlh_302 (dcg dcl_42 12 rfl) rfl rfl (wL_partFound hG hgn hf hk hko hcd) (by decide) (room4 (Nat.le_of_ble_eq_true rfl)) hc hs ?_
  intro v9 u9 hw9
  obtain ⟨code, y, rfl, hk2, hy, hk3, hth, hval, hK⟩ := hm v9 u9 hw9
  refine p_istore X (dcg dcl_42 13 rfl) (by decide) rfl ?_
  refine p_aload_n X (dcg dcl_42 14 rfl) rfl rfl ?_
  refine p_aload_n X (dcg dcl_42 15 rfl) rfl rfl ?_
  refine p_iload X (dcg dcl_42 16 rfl) rfl ?_
  refine p_iconst (v := 1) X (dcg dcl_42 17 rfl) (by decide) ?_
  refine p_iadd X (dcg dcl_42 18 rfl) ?_
  refine p_sld X hlx (dcg dcl_42 19 rfl) (vp_of_inb hib.2.1) ?_
  refine p_aload_n X (dcg dcl_42 20 rfl) rfl rfl ?_
  refine p_iload X (dcg dcl_42 21 rfl) rfl ?_
  refine p_iconst (v := 2) X (dcg dcl_42 22 rfl) (by decide) ?_
  refine p_iadd X (dcg dcl_42 23 rfl) ?_
  refine p_sld X hlx (dcg dcl_42 24 rfl) (vp_of_inb hib.2.2.1) ?_
  refine p_callV (As := [_, _]) X ml_L_304 (dcg dcl_42 25 rfl) rfl rfl hk2 (wX12_partFound hG hy) (by decide) (room4 (Nat.le_of_ble_eq_true rfl)) (Nat.le_trans (Nat.le_of_eq (Nat.add_zero _)) hc) (Nat.le_trans (Nat.le_of_eq (Nat.add_zero _)) hs) ?_
  rintro _ u9 ⟨rfl, e9⟩; have e9 := e9.symm; subst e9
  refine p_istore X (dcg dcl_42 26 rfl) (by decide) rfl ?_
  refine p_aload_n X (dcg dcl_42 27 rfl) rfl rfl ?_
  refine p_callV (As := []) X ml_L_161 (dcg dcl_42 28 rfl) rfl rfl hk3 (wX12_thrown hG hth) (by decide) (room4 (Nat.le_of_ble_eq_true rfl)) (Nat.le_trans (Nat.le_of_eq (Nat.add_zero _)) hc) (Nat.le_trans (Nat.le_of_eq (Nat.add_zero _)) hs) ?_
  rintro _ u9 ⟨rfl, e9⟩; have e9 := e9.symm; subst e9
  refine p_iload X (dcg dcl_42 29 rfl) rfl ?_
  refine p_icmp_eq (tgt := 2532) X (dcg dcl_42 30 rfl) (by decide) (fun q => ?_) (fun q => ?_)
  · refine p_iload X (dcg dcl_42 33 rfl) rfl ?_
    refine p_if_ne (tgt := 2549) X (dcg dcl_42 34 rfl) (by decide) (fun q => ?_) (fun q => ?_)
    · refine p_goto (tgt := 3150) X (dcg dcl_42 44 rfl) (by decide) ?_
      refine p_pick [0, 1, 2, 3, 4, 5] ?_
      exact hK
    · obtain ⟨hko2, hln2, hvl⟩ := hval (Decidable.not_not.mp q)
      refine p_aload_n X (dcg dcl_42 35 rfl) rfl rfl ?_
      refine p_iconst (v := 0) X (dcg dcl_42 36 rfl) (by decide) ?_
      refine p_lald X (dcg dcl_42 37 rfl) hko2 (vp_of_inb ⟨by decide, hln2⟩) ?_
      refine p_iload X (dcg dcl_42 38 rfl) rfl ?_
      refine p_i2l X (dcg dcl_42 39 rfl) ?_
      refine p_lcmp X (dcg dcl_42 40 rfl) ?_
      refine p_if_eq (tgt := 2549) X (dcg dcl_42 41 rfl) (by decide) (fun q => ?_) (fun q => ?_)
      · refine p_goto (tgt := 3150) X (dcg dcl_42 44 rfl) (by decide) ?_
        refine p_pick [0, 1, 2, 3, 4, 5] ?_
        exact hK
      · exact absurd (by rw [hvl]; exact lg_cmp_self _) q
  · exact absurd rfl q
theorem dcl_43 : decs code [(2552, .aload_n 1, 1), (2553, .aload_n 0, 1), (2554, .iload 5, 2), (2556, .iconst 1, 1), (2557, .iadd, 1), (2558, .iaload, 1), (2559, .aload_n 3, 1), (2560, .invokestatic 305, 3), (2563, .istore 6, 2), (2565, .aload_n 2, 1), (2566, .aload_n 0, 1), (2567, .iload 5, 2), (2569, .iconst 1, 1), (2570, .iadd, 1), (2571, .iaload, 1), (2572, .invokevirtual 307, 3), (2575, .istore 7, 2), (2577, .aload_n 2, 1), (2578, .invokevirtual 161, 3), (2581, .iload 6, 2), (2583, .if_icmp .eq 5, 3), (2586, .iconst 0, 1), (2587, .ireturn, 1), (2588, .iload 6, 2), (2590, .ifCond .ne 15, 3), (2593, .aload_n 3, 1), (2594, .iconst 0, 1), (2595, .laload, 1), (2596, .iload 7, 2), (2598, .i2l, 1), (2599, .lcmp, 1), (2600, .ifCond .eq 5, 3), (2603, .iconst 0, 1), (2604, .ireturn, 1), (2605, .goto 545, 3)] = true := by decide +kernel
set_option maxRecDepth 100000 in
theorem lc_43 {E : PE} {p : Program} {l : Launch} {e : Env} {s : State} {m : MethodId} {args : Array Value} {below : List Frame} {meth : Method} {c : Code} {Qf : State → Prop} {MC MS uc us N : Nat} {xs : Nat → Int32} {xa ma oa da : Nat} {i : Int32} {h : PH} (X : Cx E p l e (rmv 840 MC MS) s m args below meth c RL code 10 ret) (hG : Gs E l) (hgn : Gn E) (hlx : LX E s N xs) (hib : IB i N) {r : ((Int32 × PH) ⊕ (Nat × PH))} (hf : fX11_write xa (xs (Int32.toNatClampNeg (i + (1 : Int32)))) h = some r) (hk : hK h xa = 11) (hko : ∀ z, r = .inl z → hK z.2 oa = 23 ∧ 0 < hN z.2 oa) (hcd : ∀ z, r = .inr z → z.1 = 1 ∨ z.1 = 3) (hc : uc + (xT2 r - hX h) ≤ MC) (hs : us + (vT2 r - hV h) ≤ MS) (hm : ∀ (v : Option Value) (u : PH), ((∃ z : Int32 × PH, r = .inl z ∧ v = some (.int 0) ∧ u = sL z.2 23 oa (Int32.toNatClampNeg 0) (Int32.toInt64 z.1)) ∨ (∃ (z : Nat × PH) (n : Nat), r = .inr z ∧ hX z.2 ≤ n ∧ u = hbump z.2 n ∧ ((z.1 = 1 ∧ v = some (.int 1)) ∨ (z.1 = 3 ∧ v = some (.int 2))))) → ∃ (code : Int32) (y : Int32 × PH), v = some (.int code) ∧ hK u ma = 12 ∧ fX12_write ma (xs (Int32.toNatClampNeg (i + (1 : Int32)))) u = some y ∧ hK y.2 ma = 12 ∧ fX12_thrown ma y.2 = some code ∧ (code = 0 → hK y.2 oa = 23 ∧ 0 < hN y.2 oa ∧ hL y.2 23 oa (Int32.toNatClampNeg 0) = Int32.toInt64 y.1) ∧ PW E p l e (rmv 840 MC MS) s m args below meth c 10 (uc + (xT2 r - hX h)) (us + (vT2 r - hV h)) Qf y.2 3150 [(0, some (.ref 0)), (1, some (.ref xa)), (2, some (.ref ma)), (3, some (.ref oa)), (4, some (.ref da)), (5, some (.int i))] []) : PW E p l e (rmv 840 MC MS) s m args below meth c 10 uc us Qf h 2552 [(0, some (.ref 0)), (1, some (.ref xa)), (2, some (.ref ma)), (3, some (.ref oa)), (4, some (.ref da)), (5, some (.int i))] [] := by
  refine p_aload_n X (dcg dcl_43 0 rfl) rfl rfl ?_
  refine p_aload_n X (dcg dcl_43 1 rfl) rfl rfl ?_
  refine p_iload X (dcg dcl_43 2 rfl) rfl ?_
  refine p_iconst (v := 1) X (dcg dcl_43 3 rfl) (by decide) ?_
  refine p_iadd X (dcg dcl_43 4 rfl) ?_
  refine p_sld X hlx (dcg dcl_43 5 rfl) (vp_of_inb hib.2.1) ?_
  refine p_aload_n X (dcg dcl_43 6 rfl) rfl rfl ?_
  refine p_callSH (As := [_, _, _]) X mlh_305 (dcg dcl_43 7 rfl) rfl rfl (wL_write hG hgn hf hk hko hcd) (by decide) (room4 (Nat.le_of_ble_eq_true rfl)) hc hs ?_
  intro v9 u9 hw9
  obtain ⟨code, y, rfl, hk2, hy, hk3, hth, hval, hK⟩ := hm v9 u9 hw9
  refine p_istore X (dcg dcl_43 8 rfl) (by decide) rfl ?_
  refine p_aload_n X (dcg dcl_43 9 rfl) rfl rfl ?_
  refine p_aload_n X (dcg dcl_43 10 rfl) rfl rfl ?_
  refine p_iload X (dcg dcl_43 11 rfl) rfl ?_
  refine p_iconst (v := 1) X (dcg dcl_43 12 rfl) (by decide) ?_
  refine p_iadd X (dcg dcl_43 13 rfl) ?_
  refine p_sld X hlx (dcg dcl_43 14 rfl) (vp_of_inb hib.2.1) ?_
  refine p_callV (As := [_]) X ml_L_307 (dcg dcl_43 15 rfl) rfl rfl hk2 (wX12_write hG hy) (by decide) (room4 (Nat.le_of_ble_eq_true rfl)) (Nat.le_trans (Nat.le_of_eq (Nat.add_zero _)) hc) (Nat.le_trans (Nat.le_of_eq (Nat.add_zero _)) hs) ?_
  rintro _ u9 ⟨rfl, e9⟩; have e9 := e9.symm; subst e9
  refine p_istore X (dcg dcl_43 16 rfl) (by decide) rfl ?_
  refine p_aload_n X (dcg dcl_43 17 rfl) rfl rfl ?_
  refine p_callV (As := []) X ml_L_161 (dcg dcl_43 18 rfl) rfl rfl hk3 (wX12_thrown hG hth) (by decide) (room4 (Nat.le_of_ble_eq_true rfl)) (Nat.le_trans (Nat.le_of_eq (Nat.add_zero _)) hc) (Nat.le_trans (Nat.le_of_eq (Nat.add_zero _)) hs) ?_
  rintro _ u9 ⟨rfl, e9⟩; have e9 := e9.symm; subst e9
  refine p_iload X (dcg dcl_43 19 rfl) rfl ?_
  refine p_icmp_eq (tgt := 2588) X (dcg dcl_43 20 rfl) (by decide) (fun q => ?_) (fun q => ?_)
  · refine p_iload X (dcg dcl_43 23 rfl) rfl ?_
    refine p_if_ne (tgt := 2605) X (dcg dcl_43 24 rfl) (by decide) (fun q => ?_) (fun q => ?_)
    · refine p_goto (tgt := 3150) X (dcg dcl_43 34 rfl) (by decide) ?_
      refine p_pick [0, 1, 2, 3, 4, 5] ?_
      exact hK
    · obtain ⟨hko2, hln2, hvl⟩ := hval (Decidable.not_not.mp q)
      refine p_aload_n X (dcg dcl_43 25 rfl) rfl rfl ?_
      refine p_iconst (v := 0) X (dcg dcl_43 26 rfl) (by decide) ?_
      refine p_lald X (dcg dcl_43 27 rfl) hko2 (vp_of_inb ⟨by decide, hln2⟩) ?_
      refine p_iload X (dcg dcl_43 28 rfl) rfl ?_
      refine p_i2l X (dcg dcl_43 29 rfl) ?_
      refine p_lcmp X (dcg dcl_43 30 rfl) ?_
      refine p_if_eq (tgt := 2605) X (dcg dcl_43 31 rfl) (by decide) (fun q => ?_) (fun q => ?_)
      · refine p_goto (tgt := 3150) X (dcg dcl_43 34 rfl) (by decide) ?_
        refine p_pick [0, 1, 2, 3, 4, 5] ?_
        exact hK
      · exact absurd (by rw [hvl]; exact lg_cmp_self _) q
  · exact absurd rfl q
theorem dcl_44 : decs code [(2608, .aload_n 1, 1), (2609, .aload_n 0, 1), (2610, .iload 5, 2), (2612, .iconst 1, 1), (2613, .iadd, 1), (2614, .iaload, 1), (2615, .aload_n 3, 1), (2616, .invokestatic 308, 3), (2619, .istore 6, 2), (2621, .aload_n 2, 1), (2622, .aload_n 0, 1), (2623, .iload 5, 2), (2625, .iconst 1, 1), (2626, .iadd, 1), (2627, .iaload, 1), (2628, .invokevirtual 310, 3), (2631, .istore 7, 2), (2633, .aload_n 2, 1), (2634, .invokevirtual 161, 3), (2637, .iload 6, 2), (2639, .if_icmp .eq 5, 3), (2642, .iconst 0, 1), (2643, .ireturn, 1), (2644, .iload 6, 2), (2646, .ifCond .ne 15, 3), (2649, .aload_n 3, 1), (2650, .iconst 0, 1), (2651, .laload, 1), (2652, .iload 7, 2), (2654, .i2l, 1), (2655, .lcmp, 1), (2656, .ifCond .eq 5, 3), (2659, .iconst 0, 1), (2660, .ireturn, 1), (2661, .goto 489, 3)] = true := by decide +kernel
set_option maxRecDepth 100000 in
theorem lc_44 {E : PE} {p : Program} {l : Launch} {e : Env} {s : State} {m : MethodId} {args : Array Value} {below : List Frame} {meth : Method} {c : Code} {Qf : State → Prop} {MC MS uc us N : Nat} {xs : Nat → Int32} {xa ma oa da : Nat} {i : Int32} {h : PH} (X : Cx E p l e (rmv 840 MC MS) s m args below meth c RL code 10 ret) (hG : Gs E l) (hgn : Gn E) (hlx : LX E s N xs) (hib : IB i N) {r : ((Int32 × PH) ⊕ (Nat × PH))} (hf : fX11_writtenAt xa (xs (Int32.toNatClampNeg (i + (1 : Int32)))) h = some r) (hk : hK h xa = 11) (hko : ∀ z, r = .inl z → hK z.2 oa = 23 ∧ 0 < hN z.2 oa) (hcd : ∀ z, r = .inr z → z.1 = 2) (hc : uc + (xT2 r - hX h) ≤ MC) (hs : us + (vT2 r - hV h) ≤ MS) (hm : ∀ (v : Option Value) (u : PH), ((∃ z : Int32 × PH, r = .inl z ∧ v = some (.int 0) ∧ u = sL z.2 23 oa (Int32.toNatClampNeg 0) (Int32.toInt64 z.1)) ∨ (∃ (z : Nat × PH) (n : Nat), r = .inr z ∧ hX z.2 ≤ n ∧ u = hbump z.2 n ∧ ((z.1 = 2 ∧ v = some (.int 1))))) → ∃ (code : Int32) (y : Int32 × PH), v = some (.int code) ∧ hK u ma = 12 ∧ fX12_writtenAt ma (xs (Int32.toNatClampNeg (i + (1 : Int32)))) u = some y ∧ hK y.2 ma = 12 ∧ fX12_thrown ma y.2 = some code ∧ (code = 0 → hK y.2 oa = 23 ∧ 0 < hN y.2 oa ∧ hL y.2 23 oa (Int32.toNatClampNeg 0) = Int32.toInt64 y.1) ∧ PW E p l e (rmv 840 MC MS) s m args below meth c 10 (uc + (xT2 r - hX h)) (us + (vT2 r - hV h)) Qf y.2 3150 [(0, some (.ref 0)), (1, some (.ref xa)), (2, some (.ref ma)), (3, some (.ref oa)), (4, some (.ref da)), (5, some (.int i))] []) : PW E p l e (rmv 840 MC MS) s m args below meth c 10 uc us Qf h 2608 [(0, some (.ref 0)), (1, some (.ref xa)), (2, some (.ref ma)), (3, some (.ref oa)), (4, some (.ref da)), (5, some (.int i))] [] := by
  refine p_aload_n X (dcg dcl_44 0 rfl) rfl rfl ?_
  refine p_aload_n X (dcg dcl_44 1 rfl) rfl rfl ?_
  refine p_iload X (dcg dcl_44 2 rfl) rfl ?_
  refine p_iconst (v := 1) X (dcg dcl_44 3 rfl) (by decide) ?_
  refine p_iadd X (dcg dcl_44 4 rfl) ?_
  refine p_sld X hlx (dcg dcl_44 5 rfl) (vp_of_inb hib.2.1) ?_
  refine p_aload_n X (dcg dcl_44 6 rfl) rfl rfl ?_
  refine p_callSH (As := [_, _, _]) X mlh_308 (dcg dcl_44 7 rfl) rfl rfl (wL_writtenAt hG hgn hf hk hko hcd) (by decide) (room4 (Nat.le_of_ble_eq_true rfl)) hc hs ?_
  intro v9 u9 hw9
  obtain ⟨code, y, rfl, hk2, hy, hk3, hth, hval, hK⟩ := hm v9 u9 hw9
  refine p_istore X (dcg dcl_44 8 rfl) (by decide) rfl ?_
  refine p_aload_n X (dcg dcl_44 9 rfl) rfl rfl ?_
  refine p_aload_n X (dcg dcl_44 10 rfl) rfl rfl ?_
  refine p_iload X (dcg dcl_44 11 rfl) rfl ?_
  refine p_iconst (v := 1) X (dcg dcl_44 12 rfl) (by decide) ?_
  refine p_iadd X (dcg dcl_44 13 rfl) ?_
  refine p_sld X hlx (dcg dcl_44 14 rfl) (vp_of_inb hib.2.1) ?_
  refine p_callV (As := [_]) X ml_L_310 (dcg dcl_44 15 rfl) rfl rfl hk2 (wX12_writtenAt hG hy) (by decide) (room4 (Nat.le_of_ble_eq_true rfl)) (Nat.le_trans (Nat.le_of_eq (Nat.add_zero _)) hc) (Nat.le_trans (Nat.le_of_eq (Nat.add_zero _)) hs) ?_
  rintro _ u9 ⟨rfl, e9⟩; have e9 := e9.symm; subst e9
  refine p_istore X (dcg dcl_44 16 rfl) (by decide) rfl ?_
  refine p_aload_n X (dcg dcl_44 17 rfl) rfl rfl ?_
  refine p_callV (As := []) X ml_L_161 (dcg dcl_44 18 rfl) rfl rfl hk3 (wX12_thrown hG hth) (by decide) (room4 (Nat.le_of_ble_eq_true rfl)) (Nat.le_trans (Nat.le_of_eq (Nat.add_zero _)) hc) (Nat.le_trans (Nat.le_of_eq (Nat.add_zero _)) hs) ?_
  rintro _ u9 ⟨rfl, e9⟩; have e9 := e9.symm; subst e9
  refine p_iload X (dcg dcl_44 19 rfl) rfl ?_
  refine p_icmp_eq (tgt := 2644) X (dcg dcl_44 20 rfl) (by decide) (fun q => ?_) (fun q => ?_)
  · refine p_iload X (dcg dcl_44 23 rfl) rfl ?_
    refine p_if_ne (tgt := 2661) X (dcg dcl_44 24 rfl) (by decide) (fun q => ?_) (fun q => ?_)
    · refine p_goto (tgt := 3150) X (dcg dcl_44 34 rfl) (by decide) ?_
      refine p_pick [0, 1, 2, 3, 4, 5] ?_
      exact hK
    · obtain ⟨hko2, hln2, hvl⟩ := hval (Decidable.not_not.mp q)
      refine p_aload_n X (dcg dcl_44 25 rfl) rfl rfl ?_
      refine p_iconst (v := 0) X (dcg dcl_44 26 rfl) (by decide) ?_
      refine p_lald X (dcg dcl_44 27 rfl) hko2 (vp_of_inb ⟨by decide, hln2⟩) ?_
      refine p_iload X (dcg dcl_44 28 rfl) rfl ?_
      refine p_i2l X (dcg dcl_44 29 rfl) ?_
      refine p_lcmp X (dcg dcl_44 30 rfl) ?_
      refine p_if_eq (tgt := 2661) X (dcg dcl_44 31 rfl) (by decide) (fun q => ?_) (fun q => ?_)
      · refine p_goto (tgt := 3150) X (dcg dcl_44 34 rfl) (by decide) ?_
        refine p_pick [0, 1, 2, 3, 4, 5] ?_
        exact hK
      · exact absurd (by rw [hvl]; exact lg_cmp_self _) q
  · exact absurd rfl q
theorem dcl_45 : decs code [(2664, .aload_n 1, 1), (2665, .invokevirtual 311, 3), (2668, .aload_n 2, 1), (2669, .invokevirtual 314, 3), (2672, .if_icmp .eq 478, 3), (2675, .iconst 0, 1), (2676, .ireturn, 1)] = true := by decide +kernel
set_option maxRecDepth 100000 in
theorem lc_45 {E : PE} {p : Program} {l : Launch} {e : Env} {s : State} {m : MethodId} {args : Array Value} {below : List Frame} {meth : Method} {c : Code} {Qf : State → Prop} {MC MS uc us N : Nat} {xs : Nat → Int32} {xa ma oa da : Nat} {i : Int32} {h : PH} (X : Cx E p l e (rmv 840 MC MS) s m args below meth c RL code 10 ret) (hG : Gs E l) (hgn : Gn E) (hlx : LX E s N xs) (hib : IB i N) {r : Int32} (hf : fX11_events xa  h = some r) (hk : hK h xa = 11) (hc : uc + 0 ≤ MC) (hs : us + 0 ≤ MS) (hm : ∃ y : Int32 × PH, hK h ma = 12 ∧ fX12_events ma  h = some y ∧ r = y.1 ∧ PW E p l e (rmv 840 MC MS) s m args below meth c 10 (uc + 0) (us + 0) Qf y.2 3150 [(0, some (.ref 0)), (1, some (.ref xa)), (2, some (.ref ma)), (3, some (.ref oa)), (4, some (.ref da)), (5, some (.int i))] []) : PW E p l e (rmv 840 MC MS) s m args below meth c 10 uc us Qf h 2664 [(0, some (.ref 0)), (1, some (.ref xa)), (2, some (.ref ma)), (3, some (.ref oa)), (4, some (.ref da)), (5, some (.int i))] [] := by
  refine p_aload_n X (dcg dcl_45 0 rfl) rfl rfl ?_
  refine p_callV (As := []) X ml_L_311 (dcg dcl_45 1 rfl) rfl rfl hk (wX11_events hG hf) (by decide) (room4 (Nat.le_of_ble_eq_true rfl)) hc hs ?_
  rintro _ u9 ⟨rfl, e9⟩; have e9 := e9.symm; subst e9
  obtain ⟨y, hk2, hy, hyr, hK⟩ := hm
  refine p_aload_n X (dcg dcl_45 2 rfl) rfl rfl ?_
  refine p_callV (As := []) X ml_L_314 (dcg dcl_45 3 rfl) rfl rfl hk2 (wX12_events hG hy) (by decide) (room4 (Nat.le_of_ble_eq_true rfl)) (Nat.le_trans (Nat.le_of_eq (Nat.add_zero _)) hc) (Nat.le_trans (Nat.le_of_eq (Nat.add_zero _)) hs) ?_
  rintro _ u9 ⟨rfl, e9⟩; have e9 := e9.symm; subst e9
  refine p_icmp_eq (tgt := 3150) X (dcg dcl_45 4 rfl) (by decide) (fun q => ?_) (fun q => ?_)
  · refine p_pick [0, 1, 2, 3, 4, 5] ?_
    exact hK
  · exact absurd hyr q
theorem dcl_46 : decs code [(2677, .aload_n 1, 1), (2678, .aload_n 0, 1), (2679, .iload 5, 2), (2681, .iconst 1, 1), (2682, .iadd, 1), (2683, .iaload, 1), (2684, .aload_n 0, 1), (2685, .iload 5, 2), (2687, .iconst 2, 1), (2688, .iadd, 1), (2689, .iaload, 1), (2690, .aload_n 3, 1), (2691, .invokestatic 315, 3), (2694, .istore 6, 2), (2696, .aload_n 2, 1), (2697, .aload_n 0, 1), (2698, .iload 5, 2), (2700, .iconst 1, 1), (2701, .iadd, 1), (2702, .iaload, 1), (2703, .aload_n 0, 1), (2704, .iload 5, 2), (2706, .iconst 2, 1), (2707, .iadd, 1), (2708, .iaload, 1), (2709, .invokevirtual 317, 3), (2712, .istore 7, 2), (2714, .aload_n 2, 1), (2715, .invokevirtual 161, 3), (2718, .iload 6, 2), (2720, .if_icmp .eq 5, 3), (2723, .iconst 0, 1), (2724, .ireturn, 1), (2725, .iload 6, 2), (2727, .ifCond .ne 15, 3), (2730, .aload_n 3, 1), (2731, .iconst 0, 1), (2732, .laload, 1), (2733, .iload 7, 2), (2735, .i2l, 1), (2736, .lcmp, 1), (2737, .ifCond .eq 5, 3), (2740, .iconst 0, 1), (2741, .ireturn, 1), (2742, .goto 408, 3)] = true := by decide +kernel
set_option maxRecDepth 100000 in
theorem lc_46 {E : PE} {p : Program} {l : Launch} {e : Env} {s : State} {m : MethodId} {args : Array Value} {below : List Frame} {meth : Method} {c : Code} {Qf : State → Prop} {MC MS uc us N : Nat} {xs : Nat → Int32} {xa ma oa da : Nat} {i : Int32} {h : PH} (X : Cx E p l e (rmv 840 MC MS) s m args below meth c RL code 10 ret) (hG : Gs E l) (hgn : Gn E) (hlx : LX E s N xs) (hib : IB i N) {r : ((Int32 × PH) ⊕ (Nat × PH))} (hf : fX11_eventOf xa (xs (Int32.toNatClampNeg (i + (1 : Int32)))) (xs (Int32.toNatClampNeg (i + (2 : Int32)))) h = some r) (hk : hK h xa = 11) (hko : ∀ z, r = .inl z → hK z.2 oa = 23 ∧ 0 < hN z.2 oa) (hcd : ∀ z, r = .inr z → z.1 = 2 ∨ z.1 = 1) (hc : uc + (xT2 r - hX h) ≤ MC) (hs : us + (vT2 r - hV h) ≤ MS) (hm : ∀ (v : Option Value) (u : PH), ((∃ z : Int32 × PH, r = .inl z ∧ v = some (.int 0) ∧ u = sL z.2 23 oa (Int32.toNatClampNeg 0) (Int32.toInt64 z.1)) ∨ (∃ (z : Nat × PH) (n : Nat), r = .inr z ∧ hX z.2 ≤ n ∧ u = hbump z.2 n ∧ ((z.1 = 2 ∧ v = some (.int 1)) ∨ (z.1 = 1 ∧ v = some (.int 2))))) → ∃ (code : Int32) (y : Int32 × PH), v = some (.int code) ∧ hK u ma = 12 ∧ fX12_eventOf ma (xs (Int32.toNatClampNeg (i + (1 : Int32)))) (xs (Int32.toNatClampNeg (i + (2 : Int32)))) u = some y ∧ hK y.2 ma = 12 ∧ fX12_thrown ma y.2 = some code ∧ (code = 0 → hK y.2 oa = 23 ∧ 0 < hN y.2 oa ∧ hL y.2 23 oa (Int32.toNatClampNeg 0) = Int32.toInt64 y.1) ∧ PW E p l e (rmv 840 MC MS) s m args below meth c 10 (uc + (xT2 r - hX h)) (us + (vT2 r - hV h)) Qf y.2 3150 [(0, some (.ref 0)), (1, some (.ref xa)), (2, some (.ref ma)), (3, some (.ref oa)), (4, some (.ref da)), (5, some (.int i))] []) : PW E p l e (rmv 840 MC MS) s m args below meth c 10 uc us Qf h 2677 [(0, some (.ref 0)), (1, some (.ref xa)), (2, some (.ref ma)), (3, some (.ref oa)), (4, some (.ref da)), (5, some (.int i))] [] := by
  refine p_aload_n X (dcg dcl_46 0 rfl) rfl rfl ?_
  refine p_aload_n X (dcg dcl_46 1 rfl) rfl rfl ?_
  refine p_iload X (dcg dcl_46 2 rfl) rfl ?_
  refine p_iconst (v := 1) X (dcg dcl_46 3 rfl) (by decide) ?_
  refine p_iadd X (dcg dcl_46 4 rfl) ?_
  refine p_sld X hlx (dcg dcl_46 5 rfl) (vp_of_inb hib.2.1) ?_
  refine p_aload_n X (dcg dcl_46 6 rfl) rfl rfl ?_
  refine p_iload X (dcg dcl_46 7 rfl) rfl ?_
  refine p_iconst (v := 2) X (dcg dcl_46 8 rfl) (by decide) ?_
  refine p_iadd X (dcg dcl_46 9 rfl) ?_
  refine p_sld X hlx (dcg dcl_46 10 rfl) (vp_of_inb hib.2.2.1) ?_
  refine p_aload_n X (dcg dcl_46 11 rfl) rfl rfl ?_
  refine p_callSH (As := [_, _, _, _]) X mlh_315 (dcg dcl_46 12 rfl) rfl rfl (wL_eventOf hG hgn hf hk hko hcd) (by decide) (room4 (Nat.le_of_ble_eq_true rfl)) hc hs ?_
  intro v9 u9 hw9
  obtain ⟨code, y, rfl, hk2, hy, hk3, hth, hval, hK⟩ := hm v9 u9 hw9
  refine p_istore X (dcg dcl_46 13 rfl) (by decide) rfl ?_
  refine p_aload_n X (dcg dcl_46 14 rfl) rfl rfl ?_
  refine p_aload_n X (dcg dcl_46 15 rfl) rfl rfl ?_
  refine p_iload X (dcg dcl_46 16 rfl) rfl ?_
  refine p_iconst (v := 1) X (dcg dcl_46 17 rfl) (by decide) ?_
  refine p_iadd X (dcg dcl_46 18 rfl) ?_
  refine p_sld X hlx (dcg dcl_46 19 rfl) (vp_of_inb hib.2.1) ?_
  refine p_aload_n X (dcg dcl_46 20 rfl) rfl rfl ?_
  refine p_iload X (dcg dcl_46 21 rfl) rfl ?_
  refine p_iconst (v := 2) X (dcg dcl_46 22 rfl) (by decide) ?_
  refine p_iadd X (dcg dcl_46 23 rfl) ?_
  refine p_sld X hlx (dcg dcl_46 24 rfl) (vp_of_inb hib.2.2.1) ?_
  refine p_callV (As := [_, _]) X ml_L_317 (dcg dcl_46 25 rfl) rfl rfl hk2 (wX12_eventOf hG hy) (by decide) (room4 (Nat.le_of_ble_eq_true rfl)) (Nat.le_trans (Nat.le_of_eq (Nat.add_zero _)) hc) (Nat.le_trans (Nat.le_of_eq (Nat.add_zero _)) hs) ?_
  rintro _ u9 ⟨rfl, e9⟩; have e9 := e9.symm; subst e9
  refine p_istore X (dcg dcl_46 26 rfl) (by decide) rfl ?_
  refine p_aload_n X (dcg dcl_46 27 rfl) rfl rfl ?_
  refine p_callV (As := []) X ml_L_161 (dcg dcl_46 28 rfl) rfl rfl hk3 (wX12_thrown hG hth) (by decide) (room4 (Nat.le_of_ble_eq_true rfl)) (Nat.le_trans (Nat.le_of_eq (Nat.add_zero _)) hc) (Nat.le_trans (Nat.le_of_eq (Nat.add_zero _)) hs) ?_
  rintro _ u9 ⟨rfl, e9⟩; have e9 := e9.symm; subst e9
  refine p_iload X (dcg dcl_46 29 rfl) rfl ?_
  refine p_icmp_eq (tgt := 2725) X (dcg dcl_46 30 rfl) (by decide) (fun q => ?_) (fun q => ?_)
  · refine p_iload X (dcg dcl_46 33 rfl) rfl ?_
    refine p_if_ne (tgt := 2742) X (dcg dcl_46 34 rfl) (by decide) (fun q => ?_) (fun q => ?_)
    · refine p_goto (tgt := 3150) X (dcg dcl_46 44 rfl) (by decide) ?_
      refine p_pick [0, 1, 2, 3, 4, 5] ?_
      exact hK
    · obtain ⟨hko2, hln2, hvl⟩ := hval (Decidable.not_not.mp q)
      refine p_aload_n X (dcg dcl_46 35 rfl) rfl rfl ?_
      refine p_iconst (v := 0) X (dcg dcl_46 36 rfl) (by decide) ?_
      refine p_lald X (dcg dcl_46 37 rfl) hko2 (vp_of_inb ⟨by decide, hln2⟩) ?_
      refine p_iload X (dcg dcl_46 38 rfl) rfl ?_
      refine p_i2l X (dcg dcl_46 39 rfl) ?_
      refine p_lcmp X (dcg dcl_46 40 rfl) ?_
      refine p_if_eq (tgt := 2742) X (dcg dcl_46 41 rfl) (by decide) (fun q => ?_) (fun q => ?_)
      · refine p_goto (tgt := 3150) X (dcg dcl_46 44 rfl) (by decide) ?_
        refine p_pick [0, 1, 2, 3, 4, 5] ?_
        exact hK
      · exact absurd (by rw [hvl]; exact lg_cmp_self _) q
  · exact absurd rfl q
theorem dcl_47 : decs code [(2745, .aload_n 1, 1), (2746, .aload_n 0, 1), (2747, .iload 5, 2), (2749, .iconst 1, 1), (2750, .iadd, 1), (2751, .iaload, 1), (2752, .aload_n 0, 1), (2753, .iload 5, 2), (2755, .iconst 2, 1), (2756, .iadd, 1), (2757, .iaload, 1), (2758, .aload_n 3, 1), (2759, .invokestatic 318, 3), (2762, .istore 6, 2), (2764, .aload_n 2, 1), (2765, .aload_n 0, 1), (2766, .iload 5, 2), (2768, .iconst 1, 1), (2769, .iadd, 1), (2770, .iaload, 1), (2771, .aload_n 0, 1), (2772, .iload 5, 2), (2774, .iconst 2, 1), (2775, .iadd, 1), (2776, .iaload, 1), (2777, .invokevirtual 320, 3), (2780, .istore 7, 2), (2782, .aload_n 2, 1), (2783, .invokevirtual 161, 3), (2786, .iload 6, 2), (2788, .if_icmp .eq 5, 3), (2791, .iconst 0, 1), (2792, .ireturn, 1), (2793, .iload 6, 2), (2795, .ifCond .ne 15, 3), (2798, .aload_n 3, 1), (2799, .iconst 0, 1), (2800, .laload, 1), (2801, .iload 7, 2), (2803, .i2l, 1), (2804, .lcmp, 1), (2805, .ifCond .eq 5, 3), (2808, .iconst 0, 1), (2809, .ireturn, 1), (2810, .goto 340, 3)] = true := by decide +kernel
set_option maxRecDepth 100000 in
theorem lc_47 {E : PE} {p : Program} {l : Launch} {e : Env} {s : State} {m : MethodId} {args : Array Value} {below : List Frame} {meth : Method} {c : Code} {Qf : State → Prop} {MC MS uc us N : Nat} {xs : Nat → Int32} {xa ma oa da : Nat} {i : Int32} {h : PH} (X : Cx E p l e (rmv 840 MC MS) s m args below meth c RL code 10 ret) (hG : Gs E l) (hgn : Gn E) (hlx : LX E s N xs) (hib : IB i N) {r : ((Int32 × PH) ⊕ (Nat × PH))} (hf : fX11_compare xa (xs (Int32.toNatClampNeg (i + (1 : Int32)))) (xs (Int32.toNatClampNeg (i + (2 : Int32)))) h = some r) (hk : hK h xa = 11) (hko : ∀ z, r = .inl z → hK z.2 oa = 23 ∧ 0 < hN z.2 oa) (hcd : ∀ z, r = .inr z → z.1 = 1 ∨ z.1 = 3 ∨ z.1 = 0) (hc : uc + (xT2 r - hX h) ≤ MC) (hs : us + (vT2 r - hV h) ≤ MS) (hm : ∀ (v : Option Value) (u : PH), ((∃ z : Int32 × PH, r = .inl z ∧ v = some (.int 0) ∧ u = sL z.2 23 oa (Int32.toNatClampNeg 0) (Int32.toInt64 z.1)) ∨ (∃ (z : Nat × PH) (n : Nat), r = .inr z ∧ hX z.2 ≤ n ∧ u = hbump z.2 n ∧ ((z.1 = 1 ∧ v = some (.int 1)) ∨ (z.1 = 3 ∧ v = some (.int 2)) ∨ (z.1 = 0 ∧ v = some (.int 3))))) → ∃ (code : Int32) (y : Int32 × PH), v = some (.int code) ∧ hK u ma = 12 ∧ fX12_compare ma (xs (Int32.toNatClampNeg (i + (1 : Int32)))) (xs (Int32.toNatClampNeg (i + (2 : Int32)))) u = some y ∧ hK y.2 ma = 12 ∧ fX12_thrown ma y.2 = some code ∧ (code = 0 → hK y.2 oa = 23 ∧ 0 < hN y.2 oa ∧ hL y.2 23 oa (Int32.toNatClampNeg 0) = Int32.toInt64 y.1) ∧ PW E p l e (rmv 840 MC MS) s m args below meth c 10 (uc + (xT2 r - hX h)) (us + (vT2 r - hV h)) Qf y.2 3150 [(0, some (.ref 0)), (1, some (.ref xa)), (2, some (.ref ma)), (3, some (.ref oa)), (4, some (.ref da)), (5, some (.int i))] []) : PW E p l e (rmv 840 MC MS) s m args below meth c 10 uc us Qf h 2745 [(0, some (.ref 0)), (1, some (.ref xa)), (2, some (.ref ma)), (3, some (.ref oa)), (4, some (.ref da)), (5, some (.int i))] [] := by
  refine p_aload_n X (dcg dcl_47 0 rfl) rfl rfl ?_
  refine p_aload_n X (dcg dcl_47 1 rfl) rfl rfl ?_
  refine p_iload X (dcg dcl_47 2 rfl) rfl ?_
  refine p_iconst (v := 1) X (dcg dcl_47 3 rfl) (by decide) ?_
  refine p_iadd X (dcg dcl_47 4 rfl) ?_
  refine p_sld X hlx (dcg dcl_47 5 rfl) (vp_of_inb hib.2.1) ?_
  refine p_aload_n X (dcg dcl_47 6 rfl) rfl rfl ?_
  refine p_iload X (dcg dcl_47 7 rfl) rfl ?_
  refine p_iconst (v := 2) X (dcg dcl_47 8 rfl) (by decide) ?_
  refine p_iadd X (dcg dcl_47 9 rfl) ?_
  refine p_sld X hlx (dcg dcl_47 10 rfl) (vp_of_inb hib.2.2.1) ?_
  refine p_aload_n X (dcg dcl_47 11 rfl) rfl rfl ?_
  refine p_callSH (As := [_, _, _, _]) X mlh_318 (dcg dcl_47 12 rfl) rfl rfl (wL_compare hG hgn hf hk hko hcd) (by decide) (room4 (Nat.le_of_ble_eq_true rfl)) hc hs ?_
  intro v9 u9 hw9
  obtain ⟨code, y, rfl, hk2, hy, hk3, hth, hval, hK⟩ := hm v9 u9 hw9
  refine p_istore X (dcg dcl_47 13 rfl) (by decide) rfl ?_
  refine p_aload_n X (dcg dcl_47 14 rfl) rfl rfl ?_
  refine p_aload_n X (dcg dcl_47 15 rfl) rfl rfl ?_
  refine p_iload X (dcg dcl_47 16 rfl) rfl ?_
  refine p_iconst (v := 1) X (dcg dcl_47 17 rfl) (by decide) ?_
  refine p_iadd X (dcg dcl_47 18 rfl) ?_
  refine p_sld X hlx (dcg dcl_47 19 rfl) (vp_of_inb hib.2.1) ?_
  refine p_aload_n X (dcg dcl_47 20 rfl) rfl rfl ?_
  refine p_iload X (dcg dcl_47 21 rfl) rfl ?_
  refine p_iconst (v := 2) X (dcg dcl_47 22 rfl) (by decide) ?_
  refine p_iadd X (dcg dcl_47 23 rfl) ?_
  refine p_sld X hlx (dcg dcl_47 24 rfl) (vp_of_inb hib.2.2.1) ?_
  refine p_callV (As := [_, _]) X ml_L_320 (dcg dcl_47 25 rfl) rfl rfl hk2 (wX12_compare hG hy) (by decide) (room4 (Nat.le_of_ble_eq_true rfl)) (Nat.le_trans (Nat.le_of_eq (Nat.add_zero _)) hc) (Nat.le_trans (Nat.le_of_eq (Nat.add_zero _)) hs) ?_
  rintro _ u9 ⟨rfl, e9⟩; have e9 := e9.symm; subst e9
  refine p_istore X (dcg dcl_47 26 rfl) (by decide) rfl ?_
  refine p_aload_n X (dcg dcl_47 27 rfl) rfl rfl ?_
  refine p_callV (As := []) X ml_L_161 (dcg dcl_47 28 rfl) rfl rfl hk3 (wX12_thrown hG hth) (by decide) (room4 (Nat.le_of_ble_eq_true rfl)) (Nat.le_trans (Nat.le_of_eq (Nat.add_zero _)) hc) (Nat.le_trans (Nat.le_of_eq (Nat.add_zero _)) hs) ?_
  rintro _ u9 ⟨rfl, e9⟩; have e9 := e9.symm; subst e9
  refine p_iload X (dcg dcl_47 29 rfl) rfl ?_
  refine p_icmp_eq (tgt := 2793) X (dcg dcl_47 30 rfl) (by decide) (fun q => ?_) (fun q => ?_)
  · refine p_iload X (dcg dcl_47 33 rfl) rfl ?_
    refine p_if_ne (tgt := 2810) X (dcg dcl_47 34 rfl) (by decide) (fun q => ?_) (fun q => ?_)
    · refine p_goto (tgt := 3150) X (dcg dcl_47 44 rfl) (by decide) ?_
      refine p_pick [0, 1, 2, 3, 4, 5] ?_
      exact hK
    · obtain ⟨hko2, hln2, hvl⟩ := hval (Decidable.not_not.mp q)
      refine p_aload_n X (dcg dcl_47 35 rfl) rfl rfl ?_
      refine p_iconst (v := 0) X (dcg dcl_47 36 rfl) (by decide) ?_
      refine p_lald X (dcg dcl_47 37 rfl) hko2 (vp_of_inb ⟨by decide, hln2⟩) ?_
      refine p_iload X (dcg dcl_47 38 rfl) rfl ?_
      refine p_i2l X (dcg dcl_47 39 rfl) ?_
      refine p_lcmp X (dcg dcl_47 40 rfl) ?_
      refine p_if_eq (tgt := 2810) X (dcg dcl_47 41 rfl) (by decide) (fun q => ?_) (fun q => ?_)
      · refine p_goto (tgt := 3150) X (dcg dcl_47 44 rfl) (by decide) ?_
        refine p_pick [0, 1, 2, 3, 4, 5] ?_
        exact hK
      · exact absurd (by rw [hvl]; exact lg_cmp_self _) q
  · exact absurd rfl q
theorem dcl_48 : decs code [(2813, .aload_n 1, 1), (2814, .aload_n 0, 1), (2815, .iload 5, 2), (2817, .iconst 1, 1), (2818, .iadd, 1), (2819, .iaload, 1), (2820, .invokevirtual 321, 3), (2823, .aload_n 2, 1), (2824, .aload_n 0, 1), (2825, .iload 5, 2), (2827, .iconst 1, 1), (2828, .iadd, 1), (2829, .iaload, 1), (2830, .invokevirtual 324, 3), (2833, .if_icmp .eq 317, 3), (2836, .iconst 0, 1), (2837, .ireturn, 1)] = true := by decide +kernel
set_option maxRecDepth 100000 in
theorem lc_48 {E : PE} {p : Program} {l : Launch} {e : Env} {s : State} {m : MethodId} {args : Array Value} {below : List Frame} {meth : Method} {c : Code} {Qf : State → Prop} {MC MS uc us N : Nat} {xs : Nat → Int32} {xa ma oa da : Nat} {i : Int32} {h : PH} (X : Cx E p l e (rmv 840 MC MS) s m args below meth c RL code 10 ret) (hG : Gs E l) (hgn : Gn E) (hlx : LX E s N xs) (hib : IB i N) {r : Int32} (hf : fX11_differAt xa (xs (Int32.toNatClampNeg (i + (1 : Int32)))) h = some r) (hk : hK h xa = 11) (hc : uc + 0 ≤ MC) (hs : us + 0 ≤ MS) (hm : ∃ y : Int32 × PH, hK h ma = 12 ∧ fX12_differAt ma (xs (Int32.toNatClampNeg (i + (1 : Int32)))) h = some y ∧ r = y.1 ∧ PW E p l e (rmv 840 MC MS) s m args below meth c 10 (uc + 0) (us + 0) Qf y.2 3150 [(0, some (.ref 0)), (1, some (.ref xa)), (2, some (.ref ma)), (3, some (.ref oa)), (4, some (.ref da)), (5, some (.int i))] []) : PW E p l e (rmv 840 MC MS) s m args below meth c 10 uc us Qf h 2813 [(0, some (.ref 0)), (1, some (.ref xa)), (2, some (.ref ma)), (3, some (.ref oa)), (4, some (.ref da)), (5, some (.int i))] [] := by
  refine p_aload_n X (dcg dcl_48 0 rfl) rfl rfl ?_
  refine p_aload_n X (dcg dcl_48 1 rfl) rfl rfl ?_
  refine p_iload X (dcg dcl_48 2 rfl) rfl ?_
  refine p_iconst (v := 1) X (dcg dcl_48 3 rfl) (by decide) ?_
  refine p_iadd X (dcg dcl_48 4 rfl) ?_
  refine p_sld X hlx (dcg dcl_48 5 rfl) (vp_of_inb hib.2.1) ?_
  refine p_callV (As := [_]) X ml_L_321 (dcg dcl_48 6 rfl) rfl rfl hk (wX11_differAt hG hf) (by decide) (room4 (Nat.le_of_ble_eq_true rfl)) hc hs ?_
  rintro _ u9 ⟨rfl, e9⟩; have e9 := e9.symm; subst e9
  obtain ⟨y, hk2, hy, hyr, hK⟩ := hm
  refine p_aload_n X (dcg dcl_48 7 rfl) rfl rfl ?_
  refine p_aload_n X (dcg dcl_48 8 rfl) rfl rfl ?_
  refine p_iload X (dcg dcl_48 9 rfl) rfl ?_
  refine p_iconst (v := 1) X (dcg dcl_48 10 rfl) (by decide) ?_
  refine p_iadd X (dcg dcl_48 11 rfl) ?_
  refine p_sld X hlx (dcg dcl_48 12 rfl) (vp_of_inb hib.2.1) ?_
  refine p_callV (As := [_]) X ml_L_324 (dcg dcl_48 13 rfl) rfl rfl hk2 (wX12_differAt hG hy) (by decide) (room4 (Nat.le_of_ble_eq_true rfl)) (Nat.le_trans (Nat.le_of_eq (Nat.add_zero _)) hc) (Nat.le_trans (Nat.le_of_eq (Nat.add_zero _)) hs) ?_
  rintro _ u9 ⟨rfl, e9⟩; have e9 := e9.symm; subst e9
  refine p_icmp_eq (tgt := 3150) X (dcg dcl_48 14 rfl) (by decide) (fun q => ?_) (fun q => ?_)
  · refine p_pick [0, 1, 2, 3, 4, 5] ?_
    exact hK
  · exact absurd hyr q
theorem dcl_49 : decs code [(2838, .aload_n 1, 1), (2839, .aload_n 0, 1), (2840, .iload 5, 2), (2842, .iconst 1, 1), (2843, .iadd, 1), (2844, .iaload, 1), (2845, .aload_n 3, 1), (2846, .invokestatic 325, 3), (2849, .istore 6, 2), (2851, .aload_n 2, 1), (2852, .aload_n 0, 1), (2853, .iload 5, 2), (2855, .iconst 1, 1), (2856, .iadd, 1), (2857, .iaload, 1), (2858, .invokevirtual 327, 3), (2861, .istore 7, 2), (2863, .aload_n 2, 1), (2864, .invokevirtual 161, 3), (2867, .iload 6, 2), (2869, .if_icmp .eq 5, 3), (2872, .iconst 0, 1), (2873, .ireturn, 1), (2874, .iload 6, 2), (2876, .ifCond .ne 15, 3), (2879, .aload_n 3, 1), (2880, .iconst 0, 1), (2881, .laload, 1), (2882, .iload 7, 2), (2884, .i2l, 1), (2885, .lcmp, 1), (2886, .ifCond .eq 5, 3), (2889, .iconst 0, 1), (2890, .ireturn, 1), (2891, .goto 259, 3)] = true := by decide +kernel
set_option maxRecDepth 100000 in
theorem lc_49 {E : PE} {p : Program} {l : Launch} {e : Env} {s : State} {m : MethodId} {args : Array Value} {below : List Frame} {meth : Method} {c : Code} {Qf : State → Prop} {MC MS uc us N : Nat} {xs : Nat → Int32} {xa ma oa da : Nat} {i : Int32} {h : PH} (X : Cx E p l e (rmv 840 MC MS) s m args below meth c RL code 10 ret) (hG : Gs E l) (hgn : Gn E) (hlx : LX E s N xs) (hib : IB i N) {r : ((Int32 × PH) ⊕ (Nat × PH))} (hf : fX11_unlike xa (xs (Int32.toNatClampNeg (i + (1 : Int32)))) h = some r) (hk : hK h xa = 11) (hko : ∀ z, r = .inl z → hK z.2 oa = 23 ∧ 0 < hN z.2 oa) (hcd : ∀ z, r = .inr z → z.1 = 2) (hc : uc + (xT2 r - hX h) ≤ MC) (hs : us + (vT2 r - hV h) ≤ MS) (hm : ∀ (v : Option Value) (u : PH), ((∃ z : Int32 × PH, r = .inl z ∧ v = some (.int 0) ∧ u = sL z.2 23 oa (Int32.toNatClampNeg 0) (Int32.toInt64 z.1)) ∨ (∃ (z : Nat × PH) (n : Nat), r = .inr z ∧ hX z.2 ≤ n ∧ u = hbump z.2 n ∧ ((z.1 = 2 ∧ v = some (.int 1))))) → ∃ (code : Int32) (y : Int32 × PH), v = some (.int code) ∧ hK u ma = 12 ∧ fX12_unlike ma (xs (Int32.toNatClampNeg (i + (1 : Int32)))) u = some y ∧ hK y.2 ma = 12 ∧ fX12_thrown ma y.2 = some code ∧ (code = 0 → hK y.2 oa = 23 ∧ 0 < hN y.2 oa ∧ hL y.2 23 oa (Int32.toNatClampNeg 0) = Int32.toInt64 y.1) ∧ PW E p l e (rmv 840 MC MS) s m args below meth c 10 (uc + (xT2 r - hX h)) (us + (vT2 r - hV h)) Qf y.2 3150 [(0, some (.ref 0)), (1, some (.ref xa)), (2, some (.ref ma)), (3, some (.ref oa)), (4, some (.ref da)), (5, some (.int i))] []) : PW E p l e (rmv 840 MC MS) s m args below meth c 10 uc us Qf h 2838 [(0, some (.ref 0)), (1, some (.ref xa)), (2, some (.ref ma)), (3, some (.ref oa)), (4, some (.ref da)), (5, some (.int i))] [] := by
  refine p_aload_n X (dcg dcl_49 0 rfl) rfl rfl ?_
  refine p_aload_n X (dcg dcl_49 1 rfl) rfl rfl ?_
  refine p_iload X (dcg dcl_49 2 rfl) rfl ?_
  refine p_iconst (v := 1) X (dcg dcl_49 3 rfl) (by decide) ?_
  refine p_iadd X (dcg dcl_49 4 rfl) ?_
  refine p_sld X hlx (dcg dcl_49 5 rfl) (vp_of_inb hib.2.1) ?_
  refine p_aload_n X (dcg dcl_49 6 rfl) rfl rfl ?_
  refine p_callSH (As := [_, _, _]) X mlh_325 (dcg dcl_49 7 rfl) rfl rfl (wL_unlike hG hgn hf hk hko hcd) (by decide) (room4 (Nat.le_of_ble_eq_true rfl)) hc hs ?_
  intro v9 u9 hw9
  obtain ⟨code, y, rfl, hk2, hy, hk3, hth, hval, hK⟩ := hm v9 u9 hw9
  refine p_istore X (dcg dcl_49 8 rfl) (by decide) rfl ?_
  refine p_aload_n X (dcg dcl_49 9 rfl) rfl rfl ?_
  refine p_aload_n X (dcg dcl_49 10 rfl) rfl rfl ?_
  refine p_iload X (dcg dcl_49 11 rfl) rfl ?_
  refine p_iconst (v := 1) X (dcg dcl_49 12 rfl) (by decide) ?_
  refine p_iadd X (dcg dcl_49 13 rfl) ?_
  refine p_sld X hlx (dcg dcl_49 14 rfl) (vp_of_inb hib.2.1) ?_
  refine p_callV (As := [_]) X ml_L_327 (dcg dcl_49 15 rfl) rfl rfl hk2 (wX12_unlike hG hy) (by decide) (room4 (Nat.le_of_ble_eq_true rfl)) (Nat.le_trans (Nat.le_of_eq (Nat.add_zero _)) hc) (Nat.le_trans (Nat.le_of_eq (Nat.add_zero _)) hs) ?_
  rintro _ u9 ⟨rfl, e9⟩; have e9 := e9.symm; subst e9
  refine p_istore X (dcg dcl_49 16 rfl) (by decide) rfl ?_
  refine p_aload_n X (dcg dcl_49 17 rfl) rfl rfl ?_
  refine p_callV (As := []) X ml_L_161 (dcg dcl_49 18 rfl) rfl rfl hk3 (wX12_thrown hG hth) (by decide) (room4 (Nat.le_of_ble_eq_true rfl)) (Nat.le_trans (Nat.le_of_eq (Nat.add_zero _)) hc) (Nat.le_trans (Nat.le_of_eq (Nat.add_zero _)) hs) ?_
  rintro _ u9 ⟨rfl, e9⟩; have e9 := e9.symm; subst e9
  refine p_iload X (dcg dcl_49 19 rfl) rfl ?_
  refine p_icmp_eq (tgt := 2874) X (dcg dcl_49 20 rfl) (by decide) (fun q => ?_) (fun q => ?_)
  · refine p_iload X (dcg dcl_49 23 rfl) rfl ?_
    refine p_if_ne (tgt := 2891) X (dcg dcl_49 24 rfl) (by decide) (fun q => ?_) (fun q => ?_)
    · refine p_goto (tgt := 3150) X (dcg dcl_49 34 rfl) (by decide) ?_
      refine p_pick [0, 1, 2, 3, 4, 5] ?_
      exact hK
    · obtain ⟨hko2, hln2, hvl⟩ := hval (Decidable.not_not.mp q)
      refine p_aload_n X (dcg dcl_49 25 rfl) rfl rfl ?_
      refine p_iconst (v := 0) X (dcg dcl_49 26 rfl) (by decide) ?_
      refine p_lald X (dcg dcl_49 27 rfl) hko2 (vp_of_inb ⟨by decide, hln2⟩) ?_
      refine p_iload X (dcg dcl_49 28 rfl) rfl ?_
      refine p_i2l X (dcg dcl_49 29 rfl) ?_
      refine p_lcmp X (dcg dcl_49 30 rfl) ?_
      refine p_if_eq (tgt := 2891) X (dcg dcl_49 31 rfl) (by decide) (fun q => ?_) (fun q => ?_)
      · refine p_goto (tgt := 3150) X (dcg dcl_49 34 rfl) (by decide) ?_
        refine p_pick [0, 1, 2, 3, 4, 5] ?_
        exact hK
      · exact absurd (by rw [hvl]; exact lg_cmp_self _) q
  · exact absurd rfl q
theorem dcl_50 : decs code [(2894, .aload_n 1, 1), (2895, .aload_n 0, 1), (2896, .iload 5, 2), (2898, .iconst 1, 1), (2899, .iadd, 1), (2900, .iaload, 1), (2901, .aload_n 0, 1), (2902, .iload 5, 2), (2904, .iconst 2, 1), (2905, .iadd, 1), (2906, .iaload, 1), (2907, .aload_n 3, 1), (2908, .invokestatic 328, 3), (2911, .istore 6, 2), (2913, .aload_n 2, 1), (2914, .aload_n 0, 1), (2915, .iload 5, 2), (2917, .iconst 1, 1), (2918, .iadd, 1), (2919, .iaload, 1), (2920, .aload_n 0, 1), (2921, .iload 5, 2), (2923, .iconst 2, 1), (2924, .iadd, 1), (2925, .iaload, 1), (2926, .invokevirtual 330, 3), (2929, .istore 7, 2), (2931, .aload_n 2, 1), (2932, .invokevirtual 161, 3), (2935, .iload 6, 2), (2937, .if_icmp .eq 5, 3), (2940, .iconst 0, 1), (2941, .ireturn, 1), (2942, .iload 6, 2), (2944, .ifCond .ne 15, 3), (2947, .aload_n 3, 1), (2948, .iconst 0, 1), (2949, .laload, 1), (2950, .iload 7, 2), (2952, .i2l, 1), (2953, .lcmp, 1), (2954, .ifCond .eq 5, 3), (2957, .iconst 0, 1), (2958, .ireturn, 1), (2959, .goto 191, 3)] = true := by decide +kernel
set_option maxRecDepth 100000 in
theorem lc_50 {E : PE} {p : Program} {l : Launch} {e : Env} {s : State} {m : MethodId} {args : Array Value} {below : List Frame} {meth : Method} {c : Code} {Qf : State → Prop} {MC MS uc us N : Nat} {xs : Nat → Int32} {xa ma oa da : Nat} {i : Int32} {h : PH} (X : Cx E p l e (rmv 840 MC MS) s m args below meth c RL code 10 ret) (hG : Gs E l) (hgn : Gn E) (hlx : LX E s N xs) (hib : IB i N) {r : ((Int32 × PH) ⊕ (Nat × PH))} (hf : fX11_common xa (xs (Int32.toNatClampNeg (i + (1 : Int32)))) (xs (Int32.toNatClampNeg (i + (2 : Int32)))) h = some r) (hk : hK h xa = 11) (hko : ∀ z, r = .inl z → hK z.2 oa = 23 ∧ 0 < hN z.2 oa) (hcd : ∀ z, r = .inr z → z.1 = 2) (hc : uc + (xT2 r - hX h) ≤ MC) (hs : us + (vT2 r - hV h) ≤ MS) (hm : ∀ (v : Option Value) (u : PH), ((∃ z : Int32 × PH, r = .inl z ∧ v = some (.int 0) ∧ u = sL z.2 23 oa (Int32.toNatClampNeg 0) (Int32.toInt64 z.1)) ∨ (∃ (z : Nat × PH) (n : Nat), r = .inr z ∧ hX z.2 ≤ n ∧ u = hbump z.2 n ∧ ((z.1 = 2 ∧ v = some (.int 1))))) → ∃ (code : Int32) (y : Int32 × PH), v = some (.int code) ∧ hK u ma = 12 ∧ fX12_common ma (xs (Int32.toNatClampNeg (i + (1 : Int32)))) (xs (Int32.toNatClampNeg (i + (2 : Int32)))) u = some y ∧ hK y.2 ma = 12 ∧ fX12_thrown ma y.2 = some code ∧ (code = 0 → hK y.2 oa = 23 ∧ 0 < hN y.2 oa ∧ hL y.2 23 oa (Int32.toNatClampNeg 0) = Int32.toInt64 y.1) ∧ PW E p l e (rmv 840 MC MS) s m args below meth c 10 (uc + (xT2 r - hX h)) (us + (vT2 r - hV h)) Qf y.2 3150 [(0, some (.ref 0)), (1, some (.ref xa)), (2, some (.ref ma)), (3, some (.ref oa)), (4, some (.ref da)), (5, some (.int i))] []) : PW E p l e (rmv 840 MC MS) s m args below meth c 10 uc us Qf h 2894 [(0, some (.ref 0)), (1, some (.ref xa)), (2, some (.ref ma)), (3, some (.ref oa)), (4, some (.ref da)), (5, some (.int i))] [] := by
  refine p_aload_n X (dcg dcl_50 0 rfl) rfl rfl ?_
  refine p_aload_n X (dcg dcl_50 1 rfl) rfl rfl ?_
  refine p_iload X (dcg dcl_50 2 rfl) rfl ?_
  refine p_iconst (v := 1) X (dcg dcl_50 3 rfl) (by decide) ?_
  refine p_iadd X (dcg dcl_50 4 rfl) ?_
  refine p_sld X hlx (dcg dcl_50 5 rfl) (vp_of_inb hib.2.1) ?_
  refine p_aload_n X (dcg dcl_50 6 rfl) rfl rfl ?_
  refine p_iload X (dcg dcl_50 7 rfl) rfl ?_
  refine p_iconst (v := 2) X (dcg dcl_50 8 rfl) (by decide) ?_
  refine p_iadd X (dcg dcl_50 9 rfl) ?_
  refine p_sld X hlx (dcg dcl_50 10 rfl) (vp_of_inb hib.2.2.1) ?_
  refine p_aload_n X (dcg dcl_50 11 rfl) rfl rfl ?_
  refine p_callSH (As := [_, _, _, _]) X mlh_328 (dcg dcl_50 12 rfl) rfl rfl (wL_common hG hgn hf hk hko hcd) (by decide) (room4 (Nat.le_of_ble_eq_true rfl)) hc hs ?_
  intro v9 u9 hw9
  obtain ⟨code, y, rfl, hk2, hy, hk3, hth, hval, hK⟩ := hm v9 u9 hw9
  refine p_istore X (dcg dcl_50 13 rfl) (by decide) rfl ?_
  refine p_aload_n X (dcg dcl_50 14 rfl) rfl rfl ?_
  refine p_aload_n X (dcg dcl_50 15 rfl) rfl rfl ?_
  refine p_iload X (dcg dcl_50 16 rfl) rfl ?_
  refine p_iconst (v := 1) X (dcg dcl_50 17 rfl) (by decide) ?_
  refine p_iadd X (dcg dcl_50 18 rfl) ?_
  refine p_sld X hlx (dcg dcl_50 19 rfl) (vp_of_inb hib.2.1) ?_
  refine p_aload_n X (dcg dcl_50 20 rfl) rfl rfl ?_
  refine p_iload X (dcg dcl_50 21 rfl) rfl ?_
  refine p_iconst (v := 2) X (dcg dcl_50 22 rfl) (by decide) ?_
  refine p_iadd X (dcg dcl_50 23 rfl) ?_
  refine p_sld X hlx (dcg dcl_50 24 rfl) (vp_of_inb hib.2.2.1) ?_
  refine p_callV (As := [_, _]) X ml_L_330 (dcg dcl_50 25 rfl) rfl rfl hk2 (wX12_common hG hy) (by decide) (room4 (Nat.le_of_ble_eq_true rfl)) (Nat.le_trans (Nat.le_of_eq (Nat.add_zero _)) hc) (Nat.le_trans (Nat.le_of_eq (Nat.add_zero _)) hs) ?_
  rintro _ u9 ⟨rfl, e9⟩; have e9 := e9.symm; subst e9
  refine p_istore X (dcg dcl_50 26 rfl) (by decide) rfl ?_
  refine p_aload_n X (dcg dcl_50 27 rfl) rfl rfl ?_
  refine p_callV (As := []) X ml_L_161 (dcg dcl_50 28 rfl) rfl rfl hk3 (wX12_thrown hG hth) (by decide) (room4 (Nat.le_of_ble_eq_true rfl)) (Nat.le_trans (Nat.le_of_eq (Nat.add_zero _)) hc) (Nat.le_trans (Nat.le_of_eq (Nat.add_zero _)) hs) ?_
  rintro _ u9 ⟨rfl, e9⟩; have e9 := e9.symm; subst e9
  refine p_iload X (dcg dcl_50 29 rfl) rfl ?_
  refine p_icmp_eq (tgt := 2942) X (dcg dcl_50 30 rfl) (by decide) (fun q => ?_) (fun q => ?_)
  · refine p_iload X (dcg dcl_50 33 rfl) rfl ?_
    refine p_if_ne (tgt := 2959) X (dcg dcl_50 34 rfl) (by decide) (fun q => ?_) (fun q => ?_)
    · refine p_goto (tgt := 3150) X (dcg dcl_50 44 rfl) (by decide) ?_
      refine p_pick [0, 1, 2, 3, 4, 5] ?_
      exact hK
    · obtain ⟨hko2, hln2, hvl⟩ := hval (Decidable.not_not.mp q)
      refine p_aload_n X (dcg dcl_50 35 rfl) rfl rfl ?_
      refine p_iconst (v := 0) X (dcg dcl_50 36 rfl) (by decide) ?_
      refine p_lald X (dcg dcl_50 37 rfl) hko2 (vp_of_inb ⟨by decide, hln2⟩) ?_
      refine p_iload X (dcg dcl_50 38 rfl) rfl ?_
      refine p_i2l X (dcg dcl_50 39 rfl) ?_
      refine p_lcmp X (dcg dcl_50 40 rfl) ?_
      refine p_if_eq (tgt := 2959) X (dcg dcl_50 41 rfl) (by decide) (fun q => ?_) (fun q => ?_)
      · refine p_goto (tgt := 3150) X (dcg dcl_50 44 rfl) (by decide) ?_
        refine p_pick [0, 1, 2, 3, 4, 5] ?_
        exact hK
      · exact absurd (by rw [hvl]; exact lg_cmp_self _) q
  · exact absurd rfl q
theorem dcl_51 : decs code [(2962, .aload_n 1, 1), (2963, .aload_n 0, 1), (2964, .iload 5, 2), (2966, .iconst 1, 1), (2967, .iadd, 1), (2968, .iaload, 1), (2969, .aload_n 3, 1), (2970, .invokestatic 331, 3), (2973, .istore 6, 2), (2975, .aload_n 2, 1), (2976, .aload_n 0, 1), (2977, .iload 5, 2), (2979, .iconst 1, 1), (2980, .iadd, 1), (2981, .iaload, 1), (2982, .invokevirtual 333, 3), (2985, .istore 7, 2), (2987, .aload_n 2, 1), (2988, .invokevirtual 161, 3), (2991, .iload 6, 2), (2993, .if_icmp .eq 5, 3), (2996, .iconst 0, 1), (2997, .ireturn, 1), (2998, .iload 6, 2), (3000, .ifCond .ne 15, 3), (3003, .aload_n 3, 1), (3004, .iconst 0, 1), (3005, .laload, 1), (3006, .iload 7, 2), (3008, .i2l, 1), (3009, .lcmp, 1), (3010, .ifCond .eq 5, 3), (3013, .iconst 0, 1), (3014, .ireturn, 1), (3015, .goto 135, 3)] = true := by decide +kernel
set_option maxRecDepth 100000 in
theorem lc_51 {E : PE} {p : Program} {l : Launch} {e : Env} {s : State} {m : MethodId} {args : Array Value} {below : List Frame} {meth : Method} {c : Code} {Qf : State → Prop} {MC MS uc us N : Nat} {xs : Nat → Int32} {xa ma oa da : Nat} {i : Int32} {h : PH} (X : Cx E p l e (rmv 840 MC MS) s m args below meth c RL code 10 ret) (hG : Gs E l) (hgn : Gn E) (hlx : LX E s N xs) (hib : IB i N) {r : ((Int32 × PH) ⊕ (Nat × PH))} (hf : fX11_nearest xa (xs (Int32.toNatClampNeg (i + (1 : Int32)))) h = some r) (hk : hK h xa = 11) (hko : ∀ z, r = .inl z → hK z.2 oa = 23 ∧ 0 < hN z.2 oa) (hcd : ∀ z, r = .inr z → z.1 = 2) (hc : uc + (xT2 r - hX h) ≤ MC) (hs : us + (vT2 r - hV h) ≤ MS) (hm : ∀ (v : Option Value) (u : PH), ((∃ z : Int32 × PH, r = .inl z ∧ v = some (.int 0) ∧ u = sL z.2 23 oa (Int32.toNatClampNeg 0) (Int32.toInt64 z.1)) ∨ (∃ (z : Nat × PH) (n : Nat), r = .inr z ∧ hX z.2 ≤ n ∧ u = hbump z.2 n ∧ ((z.1 = 2 ∧ v = some (.int 1))))) → ∃ (code : Int32) (y : Int32 × PH), v = some (.int code) ∧ hK u ma = 12 ∧ fX12_nearest ma (xs (Int32.toNatClampNeg (i + (1 : Int32)))) u = some y ∧ hK y.2 ma = 12 ∧ fX12_thrown ma y.2 = some code ∧ (code = 0 → hK y.2 oa = 23 ∧ 0 < hN y.2 oa ∧ hL y.2 23 oa (Int32.toNatClampNeg 0) = Int32.toInt64 y.1) ∧ PW E p l e (rmv 840 MC MS) s m args below meth c 10 (uc + (xT2 r - hX h)) (us + (vT2 r - hV h)) Qf y.2 3150 [(0, some (.ref 0)), (1, some (.ref xa)), (2, some (.ref ma)), (3, some (.ref oa)), (4, some (.ref da)), (5, some (.int i))] []) : PW E p l e (rmv 840 MC MS) s m args below meth c 10 uc us Qf h 2962 [(0, some (.ref 0)), (1, some (.ref xa)), (2, some (.ref ma)), (3, some (.ref oa)), (4, some (.ref da)), (5, some (.int i))] [] := by
  refine p_aload_n X (dcg dcl_51 0 rfl) rfl rfl ?_
  refine p_aload_n X (dcg dcl_51 1 rfl) rfl rfl ?_
  refine p_iload X (dcg dcl_51 2 rfl) rfl ?_
  refine p_iconst (v := 1) X (dcg dcl_51 3 rfl) (by decide) ?_
  refine p_iadd X (dcg dcl_51 4 rfl) ?_
  refine p_sld X hlx (dcg dcl_51 5 rfl) (vp_of_inb hib.2.1) ?_
  refine p_aload_n X (dcg dcl_51 6 rfl) rfl rfl ?_
  refine p_callSH (As := [_, _, _]) X mlh_331 (dcg dcl_51 7 rfl) rfl rfl (wL_nearest hG hgn hf hk hko hcd) (by decide) (room4 (Nat.le_of_ble_eq_true rfl)) hc hs ?_
  intro v9 u9 hw9
  obtain ⟨code, y, rfl, hk2, hy, hk3, hth, hval, hK⟩ := hm v9 u9 hw9
  refine p_istore X (dcg dcl_51 8 rfl) (by decide) rfl ?_
  refine p_aload_n X (dcg dcl_51 9 rfl) rfl rfl ?_
  refine p_aload_n X (dcg dcl_51 10 rfl) rfl rfl ?_
  refine p_iload X (dcg dcl_51 11 rfl) rfl ?_
  refine p_iconst (v := 1) X (dcg dcl_51 12 rfl) (by decide) ?_
  refine p_iadd X (dcg dcl_51 13 rfl) ?_
  refine p_sld X hlx (dcg dcl_51 14 rfl) (vp_of_inb hib.2.1) ?_
  refine p_callV (As := [_]) X ml_L_333 (dcg dcl_51 15 rfl) rfl rfl hk2 (wX12_nearest hG hy) (by decide) (room4 (Nat.le_of_ble_eq_true rfl)) (Nat.le_trans (Nat.le_of_eq (Nat.add_zero _)) hc) (Nat.le_trans (Nat.le_of_eq (Nat.add_zero _)) hs) ?_
  rintro _ u9 ⟨rfl, e9⟩; have e9 := e9.symm; subst e9
  refine p_istore X (dcg dcl_51 16 rfl) (by decide) rfl ?_
  refine p_aload_n X (dcg dcl_51 17 rfl) rfl rfl ?_
  refine p_callV (As := []) X ml_L_161 (dcg dcl_51 18 rfl) rfl rfl hk3 (wX12_thrown hG hth) (by decide) (room4 (Nat.le_of_ble_eq_true rfl)) (Nat.le_trans (Nat.le_of_eq (Nat.add_zero _)) hc) (Nat.le_trans (Nat.le_of_eq (Nat.add_zero _)) hs) ?_
  rintro _ u9 ⟨rfl, e9⟩; have e9 := e9.symm; subst e9
  refine p_iload X (dcg dcl_51 19 rfl) rfl ?_
  refine p_icmp_eq (tgt := 2998) X (dcg dcl_51 20 rfl) (by decide) (fun q => ?_) (fun q => ?_)
  · refine p_iload X (dcg dcl_51 23 rfl) rfl ?_
    refine p_if_ne (tgt := 3015) X (dcg dcl_51 24 rfl) (by decide) (fun q => ?_) (fun q => ?_)
    · refine p_goto (tgt := 3150) X (dcg dcl_51 34 rfl) (by decide) ?_
      refine p_pick [0, 1, 2, 3, 4, 5] ?_
      exact hK
    · obtain ⟨hko2, hln2, hvl⟩ := hval (Decidable.not_not.mp q)
      refine p_aload_n X (dcg dcl_51 25 rfl) rfl rfl ?_
      refine p_iconst (v := 0) X (dcg dcl_51 26 rfl) (by decide) ?_
      refine p_lald X (dcg dcl_51 27 rfl) hko2 (vp_of_inb ⟨by decide, hln2⟩) ?_
      refine p_iload X (dcg dcl_51 28 rfl) rfl ?_
      refine p_i2l X (dcg dcl_51 29 rfl) ?_
      refine p_lcmp X (dcg dcl_51 30 rfl) ?_
      refine p_if_eq (tgt := 3015) X (dcg dcl_51 31 rfl) (by decide) (fun q => ?_) (fun q => ?_)
      · refine p_goto (tgt := 3150) X (dcg dcl_51 34 rfl) (by decide) ?_
        refine p_pick [0, 1, 2, 3, 4, 5] ?_
        exact hK
      · exact absurd (by rw [hvl]; exact lg_cmp_self _) q
  · exact absurd rfl q
theorem dcl_52 : decs code [(3018, .aload_n 1, 1), (3019, .invokevirtual 334, 3), (3022, .dstore 6, 2), (3024, .aload_n 2, 1), (3025, .invokevirtual 338, 3), (3028, .dstore 8, 2), (3030, .dload 6, 2), (3032, .dload 8, 2), (3034, .dcmp .l, 1), (3035, .ifCond .eq 21, 3), (3038, .dload 6, 2), (3040, .dload 6, 2), (3042, .dcmp .l, 1), (3043, .ifCond .eq 11, 3), (3046, .dload 8, 2), (3048, .dload 8, 2), (3050, .dcmp .l, 1), (3051, .ifCond .ne 5, 3), (3054, .iconst 0, 1), (3055, .ireturn, 1), (3056, .goto 94, 3)] = true := by decide +kernel
set_option maxRecDepth 100000 in
theorem lc_52 {E : PE} {p : Program} {l : Launch} {e : Env} {s : State} {m : MethodId} {args : Array Value} {below : List Frame} {meth : Method} {c : Code} {Qf : State → Prop} {MC MS uc us N : Nat} {xs : Nat → Int32} {xa ma oa da : Nat} {i : Int32} {h : PH} (X : Cx E p l e (rmv 840 MC MS) s m args below meth c RL code 10 ret) (hG : Gs E l) (hgn : Gn E) (hlx : LX E s N xs) (hib : IB i N) {r : UInt64} (hf : fX11_meanLength xa  h = some r) (hk : hK h xa = 11) (hc : uc + 0 ≤ MC) (hs : us + 0 ≤ MS) (hm : ∃ y : UInt64 × PH, hK h ma = 12 ∧ fX12_meanLength ma  h = some y ∧ r = y.1 ∧ PW E p l e (rmv 840 MC MS) s m args below meth c 10 (uc + 0) (us + 0) Qf y.2 3150 [(0, some (.ref 0)), (1, some (.ref xa)), (2, some (.ref ma)), (3, some (.ref oa)), (4, some (.ref da)), (5, some (.int i))] []) : PW E p l e (rmv 840 MC MS) s m args below meth c 10 uc us Qf h 3018 [(0, some (.ref 0)), (1, some (.ref xa)), (2, some (.ref ma)), (3, some (.ref oa)), (4, some (.ref da)), (5, some (.int i))] [] := by
  refine p_aload_n X (dcg dcl_52 0 rfl) rfl rfl ?_
  refine p_callV (As := []) X ml_L_334 (dcg dcl_52 1 rfl) rfl rfl hk (wX11_meanLength hG hf) (by decide) (room4 (Nat.le_of_ble_eq_true rfl)) hc hs ?_
  rintro _ u9 ⟨rfl, e9⟩; have e9 := e9.symm; subst e9
  obtain ⟨y, hk2, hy, hyr, hK⟩ := hm
  refine p_dstore X (dcg dcl_52 2 rfl) (by decide) rfl ?_
  refine p_aload_n X (dcg dcl_52 3 rfl) rfl rfl ?_
  refine p_callV (As := []) X ml_L_338 (dcg dcl_52 4 rfl) rfl rfl hk2 (wX12_meanLength hG hy) (by decide) (room4 (Nat.le_of_ble_eq_true rfl)) (Nat.le_trans (Nat.le_of_eq (Nat.add_zero _)) hc) (Nat.le_trans (Nat.le_of_eq (Nat.add_zero _)) hs) ?_
  rintro _ u9 ⟨rfl, e9⟩; have e9 := e9.symm; subst e9
  refine p_dstore X (dcg dcl_52 5 rfl) (by decide) rfl ?_
  refine p_dload X (dcg dcl_52 6 rfl) rfl ?_
  refine p_dload X (dcg dcl_52 7 rfl) rfl ?_
  refine p_dcmp X (dcg dcl_52 8 rfl) ?_
  refine p_if_eq (tgt := 3056) X (dcg dcl_52 9 rfl) (by decide) (fun q0 => ?_) (fun q0 => ?_)
  · refine p_goto (tgt := 3150) X (dcg dcl_52 20 rfl) (by decide) ?_
    refine p_pick [0, 1, 2, 3, 4, 5] ?_
    exact hK
  · rw [hyr] at q0
    refine p_dload X (dcg dcl_52 10 rfl) rfl ?_
    refine p_dload X (dcg dcl_52 11 rfl) rfl ?_
    refine p_dcmp X (dcg dcl_52 12 rfl) ?_
    refine p_if_eq (tgt := 3054) X (dcg dcl_52 13 rfl) (by decide) (fun q1 => ?_) (fun q1 => ?_)
    · rw [hyr] at q1; exact absurd q1 q0
    · refine p_dload X (dcg dcl_52 14 rfl) rfl ?_
      refine p_dload X (dcg dcl_52 15 rfl) rfl ?_
      refine p_dcmp X (dcg dcl_52 16 rfl) ?_
      refine p_if_ne (tgt := 3056) X (dcg dcl_52 17 rfl) (by decide) (fun q2 => ?_) (fun q2 => ?_)
      · refine p_goto (tgt := 3150) X (dcg dcl_52 20 rfl) (by decide) ?_
        refine p_pick [0, 1, 2, 3, 4, 5] ?_
        exact hK
      · exact absurd q0 q2
theorem dcl_53 : decs code [(3059, .aload_n 1, 1), (3060, .aload_n 0, 1), (3061, .iload 5, 2), (3063, .iconst 1, 1), (3064, .iadd, 1), (3065, .iaload, 1), (3066, .aload 4, 2), (3068, .invokestatic 339, 3), (3071, .istore 6, 2), (3073, .aload_n 2, 1), (3074, .aload_n 0, 1), (3075, .iload 5, 2), (3077, .iconst 1, 1), (3078, .iadd, 1), (3079, .iaload, 1), (3080, .invokevirtual 342, 3), (3083, .fstore 7, 2), (3085, .aload_n 2, 1), (3086, .invokevirtual 161, 3), (3089, .iload 6, 2), (3091, .if_icmp .eq 5, 3), (3094, .iconst 0, 1), (3095, .ireturn, 1), (3096, .iload 6, 2), (3098, .ifCond .ne 36, 3), (3101, .aload 4, 2), (3103, .iconst 0, 1), (3104, .daload, 1), (3105, .fload 7, 2), (3107, .f2d, 1), (3108, .dcmp .l, 1), (3109, .ifCond .eq 25, 3), (3112, .aload 4, 2), (3114, .iconst 0, 1), (3115, .daload, 1), (3116, .aload 4, 2), (3118, .iconst 0, 1), (3119, .daload, 1), (3120, .dcmp .l, 1), (3121, .ifCond .eq 11, 3), (3124, .fload 7, 2), (3126, .fload 7, 2), (3128, .fcmp .l, 1), (3129, .ifCond .ne 5, 3), (3132, .iconst 0, 1), (3133, .ireturn, 1), (3134, .goto 16, 3)] = true := by decide +kernel
set_option maxRecDepth 100000 in
theorem lc_53 {E : PE} {p : Program} {l : Launch} {e : Env} {s : State} {m : MethodId} {args : Array Value} {below : List Frame} {meth : Method} {c : Code} {Qf : State → Prop} {MC MS uc us N : Nat} {xs : Nat → Int32} {xa ma oa da : Nat} {i : Int32} {h : PH} (X : Cx E p l e (rmv 840 MC MS) s m args below meth c RL code 10 ret) (hG : Gs E l) (hgn : Gn E) (hlx : LX E s N xs) (hib : IB i N) {r : ((UInt32 × PH) ⊕ (Nat × PH))} (hf : fX11_share xa (xs (Int32.toNatClampNeg (i + (1 : Int32)))) h = some r) (hk : hK h xa = 11) (hko : ∀ z, r = .inl z → hK z.2 da = 24 ∧ 0 < hN z.2 da) (hcd : ∀ z, r = .inr z → z.1 = 1) (hnz : ∀ z, r = .inl z → n64 (FP.f2d z.1)) (hc : uc + (xT2 r - hX h) ≤ MC) (hs : us + (vT2 r - hV h) ≤ MS) (hm : ∀ (v : Option Value) (u : PH), ((∃ z : UInt32 × PH, r = .inl z ∧ v = some (.int 0) ∧ u = sD z.2 da (Int32.toNatClampNeg 0) (FP.f2d z.1)) ∨ (∃ (z : Nat × PH) (n : Nat), r = .inr z ∧ hX z.2 ≤ n ∧ u = hbump z.2 n ∧ ((z.1 = 1 ∧ v = some (.int 1))))) → ∃ (code : Int32) (y : UInt32 × PH), v = some (.int code) ∧ hK u ma = 12 ∧ fX12_share ma (xs (Int32.toNatClampNeg (i + (1 : Int32)))) u = some y ∧ hK y.2 ma = 12 ∧ fX12_thrown ma y.2 = some code ∧ (code = 0 → hK y.2 da = 24 ∧ 0 < hN y.2 da ∧ hD y.2 da (Int32.toNatClampNeg 0) = FP.f2d y.1 ∧ n64 (FP.f2d y.1) ∧ Op.cmpValue (FP.dcmp (FP.f2d y.1) (FP.f2d y.1)) .l = 0) ∧ PW E p l e (rmv 840 MC MS) s m args below meth c 10 (uc + (xT2 r - hX h)) (us + (vT2 r - hV h)) Qf y.2 3150 [(0, some (.ref 0)), (1, some (.ref xa)), (2, some (.ref ma)), (3, some (.ref oa)), (4, some (.ref da)), (5, some (.int i))] []) : PW E p l e (rmv 840 MC MS) s m args below meth c 10 uc us Qf h 3059 [(0, some (.ref 0)), (1, some (.ref xa)), (2, some (.ref ma)), (3, some (.ref oa)), (4, some (.ref da)), (5, some (.int i))] [] := by
  refine p_aload_n X (dcg dcl_53 0 rfl) rfl rfl ?_
  refine p_aload_n X (dcg dcl_53 1 rfl) rfl rfl ?_
  refine p_iload X (dcg dcl_53 2 rfl) rfl ?_
  refine p_iconst (v := 1) X (dcg dcl_53 3 rfl) (by decide) ?_
  refine p_iadd X (dcg dcl_53 4 rfl) ?_
  refine p_sld X hlx (dcg dcl_53 5 rfl) (vp_of_inb hib.2.1) ?_
  refine p_aload X (dcg dcl_53 6 rfl) rfl ?_
  refine p_callSH (As := [_, _, _]) X mlh_339 (dcg dcl_53 7 rfl) rfl rfl (wL_share hG hgn hf hk hko hcd hnz) (by decide) (room4 (Nat.le_of_ble_eq_true rfl)) hc hs ?_
  intro v9 u9 hw9
  obtain ⟨code, y, rfl, hk2, hy, hk3, hth, hval, hK⟩ := hm v9 u9 hw9
  refine p_istore X (dcg dcl_53 8 rfl) (by decide) rfl ?_
  refine p_aload_n X (dcg dcl_53 9 rfl) rfl rfl ?_
  refine p_aload_n X (dcg dcl_53 10 rfl) rfl rfl ?_
  refine p_iload X (dcg dcl_53 11 rfl) rfl ?_
  refine p_iconst (v := 1) X (dcg dcl_53 12 rfl) (by decide) ?_
  refine p_iadd X (dcg dcl_53 13 rfl) ?_
  refine p_sld X hlx (dcg dcl_53 14 rfl) (vp_of_inb hib.2.1) ?_
  refine p_callV (As := [_]) X ml_L_342 (dcg dcl_53 15 rfl) rfl rfl hk2 (wX12_share hG hy) (by decide) (room4 (Nat.le_of_ble_eq_true rfl)) (Nat.le_trans (Nat.le_of_eq (Nat.add_zero _)) hc) (Nat.le_trans (Nat.le_of_eq (Nat.add_zero _)) hs) ?_
  rintro _ u9 ⟨rfl, e9⟩; have e9 := e9.symm; subst e9
  refine p_fstore X (dcg dcl_53 16 rfl) (by decide) rfl ?_
  refine p_aload_n X (dcg dcl_53 17 rfl) rfl rfl ?_
  refine p_callV (As := []) X ml_L_161 (dcg dcl_53 18 rfl) rfl rfl hk3 (wX12_thrown hG hth) (by decide) (room4 (Nat.le_of_ble_eq_true rfl)) (Nat.le_trans (Nat.le_of_eq (Nat.add_zero _)) hc) (Nat.le_trans (Nat.le_of_eq (Nat.add_zero _)) hs) ?_
  rintro _ u9 ⟨rfl, e9⟩; have e9 := e9.symm; subst e9
  refine p_iload X (dcg dcl_53 19 rfl) rfl ?_
  refine p_icmp_eq (tgt := 3096) X (dcg dcl_53 20 rfl) (by decide) (fun q => ?_) (fun q => ?_)
  · refine p_iload X (dcg dcl_53 23 rfl) rfl ?_
    refine p_if_ne (tgt := 3134) X (dcg dcl_53 24 rfl) (by decide) (fun q => ?_) (fun q => ?_)
    · refine p_goto (tgt := 3150) X (dcg dcl_53 46 rfl) (by decide) ?_
      refine p_pick [0, 1, 2, 3, 4, 5] ?_
      exact hK
    · obtain ⟨hko2, hln2, hvl, hnn, hself⟩ := hval (Decidable.not_not.mp q)
      refine p_aload X (dcg dcl_53 25 rfl) rfl ?_
      refine p_iconst (v := 0) X (dcg dcl_53 26 rfl) (by decide) ?_
      refine p_dald X (dcg dcl_53 27 rfl) hko2 (vp_of_inb ⟨by decide, hln2⟩) ?_
      refine p_fload X (dcg dcl_53 28 rfl) rfl ?_
      refine p_f2d X (dcg dcl_53 29 rfl) hnn ?_
      refine p_dcmp X (dcg dcl_53 30 rfl) ?_
      refine p_if_eq (tgt := 3134) X (dcg dcl_53 31 rfl) (by decide) (fun q0 => ?_) (fun q0 => ?_)
      · refine p_goto (tgt := 3150) X (dcg dcl_53 46 rfl) (by decide) ?_
        refine p_pick [0, 1, 2, 3, 4, 5] ?_
        exact hK
      · exact absurd (by rw [hvl]; exact hself) q0
  · exact absurd rfl q
theorem dcl_54 : decs code [(3137, .aload_n 1, 1), (3138, .invokevirtual 343, 3), (3141, .aload_n 2, 1), (3142, .invokevirtual 346, 3), (3145, .if_icmp .eq 5, 3), (3148, .iconst 0, 1), (3149, .ireturn, 1)] = true := by decide +kernel
set_option maxRecDepth 100000 in
theorem lc_54 {E : PE} {p : Program} {l : Launch} {e : Env} {s : State} {m : MethodId} {args : Array Value} {below : List Frame} {meth : Method} {c : Code} {Qf : State → Prop} {MC MS uc us N : Nat} {xs : Nat → Int32} {xa ma oa da : Nat} {i : Int32} {h : PH} (X : Cx E p l e (rmv 840 MC MS) s m args below meth c RL code 10 ret) (hG : Gs E l) (hgn : Gn E) (hlx : LX E s N xs) (hib : IB i N) {r : (Int32 × PH)} (hf : fX11_errors xa  h = some r) (hk : hK h xa = 11) (hc : uc + (hX r.2 - hX h) ≤ MC) (hs : us + (hV r.2 - hV h) ≤ MS) (hm : ∃ y : Int32 × PH, hK r.2 ma = 12 ∧ fX12_errors ma  r.2 = some y ∧ r.1 = y.1 ∧ PW E p l e (rmv 840 MC MS) s m args below meth c 10 (uc + (hX r.2 - hX h)) (us + (hV r.2 - hV h)) Qf y.2 3150 [(0, some (.ref 0)), (1, some (.ref xa)), (2, some (.ref ma)), (3, some (.ref oa)), (4, some (.ref da)), (5, some (.int i))] []) : PW E p l e (rmv 840 MC MS) s m args below meth c 10 uc us Qf h 3137 [(0, some (.ref 0)), (1, some (.ref xa)), (2, some (.ref ma)), (3, some (.ref oa)), (4, some (.ref da)), (5, some (.int i))] [] := by
  refine p_aload_n X (dcg dcl_54 0 rfl) rfl rfl ?_
  refine p_callV (As := []) X ml_L_343 (dcg dcl_54 1 rfl) rfl rfl hk (wX11_errors hG hf) (by decide) (room4 (Nat.le_of_ble_eq_true rfl)) hc hs ?_
  rintro _ u9 ⟨rfl, e9⟩; have e9 := e9.symm; subst e9
  obtain ⟨y, hk2, hy, hyr, hK⟩ := hm
  refine p_aload_n X (dcg dcl_54 2 rfl) rfl rfl ?_
  refine p_callV (As := []) X ml_L_346 (dcg dcl_54 3 rfl) rfl rfl hk2 (wX12_errors hG hy) (by decide) (room4 (Nat.le_of_ble_eq_true rfl)) (Nat.le_trans (Nat.le_of_eq (Nat.add_zero _)) hc) (Nat.le_trans (Nat.le_of_eq (Nat.add_zero _)) hs) ?_
  rintro _ u9 ⟨rfl, e9⟩; have e9 := e9.symm; subst e9
  refine p_icmp_eq (tgt := 3150) X (dcg dcl_54 4 rfl) (by decide) (fun q => ?_) (fun q => ?_)
  · refine p_pick [0, 1, 2, 3, 4, 5] ?_
    exact hK
  · exact absurd hyr q
