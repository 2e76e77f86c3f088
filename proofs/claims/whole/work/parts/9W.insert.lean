/-! LISTS: one more within, one less -/
theorem mem_ins {xs : List Nat} {p x y : Nat} (h : y ∈ insAt xs p x) : y = x ∨ y ∈ xs := by
  unfold insAt at h
  rcases List.mem_append.mp h with z | z
  · exact Or.inr (List.mem_of_mem_take z)
  · rcases List.mem_cons.mp z with z | z
    · exact Or.inl z
    · exact Or.inr (List.mem_of_mem_drop z)
/-- what arraycopy within a row asks -/
theorem cpy_ok {h : PH} {e n : Nat} {sp dp m : Nat} (k4 : hK h e = 28) (hn : hN h e = n) (b : n < 2 ^ 31) (h1 : sp + m ≤ n) (h2 : dp + m ≤ n) (h0 : n ≠ 0) (ok : ∀ i, i < m → ∀ x, hR h 28 e (sp + i) = some x → hK h x < 15) : (cpyok h 28 e e (nI sp) (nI dp) (nI m) ∧ hN h e ≠ 0 ∧ hN h e ≠ 0) ∧ okrs h e (nI sp) (nI m) = true := by
  have c1 : Int32.toNatClampNeg (nI sp) = sp := nI_clamp (by omega)
  have c2 : Int32.toNatClampNeg (nI dp) = dp := nI_clamp (by omega)
  have c3 : Int32.toNatClampNeg (nI m) = m := nI_clamp (by omega)
  refine ⟨⟨⟨k4, k4, nI_pos (by omega), nI_pos (by omega), nI_pos (by omega), by rw [c1, c3, hn]; exact h1, by rw [c2, c3, hn]; exact h2⟩, by rw [hn]; exact h0, by rw [hn]; exact h0⟩, okrs_t (fun i hi x hx => ?_)⟩
  rw [c3] at hi
  rw [c1] at hx
  exact ok i hi x hx
theorem insert_b38 {h : PH} {l e : Nat} {xs : List Nat} (A : LA h l e xs) (hl : xs.length ≤ 5000) (hr : xs.length < hN h e) {p x : Nat} (hp : p ≤ xs.length) (hx : hK h x < 15) (hx2 : x < hX h) : ∃ h', fJx4a65c_add_7a177_b38 l (nI p) (some x) (nI xs.length) (some e) h = some h' ∧ LA h' l e (insAt xs p x) ∧ chg (lF l) (lG l e) lL h h' ∧ hX h' = hX h ∧ hV h' = hV h ∧ hN h' = hN h := by
  obtain ⟨k1, k2, k3, k4, k5, k6, k7, k8, k9, k10, k11, k12⟩ := A
  have cp : Int32.toNatClampNeg (nI p) = p := nI_clamp (by omega)
  have cp1 : Int32.toNatClampNeg (nI (p + 1)) = p + 1 := nI_clamp (by omega)
  have cm : Int32.toNatClampNeg (nI (xs.length - p)) = xs.length - p := nI_clamp (by omega)
  have g1 := cpy_ok (h := h) (e := e) (sp := p) (dp := p + 1) (m := xs.length - p) k4 rfl (by omega) (by omega) (by omega) (by omega) (fun i hi y hy => by
    rw [k6 (p + i) (by omega)] at hy
    have hy : xs.getD (p + i) 0 = y := Option.some.inj hy
    rw [← hy]
    exact k8 _ (mem_getD (by omega)))
  unfold fJx4a65c_add_7a177_b38
  rw [gs_t, nI_1, pk_sub hp, gd_t g1, lt_t, gd_t (show hK (cpyR h 28 e e (nI p) (nI (p + 1)) (nI (xs.length - p))) e = 28 ∧ inb (nI p) (hN (cpyR h 28 e e (nI p) (nI (p + 1)) (nI (xs.length - p))) e) from ⟨k4, inbI (show p < hN h e by omega) (show hN h e < 2 ^ 31 by omega)⟩), gd_t (show okr (cpyR h 28 e e (nI p) (nI (p + 1)) (nI (xs.length - p))) (some x) = true from decide_eq_true hx), lt_t, gd_t (show hK (sR (cpyR h 28 e e (nI p) (nI (p + 1)) (nI (xs.length - p))) 28 e (Int32.toNatClampNeg (nI p)) (some x)) l = 14 from k1), lt_t, nI_1]
  unfold cpyR
  rw [cp, cp1, cm]
  refine ⟨_, rfl, ⟨k1, ?_, ?_, k4, ?_, ?_, ?_, ?_, k9, k10, k11, ?_⟩, (((chg.rf _ _ _ h).aRa _ (fun _ _ => Or.inr ⟨rfl, rfl⟩)).aR _ (fun _ => Or.inr ⟨rfl, rfl⟩)).aI _ (fun _ => ⟨rfl, rfl, Or.inr rfl⟩), rfl, rfl, rfl⟩
  · rw [hI_sI, if_pos ⟨rfl, rfl, rfl⟩, insAt_len hp]
  · rw [hR_sI, hR_sR, if_neg (by simp), hR_sRa, if_neg (by simp)]; exact k3
  · rw [insAt_len hp]; exact hr
  · intro i hi
    rw [insAt_len hp] at hi
    rw [hR_sI, hR_sR, hR_sRa, if_pos (show (28 : Nat) = 28 ∧ e = e from ⟨rfl, rfl⟩), insAt_getD hp]
    by_cases z : i = p
    · rw [if_pos ⟨rfl, rfl, z⟩, if_neg (by omega), if_pos z]
    · rw [if_neg (fun y => z y.2.2)]
      by_cases z2 : i < p
      · rw [if_pos z2, pk_cpy_out (Or.inl (by omega))]
        exact k6 i (by omega)
      · rw [if_neg z2, if_neg z, pk_cpy_in (by omega) (by omega), show p + (i - (p + 1)) = i - 1 by omega]
        exact k6 (i - 1) (by omega)
  · intro z
    exact k7 z
  · intro y hy
    rcases mem_ins hy with z | z
    · rw [z]; exact hx
    · exact k8 y z
  · intro y hy
    rcases mem_ins hy with z | z
    · rw [z]; exact hx2
    · exact k12 y z
theorem listInsert_eq {h : PH} {l e : Nat} {xs : List Nat} (A : LA h l e xs) (hl : xs.length ≤ 5000) {p x : Nat} (hp : p ≤ xs.length) (hx : hK h x < 15) (hx2 : x < hX h) : ∃ e' h', fJx4a65c_add_7a177 l (nI p) (some x) h = some h' ∧ LA h' l e' (insAt xs p x) ∧ chg (lF l) (lG l e) lL h h' ∧ GR h h' e e' xs.length := by
  have A0 := A.mod (hI h 14 l 0 + 1)
  have c0 : chg (lF l) (lG l e) lL h (sI h 14 l 0 (hI h 14 l 0 + 1)) := chg_sI h _ (fun _ => ⟨rfl, rfl, Or.inl rfl⟩)
  have rc : fJx4a65c_rangeCheckForAdd_d00df l (nI p) h = some () := by
    unfold fJx4a65c_rangeCheckForAdd_d00df
    rw [gd_t A.1, A.2.1, if_neg (by rw [nI_ltI (by omega) (by omega)]; omega), if_pos (nI_pos' (by omega))]
  unfold fJx4a65c_add_7a177 fJx4a65c_add_7a177_b0 fJx4a65c_add_7a177_b36
  rw [gd_t A.1, rc, bd_t, lt_t, A0.2.2.1, A0.2.1, gs_t, gd_t A0.2.2.2.1]
  rcases room_eq A0 hl with z | ⟨z, h1, g1, g2, g3, g4, g5, g6⟩
  · obtain ⟨h', r1, r2, r3, r4, r5, r6⟩ := insert_b38 A0 hl z (x := x) hp hx hx2
    rw [if_pos (by rw [nI_eq (by omega) (by have := A0.2.2.2.2.2.2.2.2.1; omega)]; omega), r1]
    refine ⟨e, h', rfl, r2, c0.tr r3, ?_, ?_, ?_, Or.inl ?_, Or.inl rfl⟩
    · rw [r4]; exact Nat.le_succ _
    · rw [r6]; exact Nat.le_refl _
    · rw [r6, r5]; exact Nat.le_refl _
    · rw [r6]; rfl
  · have kx : hK h1 x < 15 := by rw [(g3.2.2.2.2 x hx2).1]; exact hx
    obtain ⟨h', r1, r2, r3, r4, r5, r6⟩ := insert_b38 g2 hl g5 hp kx (Nat.lt_of_lt_of_le hx2 g3.1)
    rw [if_neg (fun y => y (by rw [z])), g1, bd_t, r1]
    refine ⟨hX h, h', rfl, r2, (c0.tr g3).lt r3 (Or.inr rfl), ?_, ?_, ?_, ?_, Or.inr rfl⟩
    · rw [r4]; exact g4.1
    · rw [r6]; exact g4.2.1
    · rw [r6, r5]; exact g4.2.2.1
    · rw [r6]; exact g4.2.2.2.1
theorem erase_getD {xs : List Nat} {p : Nat} (i : Nat) : (xs.eraseIdx p).getD i 0 = if i < p then xs.getD i 0 else xs.getD (i + 1) 0 := by
  rw [List.getD_eq_getElem?_getD, List.getElem?_eraseIdx]
  split
  · rw [List.getD_eq_getElem?_getD]
  · rw [List.getD_eq_getElem?_getD]
theorem listRemove_eq {h : PH} {l e : Nat} {xs : List Nat} (A : LA h l e xs) (hl : xs.length ≤ 5000) {p : Nat} (hp : p < xs.length) : ∃ h', fJx4a65c_remove_915e3 l (nI p) h = some (some (xs.getD p 0), h') ∧ LA h' l e (xs.eraseIdx p) ∧ chg (lF l) (lG l e) lL h h' ∧ hX h' = hX h ∧ hV h' = hV h ∧ hN h' = hN h := by
  have c0 : chg (lF l) (lG l e) lL h (sI h 14 l 0 (hI h 14 l 0 + 1)) := chg_sI h _ (fun _ => ⟨rfl, rfl, Or.inl rfl⟩)
  have A0 := A.mod (hI h 14 l 0 + 1)
  have ck : fJ15_checkIndex_7cf53 (nI p) (nI xs.length) = some (nI p) := by
    unfold fJ15_checkIndex_7cf53 fJ3_checkIndex_8e157
    rw [if_neg (nI_pos (by omega)), if_pos (nI_lt hp (by omega)), bd_t]
  have clp : Int32.toNatClampNeg (nI p) = p := nI_clamp (by omega)
  have hlen : (xs.eraseIdx p).length = xs.length - 1 := List.length_eraseIdx_of_lt hp
  unfold fJx4a65c_remove_915e3 fJx4a65c_fastRemove_b59b0
  rw [gd_t A.1, A.2.1, ck, bd_t, A.2.2.1, gs_t, gd_t ⟨A.2.2.2.1, inbI (by have := A.2.2.2.2.1; omega) (by have := A.2.2.2.2.2.2.2.2.1; omega)⟩, gd_t A.1, lt_t, A0.2.1, show nI xs.length - (1 : Int32) = nI (xs.length - 1) from pk_sub (a := xs.length) (b := 1) (by omega)]
  have fin : ∀ g, LA (sI h 14 l 0 (hI h 14 l 0 + 1)) l e xs → chg (lF l) (lG l e) lL h g → hK g = hK h → hX g = hX h → hV g = hV h → hN g = hN h → hR g 14 l 1 = some e → (∀ i, i < xs.length - 1 → hR g 28 e i = some ((xs.eraseIdx p).getD i 0)) → ∃ h', fJx4a65c_fastRemove_b59b0_b34 l (some e) (nI (xs.length - 1)) g = some h' ∧ LA h' l e (xs.eraseIdx p) ∧ chg (lF l) (lG l e) lL h h' ∧ hX h' = hX h ∧ hV h' = hV h ∧ hN h' = hN h := by
    intro g A0 cg kg xg vg ng rg rr
    obtain ⟨k1, k2, k3, k4, k5, k6, k7, k8, k9, k10, k11, k12⟩ := A
    have cl : Int32.toNatClampNeg (nI (xs.length - 1)) = xs.length - 1 := nI_clamp (by omega)
    have g1 : hK g l = 14 := by rw [kg]; exact k1
    have g2 : hK g e = 28 := by rw [kg]; exact k4
    unfold fJx4a65c_fastRemove_b59b0_b34
    rw [gd_t g1, lt_t, gs_t, gd_t (show hK (sI g 14 l 2 (nI (xs.length - 1))) e = 28 ∧ inb (nI (xs.length - 1)) (hN (sI g 14 l 2 (nI (xs.length - 1))) e) from ⟨g2, inbI (show xs.length - 1 < hN g e by rw [ng]; omega) (show hN g e < 2 ^ 31 by rw [ng]; omega)⟩), gd_t (show okr (sI g 14 l 2 (nI (xs.length - 1))) none = true from rfl), lt_t, cl]
    refine ⟨_, rfl, ⟨g1, ?_, ?_, g2, ?_, ?_, ?_, ?_, ?_, ?_, ?_, ?_⟩, (cg.aI _ (fun _ => ⟨rfl, rfl, Or.inr rfl⟩)).aR _ (fun _ => Or.inr ⟨rfl, rfl⟩), xg, vg, ng⟩
    · rw [hI_sR, hI_sI, if_pos ⟨rfl, rfl, rfl⟩, hlen]
    · rw [hR_sR, if_neg (by simp), hR_sI]; exact rg
    · rw [hN_sR, hN_sI, ng, hlen]; omega
    · intro i hi
      rw [hlen] at hi
      rw [hR_sR, if_neg (by omega), hR_sI]
      exact rr i hi
    · intro z
      rw [hN_sR, hN_sI, ng] at z
      exact k7 z
    · intro y hy
      rw [hK_sR, hK_sI, kg]
      exact k8 y (List.mem_of_mem_eraseIdx hy)
    · rw [hN_sR, hN_sI, ng]; exact k9
    · rw [hX_sR, hX_sI, xg]; exact k10
    · rw [hX_sR, hX_sI, xg]; exact k11
    · intro y hy
      rw [hX_sR, hX_sI, xg]
      exact k12 y (List.mem_of_mem_eraseIdx hy)
  have pe : hR h 28 e (Int32.toNatClampNeg (nI p)) = some (xs.getD p 0) := by rw [clp]; exact A.2.2.2.2.2.1 p hp
  rw [pe]
  by_cases z : xs.length - 1 ≤ p
  · obtain ⟨h', r1, r2⟩ := fin _ A0 c0 rfl rfl rfl rfl A0.2.2.1 (fun i hi => by
      rw [erase_getD, if_pos (by omega)]
      exact A.2.2.2.2.2.1 i (by omega))
    rw [if_pos (nI_le z (by omega)), r1, bd_t]
    exact ⟨h', rfl, r2⟩
  · have k4 := A.2.2.2.1
    have k5 := A.2.2.2.2.1
    have k9 := A.2.2.2.2.2.2.2.2.1
    have g1 := cpy_ok (h := sI h 14 l 0 (hI h 14 l 0 + 1)) (e := e) (n := hN h e) (sp := p + 1) (dp := p) (m := xs.length - 1 - p) k4 rfl (by omega) (by omega) (by omega) (by omega) (fun i hi y hy => by
      rw [A0.2.2.2.2.2.1 (p + 1 + i) (by omega)] at hy
      have hy : xs.getD (p + 1 + i) 0 = y := Option.some.inj hy
      rw [← hy]
      exact A0.2.2.2.2.2.2.2.1 _ (mem_getD (by omega)))
    have cm : Int32.toNatClampNeg (nI (xs.length - 1 - p)) = xs.length - 1 - p := nI_clamp (by omega)
    have cp1 : Int32.toNatClampNeg (nI (p + 1)) = p + 1 := nI_clamp (by omega)
    rw [if_neg (nI_ge (by omega) (by omega)), gs_t, nI_1, pk_sub (by omega), gd_t g1, lt_t]
    obtain ⟨h', r1, r2⟩ := fin (cpyR (sI h 14 l 0 (hI h 14 l 0 + 1)) 28 e e (nI (p + 1)) (nI p) (nI (xs.length - 1 - p))) A0 (c0.aRa _ (fun _ _ => Or.inr ⟨rfl, rfl⟩)) rfl rfl rfl rfl (by
      unfold cpyR
      rw [hR_sRa, if_neg (by simp)]
      exact A0.2.2.1) (fun i hi => by
      unfold cpyR
      rw [hR_sRa, if_pos (show (28 : Nat) = 28 ∧ e = e from ⟨rfl, rfl⟩), clp, cp1, cm, erase_getD]
      by_cases z2 : i < p
      · rw [if_pos z2, pk_cpy_out (Or.inl z2)]
        exact A.2.2.2.2.2.1 i (by omega)
      · rw [if_neg z2, pk_cpy_in (by omega) (by omega), show p + 1 + (i - p) = i + 1 by omega]
        exact A.2.2.2.2.2.1 (i + 1) (by omega))
    rw [r1, bd_t]
    exact ⟨h', rfl, r2⟩
