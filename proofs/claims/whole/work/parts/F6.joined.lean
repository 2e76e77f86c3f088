/-! NODES over others are made -/
theorem listAdd_room {h : PH} {l e : Nat} {xs : List Nat} (A : LA h l e xs) (hl : xs.length ≤ 5000) (hr : xs.length < hN h e) {x : Nat} (hx : hK h x < 15) (hx2 : x < hX h) : ∃ h', fJx4a65c_add_9ea2d l (some x) h = some (1, h') ∧ LA h' l e (xs ++ [x]) ∧ chg (lF l) (lG l e) lL h h' ∧ hX h' = hX h ∧ hV h' = hV h ∧ hN h' = hN h := by
  have A0 := A.mod (hI h 14 l 0 + 1)
  have c0 : chg (lF l) (lG l e) lL h (sI h 14 l 0 (hI h 14 l 0 + 1)) := chg_sI h _ (fun _ => ⟨rfl, rfl, Or.inl rfl⟩)
  unfold fJx4a65c_add_9ea2d fJx4a65c_add_9ea2d_b0 fJx4a65c_add_72be8 fJx4a65c_add_72be8_b0 fJx4a65c_add_72be8_b10
  rw [gd_t A.1, lt_t, A0.2.2.1, A0.2.1, gs_t, gd_t A0.2.2.2.1]
  obtain ⟨h', r1, r2, r3, r4, r5, r6⟩ := push_eq A0 hl hr (x := x) hx hx2
  have z : xs.length < hN (sI h 14 l 0 (hI h 14 l 0 + 1)) e := hr
  rw [if_pos (by rw [nI_eq (by omega) (by have := A0.2.2.2.2.2.2.2.2.1; omega)]; omega), r1, bd_t]
  exact ⟨h', rfl, r2, c0.tr r3, r4, r5, r6⟩
theorem listAdd_full {h : PH} {l e : Nat} {xs : List Nat} (A : LA h l e xs) (hl : xs.length ≤ 5000) (hf : xs.length = hN h e) {x : Nat} (hx : hK h x < 15) (hx2 : x < hX h) : ∃ h', fJx4a65c_add_9ea2d l (some x) h = some (1, h') ∧ LA h' l (hX h) (xs ++ [x]) ∧ chg (lF l) (lG l e) lL h h' ∧ hX h' = hX h + 1 ∧ hV h' = hV h + capU (hN h e) ∧ hN h' (hX h) = capU (hN h e) := by
  have A0 := A.mod (hI h 14 l 0 + 1)
  have c0 : chg (lF l) (lG l e) lL h (sI h 14 l 0 (hI h 14 l 0 + 1)) := chg_sI h _ (fun _ => ⟨rfl, rfl, Or.inl rfl⟩)
  unfold fJx4a65c_add_9ea2d fJx4a65c_add_9ea2d_b0 fJx4a65c_add_72be8 fJx4a65c_add_72be8_b0 fJx4a65c_add_72be8_b10
  rw [gd_t A.1, lt_t, A0.2.2.1, A0.2.1, gs_t, gd_t A0.2.2.2.1]
  have z : xs.length = hN (sI h 14 l 0 (hI h 14 l 0 + 1)) e := hf
  obtain ⟨h1, g1, g2, g3, g4, g5, g6, g7⟩ := grow_eq A0 z hl
  have b := capU_b (hN h e)
  have hx1 : hX h1 = hX h + 1 := g5
  have hv1 : hV h1 = hV h + capU (hN h e) := g6
  have hn1 : hN h1 (hX h) = capU (hN h e) := g3
  have g4' : chg (lF l) (lG l e) lL (sI h 14 l 0 (hI h 14 l 0 + 1)) h1 := g4.mono (fun _ _ _ _ y => y.elim) (fun c a k _ y => Or.inl y) (fun _ _ y => y)
  have kx : hK h1 x < 15 := by rw [(g4'.2.2.2.2 x hx2).1]; exact hx
  obtain ⟨h', r1, r2, r3, r4, r5, r6⟩ := push_eq g2 hl (show xs.length < hN h1 (hX h) by omega) kx (Nat.lt_of_lt_of_le hx2 g4'.1)
  have r1' : fJx4a65c_add_72be8_b11 l (some x) (some (hX (sI h 14 l 0 (hI h 14 l 0 + 1)))) (nI xs.length) h1 = some h' := r1
  rw [if_neg (fun y => y (by rw [z])), gd_t A0.1, g1, bd_t, r1', bd_t]
  refine ⟨h', rfl, r2, (c0.tr g4').lt r3 (Or.inr rfl), ?_, ?_, ?_⟩
  · rw [r4]; exact hx1
  · rw [r5]; exact hv1
  · rw [r6]; exact hn1
theorem node_new {g : PH} (c : CSh g) (b : 89 ≤ hX g) (kd : Nat) : ∃ g', fX4_joined (nI kd) g = some (some (hX g), g') ∧ nc g g' ∧ hX g' = hX g + 2 ∧ hV g' = hV g + 7 ∧ hK g' (hX g) = 4 ∧ hI g' 4 (hX g) 0 = nI kd ∧ hR g' 4 (hX g) 3 = some (hX g + 1) ∧ LA g' (hX g + 1) 3 [] := by
  have no : ∀ {q : Prop}, hX g < hX g → q := fun y => absurd y (Nat.lt_irrefl _)
  have x1 : nc g (sI (sR (sI (hnew g 4 4) 4 (hX g) 0 (nI kd)) 4 (hX g) 1 (some 2)) 4 (hX g) 2 0) := ((((chg.rf _ _ _ g).aN 4 4).aI _ no).aR _ no).aI _ no
  have hx1 : hX (sI (sR (sI (hnew g 4 4) 4 (hX g) 0 (nI kd)) 4 (hX g) 1 (some 2)) 4 (hX g) 2 0) = hX g + 1 := rfl
  have hv1 : hV (sI (sR (sI (hnew g 4 4) 4 (hX g) 0 (nI kd)) 4 (hX g) 1 (some 2)) 4 (hX g) 2 0) = hV g + 4 := rfl
  have a1 : hK (sI (sR (sI (hnew g 4 4) 4 (hX g) 0 (nI kd)) 4 (hX g) 1 (some 2)) 4 (hX g) 2 0) (hX g) = 4 := by
    show hK (hnew g 4 4) (hX g) = 4
    rw [hK_new, if_pos rfl]
  have a2 : hI (sI (sR (sI (hnew g 4 4) 4 (hX g) 0 (nI kd)) 4 (hX g) 1 (some 2)) 4 (hX g) 2 0) 4 (hX g) 0 = nI kd := by rw [hI_sI, if_neg (by simp), hI_sR, hI_sI, if_pos ⟨rfl, rfl, rfl⟩]
  have gk : hK (hnew g 4 4) (hX g) = 4 := by rw [hK_new, if_pos rfl]
  have u1 : fX4_joined (nI kd) g = bd (fX4_init_b23 (hX g) (hX (sI (sR (sI (hnew g 4 4) 4 (hX g) 0 (nI kd)) 4 (hX g) 1 (some 2)) 4 (hX g) 2 0)) (hnew (sI (sR (sI (hnew g 4 4) 4 (hX g) 0 (nI kd)) 4 (hX g) 1 (some 2)) 4 (hX g) 2 0) 14 3)) (fun z1 => some (some (hX g), z1)) := by
    unfold fX4_joined fX4_joined_b0 fX4_joined_b3 fX4_joined_b12 fX4_init fX4_init_b0
    rw [gd_t gk, lt_t, lt_t, lt_t]
  rw [u1]
  generalize sI (sR (sI (hnew g 4 4) 4 (hX g) 0 (nI kd)) 4 (hX g) 1 (some 2)) 4 (hX g) 2 0 = h1 at *
  have nn : hX g ≠ hX h1 := by omega
  have no2 : ∀ {q : Prop}, hX h1 < hX g → q := fun y => absurd y (by omega)
  have x2 : nc g (sR (sR (sI (hnew h1 14 3) 14 (hX h1) 0 0) 14 (hX h1) 1 (some 3)) 4 (hX g) 3 (some (hX h1))) := (((x1.aN 14 3).aI _ no2).aR _ no2).aR _ no
  have k14 : hK (hnew h1 14 3) (hX h1) = 14 := by rw [hK_new, if_pos rfl]
  have k4 : hK (hnew h1 14 3) (hX g) = 4 := by rw [hK_new, if_neg nn]; exact a1
  have c2 := c.Q b (nc_cpQ x2)
  have n3 := n_3 c2
  refine ⟨sR (sR (sI (hnew h1 14 3) 14 (hX h1) 0 0) 14 (hX h1) 1 (some 3)) 4 (hX g) 3 (some (hX h1)), ?_, x2, ?_, ?_, k4, ?_, ?_, ?_⟩
  · unfold fX4_init_b23 fJx4a65c_init_da8c8 fJxc12de_init_da8c8 fJxa1e45_init_da8c8
    rw [bd_t, gd_t k14, lt_t, bd_t, gd_t (show hK (sI (hnew h1 14 3) 14 (hX h1) 0 0) (hX h1) = 14 from k14), lt_t, bd_t, gd_t (show hK (sR (sI (hnew h1 14 3) 14 (hX h1) 0 0) 14 (hX h1) 1 (some 3)) (hX g) = 4 from k4), lt_t, bd_t]
  · show hX h1 + 1 = hX g + 2
    omega
  · show hV h1 + 3 = hV g + 7
    omega
  · rw [hI_sR, hI_sR, hI_sI, if_neg (fun z => absurd z.1 (by decide)), hI_new, if_neg nn]; exact a2
  · rw [hR_sR, if_pos ⟨rfl, rfl, rfl⟩, hx1]
  · rw [← hx1]
    refine ⟨k14, ?_, ?_, k_3 c2, by rw [n3]; exact Nat.le_refl _, fun i hi => absurd hi (Nat.not_lt_zero _), fun _ => rfl, fun x hx => absurd hx List.not_mem_nil, by rw [n3]; decide, ?_, ?_, fun x hx => absurd hx List.not_mem_nil⟩
    · rw [hI_sR, hI_sR, hI_sI, if_neg (by simp), hI_new, if_pos rfl]
      rfl
    · rw [hR_sR, if_neg (fun z => absurd z.1 (by decide)), hR_sR, if_pos ⟨rfl, rfl, rfl⟩]
    · show hX h1 < hX h1 + 1
      omega
    · show 3 < hX h1 + 1
      omega
