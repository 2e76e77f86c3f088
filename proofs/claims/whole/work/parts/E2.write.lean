/-! THE CLASS WRITES a query out -/
def wrt (h h' : PH) (v v' : Nat) (cs add : List Nat) : Prop := SB (cs ++ add) v' h' ∧ chg (FSb v) GSb (fun _ => False) h h' ∧ (16 ≤ hN h v → 18 * hX h' + hN h v ≤ 18 * hX h + hN h' v') ∧ hN h v ≤ hN h' v' ∧ hV h' + 2 * hN h v ≤ hV h + 2 * hN h' v' ∧ (hN h' v' = hN h v ∨ hN h' v' ≤ 2 * (cs.length + add.length) + 2) ∧ (v' = v ∨ hX h ≤ v')
theorem wrt_rf {h : PH} {v : Nat} {cs : List Nat} (S : SB cs v h) : wrt h h v v cs [] := ⟨by rw [List.append_nil]; exact S, chg.rf _ _ _ _, fun _ => Nat.le_refl _, Nat.le_refl _, Nat.le_refl _, Or.inl rfl, Or.inl rfl⟩
theorem wrt_tr {h h1 h2 : PH} {v v1 v2 : Nat} {cs as bs : List Nat} (x : wrt h h1 v v1 cs as) (y : wrt h1 h2 v1 v2 (cs ++ as) bs) : wrt h h2 v v2 cs (as ++ bs) := by
  obtain ⟨a1, a2, a3, a4, a5, a6, a7⟩ := x
  obtain ⟨b1, b2, b3, b4, b5, b6, b7⟩ := y
  have l1 := a2.1
  rw [List.length_append] at b6
  refine ⟨by rw [← List.append_assoc]; exact b1, chg.tr2 a2 b2 (fun c a k ha z => ?_) (fun _ _ _ _ z => z) (fun _ _ z => z), fun h16 => ?_, by omega, by omega, ?_, by omega⟩
  · rcases z with z | z
    · exact Or.inl z
    · rcases a7 with y | y
      · exact Or.inr ⟨z.1, by rw [z.2, y]⟩
      · have := z.2; omega
  · have := a3 h16
    have := b3 (by omega)
    omega
  · rw [List.length_append]; omega
theorem wrt_1 {h : PH} (c : CSh h) (b : 89 ≤ hX h) {cs : List Nat} {v : Nat} (S : SB cs v h) (hl : cs.length < 3990) {x : Nat} (hx : x < 128) : ∃ v' h', fJ4_append_cf468 43 (nI x) h = some (some 43, h') ∧ wrt h h' v v' cs [x] := by
  obtain ⟨v', h', e1, e2, e3, e4, e5⟩ := append_eq c b S hl hx
  exact ⟨v', h', e1, e2, e3, fun h16 => by rcases e5 with z | z <;> omega, e4.2.1, e4.2.2.1, e4.2.2.2.1, e4.2.2.2.2⟩
theorem sCR_13 : ∀ q ∈ sCR, ¬ (q.1 = 13) := by decide
theorem CSh.wrt {h h' : PH} {v v' : Nat} {cs as : List Nat} (c : CSh h) (b : 89 ≤ hX h) (x : wrt h h' v v' cs as) : CSh h' := c.chg b x.2.1 (fun q hq z => sCR_13 q hq z.1)
/-- a letter is below 128 -/
theorem ltr_lt (w i : Nat) : 96 + ltr w i < 128 := by
  have : ltr w i < 27 := Nat.mod_lt _ (by decide)
  omega
theorem spellNumber_eq {h : PH} (c : CSh h) (b : 89 ≤ hX h) {cs : List Nat} {v : Nat} (S : SB cs v h) (hl : cs.length + 6 < 3990) {w : Nat} (hw : vword w = true) : ∃ v' h', fX10_spellNumber (nI w) (some 43) h = some h' ∧ wrt h h' v v' cs (spW w) := by
  have w6 := vw2 hw
  have hb := nl_bd 6 w
  have lp : ∀ f j : Nat, ∀ (g : PH) (vg : Nat), j + f = nl 6 w → wrt h g v vg cs ((spW w).take j) → ∃ v' h', fX10_spellNumber_l7 (nI w) (some 43) (nI (nl 6 w)) (nI j) g = some h' ∧ wrt h h' v v' cs (spW w) := by
    intro f
    induction f with
    | zero =>
      intro j g vg hj W
      have hj : j = nl 6 w := by omega
      subst hj
      have ln : (spW w).length = nl 6 w := by unfold spW; rw [List.length_map, List.length_range]
      rw [← ln, List.take_length] at W
      refine ⟨vg, g, wh_done ?_, W⟩
      show fX10_spellNumber_c7 (nI w) (some 43) (nI (nl 6 w)) (nI (nl 6 w)) g = _
      unfold fX10_spellNumber_c7
      rw [if_pos (Int32.le_refl _), mr_t]
    | succ f ih =>
      intro j g vg hj W
      have hj1 : j < nl 6 w := by omega
      have ln : (spW w).length = nl 6 w := by unfold spW; rw [List.length_map, List.length_range]
      have cg := c.wrt b W
      have bg : 89 ≤ hX g := Nat.le_trans b W.2.1.1
      have lt : (cs ++ (spW w).take j).length < 3990 := by rw [List.length_append, List.length_take]; omega
      obtain ⟨v', g', e1, e2⟩ := wrt_1 cg bg W.1 lt (ltr_lt w j)
      have tk : (spW w).take (j + 1) = (spW w).take j ++ [96 + ltr w j] := by
        rw [← List.take_append_getElem (by omega)]
        congr 2
        unfold spW
        rw [List.getElem_map, List.getElem_range]
      obtain ⟨v2, h2, r1, r2⟩ := ih (j + 1) g' v' (by omega) (by rw [tk]; exact wrt_tr W e2)
      refine ⟨v2, h2, wh_step (t := (nI (j + 1), g')) ?_ r1, r2⟩
      show fX10_spellNumber_c7 (nI w) (some 43) (nI (nl 6 w)) (nI j) g = _
      unfold fX10_spellNumber_c7 fX10_spellNumber_b21
      rw [if_neg (nI_ge hj1 (by omega)), letterOfX_eq w6 hj1, bd_t, gs_t, gd_t (k_43 cg), e1, bd_t, nI_1]
  unfold fX10_spellNumber fX10_spellNumber_b0
  rw [lettersOf_eq w6, bd_t]
  exact lp (nl 6 w) 0 h v (by omega) (by rw [List.take_zero]; exact wrt_rf S)
/-- a distance from 0 to 40 in digits -/
theorem strSize : ∀ m, m < 41 → fJ6_stringSize_0f7a4_c16 (-(nI m)) 0 (-10) 1 = (if 9 < m then some (.inl (-100, 2)) else some (.inr 1)) := by decide +kernel
theorem strSize2 : ∀ m, m < 41 → fJ6_stringSize_0f7a4_c16 (-(nI m)) 0 (-100) 2 = some (.inr 2) := by decide +kernel
theorem stringSize_eq {m : Nat} (hm : m ≤ 40) : fJ6_stringSize_0f7a4 (nI m) = some (nI (if 9 < m then 2 else 1)) := by
  unfold fJ6_stringSize_0f7a4 fJ6_stringSize_0f7a4_b11
  rw [if_neg (nI_pos (by omega))]
  have s1 := strSize m (by omega)
  have s2 := strSize2 m (by omega)
  by_cases z : 9 < m
  · rw [if_pos z] at s1
    rw [if_pos z]
    exact wh_step s1 (wh_done s2)
  · rw [if_neg z] at s1
    rw [if_neg z]
    exact wh_done s1
theorem getC : ∀ m, m < 41 → ((-100 : Int32) < -(nI m)) ∧ inb (-(-(nI m))) 100 ∧ (Int32.toInt8 (nI (48 + (Int32.toNatClampNeg (-(-(nI m)))) % 10))).toInt32 = nI (48 + m % 10) ∧ (Int32.toInt8 (nI (48 + (Int32.toNatClampNeg (-(-(nI m)))) / 10))).toInt32 = nI (48 + m / 10) ∧ (((-9 : Int32) ≤ -(nI m)) ↔ ¬ 9 < m) := by decide +kernel
