/-! THE CLASS READS a word with what stands behind it -/
theorem sg_lt {b : Nat} (h : isSg b = true) : 33 ≤ b ∧ b ≤ 126 := by
  simp [isSg] at h
  omega
theorem kdT_lt (bs : List Nat) (wr s : Nat) : kdT bs wr s < 127 := by
  unfold kdT
  split
  · omega
  · split
    · split <;> omega
    · split
      · split <;> omega
      · split
        · rename_i h
          have := sg_lt h
          omega
        · omega
theorem kT_lt (bs : List Nat) (s : PS) : kT bs s < 127 := kdT_lt _ _ _
theorem kT_0 {bs : List Nat} {s : PS} (h : bs.length ≤ aT bs s) : kT bs s = 0 := by
  unfold kT kdT
  exact if_pos h
/-- where a token stands -/
theorem aT_le {bs : List Nat} {s : PS} (h : s.1 ≤ bs.length) : s.1 ≤ aT bs s ∧ aT bs s ≤ bs.length := ⟨Nat.le_add_right _ _, rn_drop_le isBl bs s.1 h⟩
theorem nT_le {bs : List Nat} {s : PS} (h : s.1 ≤ bs.length) : aT bs s ≤ (nT bs s).1 ∧ (nT bs s).1 ≤ bs.length ∧ (kT bs s ≠ 0 → s.1 < (nT bs s).1) := by
  have a := aT_le h
  show aT bs s ≤ nxT bs (stT bs s.1) ∧ nxT bs (stT bs s.1) ≤ bs.length ∧ (kT bs s ≠ 0 → s.1 < nxT bs (stT bs s.1))
  have e : aT bs s = stT bs s.1 := rfl
  rw [e] at a ⊢
  unfold nxT
  by_cases z : bs.length ≤ stT bs s.1
  · rw [if_pos z]
    exact ⟨Nat.le_refl _, a.2, fun q => absurd (kT_0 (s := s) z) q⟩
  · rw [if_neg z]
    have r1 := rn_drop_le isLo bs (stT bs s.1) a.2
    have r2 := rn_drop_le isDi bs (stT bs s.1) a.2
    by_cases lo : isLo (bs.getD (stT bs s.1) 0) = true
    · rw [if_pos lo]
      have := rW_pos (by omega) lo
      unfold rW at this ⊢
      exact ⟨by omega, r1, fun _ => by omega⟩
    · rw [if_neg lo]
      by_cases di : isDi (bs.getD (stT bs s.1) 0) = true
      · rw [if_pos di]
        have := rD_pos (by omega) di
        unfold rD at this ⊢
        exact ⟨by omega, r2, fun _ => by omega⟩
      · rw [if_neg di]
        exact ⟨by omega, by omega, fun _ => by omega⟩
theorem vlw : ∀ (l : List Nat) (n : Nat), n ≤ l.length → n ≤ 6 → (∀ j, j < n → 97 ≤ l.getD j 0 ∧ l.getD j 0 ≤ 122) → lwd n (vl 27 96 l n 0)
  | l, 0, _, _, _ => by rw [vl]; exact Or.inl ⟨rfl, rfl⟩
  | l, n + 1, h1, h2, h => by
    have ih := vlw l n (by omega) (by omega) (fun j hj => h j (by omega))
    have hn := h n (Nat.lt_succ_self _)
    rw [vl_s 27 96 l n 0 (by omega)]
    exact lwd_s ih (by omega) (by omega) (by omega)
theorem kT_2 {bs : List Nat} {s : PS} (hs : s.1 ≤ bs.length) (h : kT bs s = 2) : vword (vT bs s) = true ∧ s.2 < 20 ∧ aT bs s < bs.length := by
  unfold kT kdT at h
  by_cases z : bs.length ≤ stT bs s.1
  · rw [if_pos z] at h; omega
  · rw [if_neg z] at h
    by_cases lo : isLo (bs.getD (stT bs s.1) 0) = true
    · rw [if_pos lo] at h
      by_cases y : rW bs (stT bs s.1) ≤ 6 ∧ s.2 < 20
      · refine ⟨?_, y.2, by show stT bs s.1 < bs.length; omega⟩
        have a := (aT_le hs).2
        have r1 := rn_drop_le isLo bs (stT bs s.1) a
        have w := vlw (bs.drop (stT bs s.1)) (rW bs (stT bs s.1)) (by rw [List.length_drop]; unfold rW; omega) y.1 (fun j hj => by
          have q := rn_at (p := isLo) (l := bs.drop (stT bs s.1)) (j := j) hj
          unfold isLo at q
          exact of_decide_eq_true q)
        have p := rW_pos (by omega) lo
        show vword (vaT bs (stT bs s.1)) = true
        unfold vaT
        rw [if_pos lo]
        rcases w with w | w
        · omega
        · exact w.2.1
      · rw [if_neg y] at h; omega
    · rw [if_neg lo] at h
      exfalso
      by_cases di : isDi (bs.getD (stT bs s.1) 0) = true
      · rw [if_pos di] at h
        split at h <;> omega
      · rw [if_neg di] at h
        split at h
        · rename_i q
          have := sg_lt q
          omega
        · omega
theorem kT_3 {bs : List Nat} {s : PS} (h : kT bs s = 3) : vT bs s ≤ 40 := by
  unfold kT kdT at h
  by_cases z : bs.length ≤ stT bs s.1
  · rw [if_pos z] at h; omega
  · rw [if_neg z] at h
    by_cases lo : isLo (bs.getD (stT bs s.1) 0) = true
    · rw [if_pos lo] at h
      split at h <;> omega
    · rw [if_neg lo] at h
      by_cases di : isDi (bs.getD (stT bs s.1) 0) = true
      · rw [if_pos di] at h
        by_cases y : rD bs (stT bs s.1) ≤ 2 ∧ 1 ≤ vD bs (stT bs s.1) ∧ vD bs (stT bs s.1) ≤ 40
        · show vaT bs (stT bs s.1) ≤ 40
          unfold vaT
          rw [if_neg lo]
          exact y.2.2
        · rw [if_neg y] at h; omega
      · rw [if_neg di] at h
        exfalso
        split at h
        · rename_i q
          have := sg_lt q
          omega
        · omega
theorem nT_2 {bs : List Nat} {s : PS} (hs : s.1 ≤ bs.length) (hw : s.2 ≤ 20) : s.2 ≤ (nT bs s).2 ∧ (nT bs s).2 ≤ 20 ∧ (nT bs s).2 ≤ s.2 + 1 := by
  show s.2 ≤ (if kT bs s = 2 then s.2 + 1 else s.2) ∧ (if kT bs s = 2 then s.2 + 1 else s.2) ≤ 20 ∧ (if kT bs s = 2 then s.2 + 1 else s.2) ≤ s.2 + 1
  by_cases z : kT bs s = 2
  · rw [if_pos z]
    have := (kT_2 hs z).2.1
    omega
  · rw [if_neg z]; omega
theorem cn_nT {bs : List Nat} {s : PS} (h : kT bs s ≠ 1) : cnT bs s.2 (stT bs s.1) = (nT bs s).2 := by
  show cnT bs s.2 (stT bs s.1) = (if kT bs s = 2 then s.2 + 1 else s.2)
  unfold kT kdT at h ⊢
  unfold cnT
  by_cases z : bs.length ≤ stT bs s.1
  · rw [if_pos z] at h ⊢
    rw [if_pos z, if_neg (by decide)]
  · rw [if_neg z] at h ⊢
    rw [if_neg z]
    by_cases lo : isLo (bs.getD (stT bs s.1) 0) = true
    · rw [if_pos lo] at h ⊢
      rw [if_pos lo]
      by_cases y : rW bs (stT bs s.1) ≤ 6 ∧ s.2 < 20
      · rw [if_pos y, if_pos rfl]
      · rw [if_neg y] at h; exact absurd rfl h
    · rw [if_neg lo] at h ⊢
      rw [if_neg lo]
      by_cases di : isDi (bs.getD (stT bs s.1) 0) = true
      · rw [if_pos di] at h ⊢
        by_cases y : rD bs (stT bs s.1) ≤ 2 ∧ 1 ≤ vD bs (stT bs s.1) ∧ vD bs (stT bs s.1) ≤ 40
        · rw [if_pos y, if_neg (by decide)]
        · rw [if_neg y] at h; exact absurd rfl h
      · rw [if_neg di] at h ⊢
        by_cases sg : isSg (bs.getD (stT bs s.1) 0) = true
        · have := sg_lt sg
          rw [if_pos sg, if_neg (by omega)]
        · rw [if_neg sg] at h; exact absurd rfl h
def CRs (bs : List Nat) (s : PS) (h : PH) : Prop := CR bs s.1 s.2 h ∧ s.1 ≤ bs.length ∧ s.2 ≤ 20
theorem adv {h : PH} (c : CSh h) {bs : List Nat} (T : TC bs h) (ok : okB bs) (l3 : bs.length ≤ 300) {s : PS} (R : CRs bs s h) (n1 : kT bs s ≠ 1) : ∃ h', fX6_advance 13 h = some h' ∧ onlyI isQR h h' ∧ CRs bs (nT bs s) h' := by
  obtain ⟨⟨r1, r2, r3, r4, r5⟩, r6, r7⟩ := R
  have a := nT_le r6
  have b := nT_2 r6 r7
  obtain ⟨h', f1, f2, f3⟩ := advance_eq c T ok l3 (i := (nT bs s).1) (wr := (nT bs s).2) a.2.1 b.2.1 r1 (by rw [r5, cn_nT n1])
  exact ⟨h', f1, f2, f3, a.2.1, b.2.1⟩
def FQ (c a k : Nat) : Prop := isQR c a k = true ∨ (c = 6 ∧ a = 13 ∧ k = 7) ∨ (c = 20 ∧ a = 14)
def cpQ (h h' : PH) : Prop := chg FQ G3a (fun _ => False) h h'
theorem qr_a {c a k : Nat} (h : isQR c a k = true) : c = 6 ∧ a = 13 ∧ 2 ≤ k ∧ k ≤ 6 := by
  simp [isQR] at h
  omega
theorem FQ_a {c a k : Nat} (h : FQ c a k) : a = 13 ∨ a = 14 := by
  rcases h with h | h | h
  · exact Or.inl (qr_a h).2.1
  · exact Or.inl h.2.1
  · exact Or.inr h.2
theorem oI_cpQ {h h' : PH} (o : onlyI isQR h h') : cpQ h h' := chg_I o (fun _ _ _ z => Or.inl z)
theorem nc_cpQ {h h' : PH} (x : nc h h') : cpQ h h' := x.mono (fun _ _ _ _ z => z.elim) (fun _ _ _ _ z => z.elim) (fun _ _ z => z)
theorem CSh.Q {h h' : PH} (c : CSh h) (b : 89 ≤ hX h) (x : cpQ h h') : CSh h' := c.chg b x (fun q hq z => by
  have n28 : ∀ q ∈ sCR, ¬ (q.1 = 28) := by decide
  exact n28 q hq z.1)
theorem TC.Q {bs : List Nat} {h h' : PH} (T : TC bs h) (b : 89 ≤ hX h) (x : cpQ h h') : TC bs h' := ⟨(x.2.1 7 11 1 (by omega) (fun z => by have := FQ_a z; omega)).trans T.1, fun i hi => (x.2.1 20 12 i (by omega) (fun z => by have := FQ_a z; omega)).trans (T.2 i hi)⟩
/-- a simple part is made -/
theorem leaf_new (g : PH) {b k mo : Nat} {ws : List Nat} (hb : b < hX g) (A : RowAt g b ws) : ∃ g', fX4_simple (nI k) (some b) (nI mo) g = some (some (hX g), g') ∧ nc g g' ∧ hX g' = hX g + 2 ∧ hV g' = hV g + 7 ∧ LfD g' (fun x => x = b ∨ (hX g ≤ x ∧ x < hX g + 2)) (hX g) (k, ws, mo) := by
  have no : ∀ {q : Prop}, hX g < hX g → q := fun y => absurd y (Nat.lt_irrefl _)
  have no1 : ∀ {q : Prop}, hX g + 1 < hX g → q := fun y => absurd y (by omega)
  have n1 : hX g ≠ hX g + 1 := by omega
  have x1 : nc g (sI (sR (sI (hnew g 4 4) 4 (hX g) 0 (nI k)) 4 (hX g) 1 (some b)) 4 (hX g) 2 (nI mo)) := ((((chg.rf _ _ _ g).aN 4 4).aI _ no).aR _ no).aI _ no
  have hx1 : hX (sI (sR (sI (hnew g 4 4) 4 (hX g) 0 (nI k)) 4 (hX g) 1 (some b)) 4 (hX g) 2 (nI mo)) = hX g + 1 := rfl
  have hv1 : hV (sI (sR (sI (hnew g 4 4) 4 (hX g) 0 (nI k)) 4 (hX g) 1 (some b)) 4 (hX g) 2 (nI mo)) = hV g + 4 := rfl
  have a1 : hK (sI (sR (sI (hnew g 4 4) 4 (hX g) 0 (nI k)) 4 (hX g) 1 (some b)) 4 (hX g) 2 (nI mo)) (hX g) = 4 := by
    show hK (hnew g 4 4) (hX g) = 4
    rw [hK_new, if_pos rfl]
  have a2 : hI (sI (sR (sI (hnew g 4 4) 4 (hX g) 0 (nI k)) 4 (hX g) 1 (some b)) 4 (hX g) 2 (nI mo)) 4 (hX g) 0 = nI k := by rw [hI_sI, if_neg (by simp), hI_sR, hI_sI, if_pos ⟨rfl, rfl, rfl⟩]
  have a3 : hR (sI (sR (sI (hnew g 4 4) 4 (hX g) 0 (nI k)) 4 (hX g) 1 (some b)) 4 (hX g) 2 (nI mo)) 4 (hX g) 1 = some b := by rw [hR_sI, hR_sR, if_pos ⟨rfl, rfl, rfl⟩]
  have a4 : hI (sI (sR (sI (hnew g 4 4) 4 (hX g) 0 (nI k)) 4 (hX g) 1 (some b)) 4 (hX g) 2 (nI mo)) 4 (hX g) 2 = nI mo := by rw [hI_sI, if_pos ⟨rfl, rfl, rfl⟩]
  have gk : hK (hnew g 4 4) (hX g) = 4 := by rw [hK_new, if_pos rfl]
  have u1 : fX4_simple (nI k) (some b) (nI mo) g = bd (fX4_init_b23 (hX g) (hX (sI (sR (sI (hnew g 4 4) 4 (hX g) 0 (nI k)) 4 (hX g) 1 (some b)) 4 (hX g) 2 (nI mo))) (hnew (sI (sR (sI (hnew g 4 4) 4 (hX g) 0 (nI k)) 4 (hX g) 1 (some b)) 4 (hX g) 2 (nI mo)) 14 3)) (fun z1 => some (some (hX g), z1)) := by
    unfold fX4_simple fX4_simple_b0 fX4_simple_b3 fX4_simple_b10 fX4_init fX4_init_b0
    rw [gd_t gk, lt_t, lt_t, lt_t]
  rw [u1]
  generalize sI (sR (sI (hnew g 4 4) 4 (hX g) 0 (nI k)) 4 (hX g) 1 (some b)) 4 (hX g) 2 (nI mo) = h1 at *
  have nn : hX g ≠ hX h1 := by omega
  have no2 : ∀ {q : Prop}, hX h1 < hX g → q := fun y => absurd y (by omega)
  have x2 : nc g (sR (sR (sI (hnew h1 14 3) 14 (hX h1) 0 0) 14 (hX h1) 1 (some 3)) 4 (hX g) 3 (some (hX h1))) := (((x1.aN 14 3).aI _ no2).aR _ no2).aR _ no
  have k14 : hK (hnew h1 14 3) (hX h1) = 14 := by rw [hK_new, if_pos rfl]
  have k4 : hK (hnew h1 14 3) (hX g) = 4 := by rw [hK_new, if_neg nn]; exact a1
  have kb : hK g b = 20 := A.1
  refine ⟨sR (sR (sI (hnew h1 14 3) 14 (hX h1) 0 0) 14 (hX h1) 1 (some 3)) 4 (hX g) 3 (some (hX h1)), ?_, x2, ?_, ?_, Or.inr ⟨Nat.le_refl _, by omega⟩, b, hX h1, Or.inl rfl, Or.inr ⟨by omega, by omega⟩, k4, ?_, ?_, ⟨?_, ?_, fun i hi => ?_⟩, ?_, ?_, k14, ?_⟩
  · unfold fX4_init_b23 fJx4a65c_init_da8c8 fJxc12de_init_da8c8 fJxa1e45_init_da8c8
    rw [bd_t, gd_t k14, lt_t, bd_t, gd_t (show hK (sI (hnew h1 14 3) 14 (hX h1) 0 0) (hX h1) = 14 from k14), lt_t, bd_t, gd_t (show hK (sR (sI (hnew h1 14 3) 14 (hX h1) 0 0) 14 (hX h1) 1 (some 3)) (hX g) = 4 from k4), lt_t, bd_t]
  · show hX h1 + 1 = hX g + 2
    omega
  · show hV h1 + 3 = hV g + 7
    omega
  · rw [hI_sR, hI_sR, hI_sI, if_neg (fun z => absurd z.1 (by decide)), hI_new, if_neg nn]; exact a2
  · rw [hR_sR, if_neg (by simp), hR_sR, if_neg (fun z => absurd z.1 (by decide)), hR_sI, hR_new, if_neg nn]; exact a3
  · exact (x2.2.2.2.2 b hb).1.trans A.1
  · exact (x2.2.2.2.2 b hb).2.trans A.2.1
  · exact (x2.2.1 20 b i hb (fun z => z)).trans (A.2.2 i hi)
  · rw [hI_sR, hI_sR, hI_sI, if_neg (fun z => absurd z.1 (by decide)), hI_new, if_neg nn]; exact a4
  · rw [hR_sR, if_pos ⟨rfl, rfl, rfl⟩]
  · rw [hI_sR, hI_sR, hI_sI, if_neg (by simp), hI_new, if_pos rfl]
    rfl
