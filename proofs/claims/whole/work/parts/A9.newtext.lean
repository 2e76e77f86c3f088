/-! A NEW TEXT, word by word -/
def nc (h h' : PH) : Prop := chg (fun _ _ _ => False) (fun _ _ _ => False) (fun _ => False) h h'
def NT (h0 : PH) (ws : List Nat) (h : PH) : Prop := nc h0 h ∧ hX h = hX h0 + 2 ∧ hV h = hV h0 + 42 ∧ TextAt h (hX h0) (hX h0 + 1) ws
theorem newText_eq (h : PH) : ∃ h', fX8_init (hX h) (hnew h 8 2) = some h' ∧ NT h [] h' := by
  have no : ∀ {q : Prop}, hX h < hX h → q := fun y => absurd y (Nat.lt_irrefl _)
  have k1 : hK (hnew (hnew h 8 2) 20 40) (hX h) = 8 := by
    rw [hK_new, if_neg (show ¬ hX h = hX (hnew h 8 2) from fun z => by have z : hX h = hX h + 1 := z; omega), hK_new, if_pos rfl]
  refine ⟨sR (hnew (hnew h 8 2) 20 40) 8 (hX h) 0 (some (hX h + 1)), ?_, (((chg.rf _ _ _ h).aN 8 2).aN 20 40).aR _ no, rfl, rfl, ?_, ?_, ?_, ?_, ?_, fun i hi => absurd hi (Nat.not_lt_zero _)⟩
  · unfold fX8_init fX8_init_b0 fX8_init_b9
    rw [gd_t (show ¬ (40 : Int32) < 0 ∧ (Int32.toNatClampNeg (40 : Int32)) ≤ 1000000 by decide), show Int32.toNatClampNeg (40 : Int32) = 40 from rfl, gd_t k1, lt_t]
    rfl
  · rw [hK_sR]; exact k1
  · rw [hI_sR, hI_new, if_neg (show ¬ hX h = hX (hnew h 8 2) from fun z => by have z : hX h = hX h + 1 := z; omega), hI_new, if_pos rfl]
    rfl
  · rw [hR_sR, if_pos ⟨rfl, rfl, rfl⟩]
  · rw [hK_sR, hK_new]
    exact if_pos rfl
  · rw [hN_sR, hN_new]
    exact if_pos rfl
theorem NT.add {h0 g : PH} {t : List Nat} {j : Nat} (N : NT h0 (t.take j) g) (hj : j < t.length) (h40 : t.length ≤ 40) : ∃ g', fX8_add (hX h0) (nI (t.getD j 0)) g = some g' ∧ NT h0 (t.take (j + 1)) g' := by
  obtain ⟨x, n1, n2, t1, t2, t3, t4, t5, t6⟩ := N
  have lj : (t.take j).length = j := by rw [List.length_take]; omega
  rw [lj] at t2 t6
  have ck : Int32.toNatClampNeg (nI j) = j := nI_clamp (by omega)
  have no1 : ∀ {q : Prop}, hX h0 + 1 < hX h0 → q := fun y => absurd y (by omega)
  have no : ∀ {q : Prop}, hX h0 < hX h0 → q := fun y => absurd y (by omega)
  refine ⟨sI (sI g 20 (hX h0 + 1) j (nI (t.getD j 0))) 8 (hX h0) 1 (nI (j + 1)), ?_, (x.aI _ no1).aI _ no, n1, n2, t1, ?_, t3, t4, t5, fun i hi => ?_⟩
  · unfold fX8_add fX8_add_b29
    rw [gd_t t1, t2, if_neg (show ¬ (40 : Int32) ≤ nI j from nI_ge (b := 40) (by omega) (by decide)), t3, gs_t, gd_t ⟨t4, by rw [t5]; exact inbI (by omega) (by decide)⟩, lt_t]
    simp only [ck]
    rw [lt_t, c20 _ _ _ _ (by decide), t2, nI_1]
  · have : (t.take (j + 1)).length = j + 1 := by rw [List.length_take]; omega
    rw [this, hI_sI, if_pos ⟨rfl, rfl, rfl⟩]
  · have : (t.take (j + 1)).length = j + 1 := by rw [List.length_take]; omega
    rw [this] at hi
    rw [n20 _ _ (by decide), rdA, getD_take hi]
    by_cases d : i = j
    · rw [if_pos d, d]
    · rw [if_neg d]
      have := t6 i (by omega)
      rw [getD_take (by omega)] at this
      exact this
theorem NT.fin {h0 g : PH} {t : List Nat} {o : List Nat} (N : NT h0 t g) (ok : okT t) (b : 89 ≤ hX h0) (_ : o = t) : TxA g (some (hX h0)) (some t) := ⟨ok, hX h0, hX h0 + 1, rfl, b, by omega, by have := N.2.1; omega, by have := N.2.1; omega, N.2.2.2⟩
theorem TextAt.nc {h h' : PH} {a b : Nat} {ws : List Nat} (T : TextAt h a b ws) (ha : a < hX h) (hb : b < hX h) (x : nc h h') : TextAt h' a b ws := T.chg ha hb x (fun z => z) (fun z => z) (fun _ z => z)
theorem withSet_eq {h : PH} {a b : Nat} {ws : List Nat} (T : TextAt h a b ws) (ha : a < hX h) (hb : b < hX h) (h40 : ws.length ≤ 40) {p w : Nat} (hp : p < ws.length) : ∃ h', fX8_withSet a (nI p) (nI w) h = some (some (hX h), h') ∧ NT h (ws.set p w) h' := by
  have ln : (ws.set p w).length = ws.length := List.length_set ..
  have lp : ∀ f j : Nat, ∀ g : PH, j + f = ws.length → NT h ((ws.set p w).take j) g → ∃ h', fX8_withSet_l11 a (nI p) (nI w) (some (hX h)) (nI j) g = some (some (hX h), h') ∧ NT h (ws.set p w) h' := by
    intro f
    induction f with
    | zero =>
      intro j g hj N
      have hj : j = ws.length := by omega
      subst hj
      have T' := T.nc ha hb N.1
      rw [← ln, List.take_length] at N
      refine ⟨g, wh_done ?_, N⟩
      show fX8_withSet_c11 a (nI p) (nI w) (some (hX h)) (nI ws.length) g = _
      unfold fX8_withSet_c11
      rw [gd_t T'.1, T'.2.1, if_pos (Int32.le_refl _), mr_t]
    | succ f ih =>
      intro j g hj N
      have hj1 : j < ws.length := by omega
      have T' := T.nc ha hb N.1
      obtain ⟨t1, t2, t3, t4, t5, t6⟩ := id T'
      obtain ⟨g1, f1, f2⟩ := N.add (by omega) (by omega)
      obtain ⟨h', r1, r2⟩ := ih (j + 1) g1 (by omega) f2
      refine ⟨h', wh_step (t := (nI (j + 1), g1)) ?_ r1, r2⟩
      show fX8_withSet_c11 a (nI p) (nI w) (some (hX h)) (nI j) g = _
      have ck : Int32.toNatClampNeg (nI j) = j := nI_clamp (by omega)
      unfold fX8_withSet_c11 fX8_withSet_b38
      rw [gd_t t1, t2, if_neg (nI_ge hj1 (by omega)), nI_1]
      by_cases d : j = p
      · have e : (ws.set p w).getD j 0 = w := by
          rw [getD_g (by omega), List.getElem_set, if_pos d.symm]
        rw [e] at f1
        rw [if_neg (show ¬ ¬ nI j = nI p from fun z => z (by rw [d])), gs_t, gd_t N.2.2.2.1, f1, bd_t]
      · have e : (ws.set p w).getD j 0 = ws.getD j 0 := by
          rw [getD_g (by omega), List.getElem_set, if_neg (fun z => d z.symm), getD_g hj1]
        rw [e] at f1
        rw [if_pos (show ¬ nI j = nI p from fun z => d ((nI_eq (by omega) (by omega)).mp z)), t3, gs_t, gd_t ⟨t4, by rw [t5]; exact inbI (by omega) (by decide)⟩]
        simp only [ck]
        rw [t6 j hj1, gs_t, gd_t N.2.2.2.1, f1, bd_t]
  obtain ⟨h1, f1, f2⟩ := newText_eq h
  unfold fX8_withSet fX8_withSet_b0 fX8_withSet_b3 fX8_withSet_b7
  rw [gs_t, f1, bd_t]
  exact lp ws.length 0 h1 (by omega) (by rw [List.take_zero]; exact f2)
theorem withTaken_eq {h : PH} {a b : Nat} {ws : List Nat} (T : TextAt h a b ws) (ha : a < hX h) (hb : b < hX h) (h40 : ws.length ≤ 40) {p : Nat} (hp : p < ws.length) : ∃ h', fX8_withTaken a (nI p) h = some (some (hX h), h') ∧ NT h (ws.eraseIdx p) h' := by
  have ln : (ws.eraseIdx p).length = ws.length - 1 := List.length_eraseIdx_of_lt hp
  have lp : ∀ f j : Nat, ∀ g : PH, j + f = ws.length → NT h ((ws.eraseIdx p).take (if j ≤ p then j else j - 1)) g → ∃ h', fX8_withTaken_l10 a (nI p) (some (hX h)) (nI j) g = some (some (hX h), h') ∧ NT h (ws.eraseIdx p) h' := by
    intro f
    induction f with
    | zero =>
      intro j g hj N
      have hj : j = ws.length := by omega
      subst hj
      have T' := T.nc ha hb N.1
      rw [if_neg (by omega), ← ln, List.take_length] at N
      refine ⟨g, wh_done ?_, N⟩
      show fX8_withTaken_c10 a (nI p) (some (hX h)) (nI ws.length) g = _
      unfold fX8_withTaken_c10
      rw [gd_t T'.1, T'.2.1, if_pos (Int32.le_refl _), mr_t]
    | succ f ih =>
      intro j g hj N
      have hj1 : j < ws.length := by omega
      have T' := T.nc ha hb N.1
      obtain ⟨t1, t2, t3, t4, t5, t6⟩ := id T'
      have ck : Int32.toNatClampNeg (nI j) = j := nI_clamp (by omega)
      by_cases d : j = p
      · obtain ⟨h', r1, r2⟩ := ih (j + 1) g (by omega) (by
          rw [if_neg (by omega), Nat.add_sub_cancel]
          rw [if_pos (by omega)] at N
          exact N)
        refine ⟨h', wh_step (t := (nI (j + 1), g)) ?_ r1, r2⟩
        show fX8_withTaken_c10 a (nI p) (some (hX h)) (nI j) g = _
        unfold fX8_withTaken_c10 fX8_withTaken_b33
        rw [gd_t t1, t2, if_neg (nI_ge hj1 (by omega)), nI_1, if_pos (by rw [d])]
      · have e : (ws.eraseIdx p).getD (if j ≤ p then j else j - 1) 0 = ws.getD j 0 := by
          rw [erase_getD]
          by_cases q : j ≤ p
          · rw [if_pos q, if_pos (by omega)]
          · rw [if_neg q, if_neg (by omega), show j - 1 + 1 = j by omega]
        have hl : (if j ≤ p then j else j - 1) < (ws.eraseIdx p).length := by
          by_cases q : j ≤ p
          · rw [if_pos q]; omega
          · rw [if_neg q]; omega
        obtain ⟨g1, f1, f2⟩ := N.add hl (by omega)
        rw [e] at f1
        obtain ⟨h', r1, r2⟩ := ih (j + 1) g1 (by omega) (by
          have : (if j + 1 ≤ p then j + 1 else j + 1 - 1) = (if j ≤ p then j else j - 1) + 1 := by
            by_cases q : j ≤ p
            · rw [if_pos q, if_pos (by omega)]
            · rw [if_neg q, if_neg (by omega)]; omega
          rw [this]
          exact f2)
        refine ⟨h', wh_step (t := (nI (j + 1), g1)) ?_ r1, r2⟩
        show fX8_withTaken_c10 a (nI p) (some (hX h)) (nI j) g = _
        unfold fX8_withTaken_c10 fX8_withTaken_b33
        rw [gd_t t1, t2, if_neg (nI_ge hj1 (by omega)), nI_1, if_neg (show ¬ nI j = nI p from fun z => d ((nI_eq (by omega) (by omega)).mp z)), t3, gs_t, gd_t ⟨t4, by rw [t5]; exact inbI (by omega) (by decide)⟩]
        simp only [ck]
        rw [t6 j hj1, gs_t, gd_t N.2.2.2.1, f1, bd_t]
  obtain ⟨h1, f1, f2⟩ := newText_eq h
  unfold fX8_withTaken fX8_withTaken_b0 fX8_withTaken_b3 fX8_withTaken_b7
  rw [f1, bd_t]
  exact lp ws.length 0 h1 (by omega) (by rw [if_pos (Nat.zero_le _), List.take_zero]; exact f2)
theorem withPut_eq {h : PH} {a b : Nat} {ws : List Nat} (T : TextAt h a b ws) (ha : a < hX h) (hb : b < hX h) (h40 : ws.length < 40) {p w : Nat} (hp : p ≤ ws.length) : ∃ h', fX8_withPut a (nI p) (nI w) h = some (some (hX h), h') ∧ NT h (insAt ws p w) h' := by
  have ln : (insAt ws p w).length = ws.length + 1 := insAt_len hp
  have half : ∀ (j : Nat) (g : PH), j ≤ ws.length → NT h ((insAt ws p w).take (if j < p then j else j + 1)) g → ∃ g1, fX8_withPut_b31 a (nI p) (nI w) (some (hX h)) (nI j) g = some (.inl (nI (j + 1), g1)) ∧ NT h ((insAt ws p w).take (if j + 1 ≤ p then j + 1 else j + 2)) g1 ∨ j = ws.length ∧ fX8_withPut_b31 a (nI p) (nI w) (some (hX h)) (nI j) g = some (.inl (nI (j + 1), g)) := fun j g hj N => by
    have T' := T.nc ha hb N.1
    obtain ⟨t1, t2, t3, t4, t5, t6⟩ := id T'
    have ck : Int32.toNatClampNeg (nI j) = j := nI_clamp (by omega)
    by_cases z : j = ws.length
    · refine ⟨g, Or.inr ⟨z, ?_⟩⟩
      unfold fX8_withPut_b31 fX8_withPut_b51
      rw [gd_t t1, t2, z, if_pos (Int32.le_refl _), nI_1]
    · have hj1 : j < ws.length := by omega
      have e : (insAt ws p w).getD (if j < p then j else j + 1) 0 = ws.getD j 0 := by
        rw [insAt_getD hp]
        by_cases q : j < p
        · rw [if_pos q, if_pos q]
        · rw [if_neg q, if_neg (by omega), if_neg (by omega), Nat.add_sub_cancel]
      have hl : (if j < p then j else j + 1) < (insAt ws p w).length := by
        by_cases q : j < p
        · rw [if_pos q]; omega
        · rw [if_neg q]; omega
      obtain ⟨g1, f1, f2⟩ := N.add hl (by omega)
      rw [e] at f1
      refine ⟨g1, Or.inl ⟨?_, ?_⟩⟩
      · unfold fX8_withPut_b31 fX8_withPut_b51
        rw [gd_t t1, t2, if_neg (nI_ge hj1 (by omega)), t3, gs_t, gd_t ⟨t4, by rw [t5]; exact inbI (by omega) (by decide)⟩]
        simp only [ck]
        rw [t6 j hj1, gs_t, gd_t N.2.2.2.1, f1, bd_t, nI_1]
      · have : (if j + 1 ≤ p then j + 1 else j + 2) = (if j < p then j else j + 1) + 1 := by
          by_cases q : j < p
          · rw [if_pos q, if_pos (by omega)]
          · rw [if_neg q, if_neg (by omega)]
        rw [this]
        exact f2
  have lp : ∀ f j : Nat, ∀ g : PH, j + f = ws.length + 1 → NT h ((insAt ws p w).take (if j ≤ p then j else j + 1)) g → ∃ h', fX8_withPut_l11 a (nI p) (nI w) (some (hX h)) (nI j) g = some (some (hX h), h') ∧ NT h (insAt ws p w) h' := by
    intro f
    induction f with
    | zero =>
      intro j g hj N
      have hj : j = ws.length + 1 := by omega
      subst hj
      have T' := T.nc ha hb N.1
      rw [if_neg (by omega), List.take_of_length_le (by omega)] at N
      refine ⟨g, wh_done ?_, N⟩
      show fX8_withPut_c11 a (nI p) (nI w) (some (hX h)) (nI (ws.length + 1)) g = _
      unfold fX8_withPut_c11
      rw [gd_t T'.1, T'.2.1, if_pos (nI_lt (by omega) (by omega)), mr_t]
    | succ f ih =>
      intro j g hj N
      have hj1 : j ≤ ws.length := by omega
      have T' := T.nc ha hb N.1
      obtain ⟨t1, t2, t3, t4, t5, t6⟩ := id T'
      have nl : ¬ nI ws.length < nI j := Int32.not_lt.mpr (nI_le hj1 (by omega))
      have go : ∀ g0 : PH, NT h ((insAt ws p w).take (if j < p then j else j + 1)) g0 → fX8_withPut_c11 a (nI p) (nI w) (some (hX h)) (nI j) g = fX8_withPut_b31 a (nI p) (nI w) (some (hX h)) (nI j) g0 → ∃ h', fX8_withPut_l11 a (nI p) (nI w) (some (hX h)) (nI j) g = some (some (hX h), h') ∧ NT h (insAt ws p w) h' := fun g0 N0 st => by
        obtain ⟨g1, ⟨f1, f2⟩ | ⟨f1, f2⟩⟩ := half j g0 hj1 N0
        · obtain ⟨h', r1, r2⟩ := ih (j + 1) g1 (by omega) f2
          exact ⟨h', wh_step (t := (nI (j + 1), g1)) (st.trans f1) r1, r2⟩
        · obtain ⟨h', r1, r2⟩ := ih (j + 1) g0 (by omega) (by
            rw [if_neg (by omega), List.take_of_length_le (by omega)]
            rw [if_neg (by omega), List.take_of_length_le (by omega)] at N0
            exact N0)
          exact ⟨h', wh_step (t := (nI (j + 1), g0)) (st.trans f2) r1, r2⟩
      by_cases d : j = p
      · rw [if_pos (by omega)] at N
        obtain ⟨g0, f1, f2⟩ := N.add (by omega) (by omega)
        have e : (insAt ws p w).getD j 0 = w := by rw [insAt_getD hp, if_neg (by omega), if_pos d]
        rw [e] at f1
        refine go g0 (by rw [if_neg (by omega)]; exact f2) ?_
        unfold fX8_withPut_c11
        rw [gd_t t1, t2, if_neg nl, if_neg (show ¬ ¬ nI j = nI p from fun z => z (by rw [d])), gs_t, gd_t N.2.2.2.1, f1, bd_t]
      · refine go g (by
          have : (if j < p then j else j + 1) = (if j ≤ p then j else j + 1) := by
            by_cases q : j < p
            · rw [if_pos q, if_pos (by omega)]
            · rw [if_neg q, if_neg (by omega)]
          rw [this]
          exact N) ?_
        unfold fX8_withPut_c11
        rw [gd_t t1, t2, if_neg nl, if_pos (show ¬ nI j = nI p from fun z => d ((nI_eq (by omega) (by omega)).mp z))]
  obtain ⟨h1, f1, f2⟩ := newText_eq h
  unfold fX8_withPut fX8_withPut_b0 fX8_withPut_b3 fX8_withPut_b7
  rw [f1, bd_t]
  exact lp (ws.length + 1) 0 h1 (by omega) (by rw [if_pos (Nat.zero_le _), List.take_zero]; exact f2)
