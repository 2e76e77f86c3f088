/-! TEXTS in the class's cells: what a Text holds, its questions -/
/-- the text at a, its row at b, is the row of words ws -/
def TextAt (h : PH) (a b : Nat) (ws : List Nat) : Prop := hK h a = 8 ∧ hI h 8 a 1 = nI ws.length ∧ hR h 8 a 0 = some b ∧ hK h b = 20 ∧ hN h b = 40 ∧ ∀ i, i < ws.length → hI h 20 b i = nI (ws.getD i 0)
/-- a row of words as texts have it -/
def okT (ws : List Nat) : Prop := ws.length ≤ 40 ∧ ∀ w ∈ ws, vword w = true
theorem okT.lt {ws : List Nat} (o : okT ws) {i : Nat} (h : i < ws.length) : ws.getD i 0 < 2 ^ 31 := by
  have : vword (ws.getD i 0) = true := o.2 _ (by rw [List.getD_eq_getElem?_getD, List.getElem?_eq_getElem h]; exact List.getElem_mem h)
  exact Nat.lt_of_lt_of_le (vw2 this) (by decide)
theorem okT.v {ws : List Nat} (o : okT ws) {i : Nat} (h : i < ws.length) : vword (ws.getD i 0) = true := o.2 _ (by rw [List.getD_eq_getElem?_getD, List.getElem?_eq_getElem h]; exact List.getElem_mem h)
theorem takeS {ws : List Nat} {i : Nat} (h : i < ws.length) : ws.take (i + 1) = ws.take i ++ [ws.getD i 0] := by
  rw [List.take_succ_eq_append_getElem h, List.getD_eq_getElem?_getD, List.getElem?_eq_getElem h]
  rfl
theorem X8_size_eq {h : PH} {a b : Nat} {ws : List Nat} (T : TextAt h a b ws) : fX8_size a h = some (nI ws.length) := by
  unfold fX8_size
  rw [gd_t T.1, T.2.1]
theorem X8_at_eq {h : PH} {a b : Nat} {ws : List Nat} (T : TextAt h a b ws) (o : okT ws) {i : Nat} (hi : i < ws.length) : fX8_at a (nI i) h = some (nI (ws.getD i 0)) := by
  obtain ⟨k1, k2, k3, k4, k5, k6⟩ := T
  have h40 := o.1
  unfold fX8_at fX8_at_b22
  rw [if_neg (nI_pos (by omega)), gd_t k1, k2, if_pos (nI_lt hi (by omega)), k3, gs_t, gd_t ⟨k4, nI_pos (by omega), by rw [nI_clamp (by omega)]; omega⟩, nI_clamp (by omega), k6 i hi]
theorem X8_at_out {h : PH} {a b : Nat} {ws : List Nat} (T : TextAt h a b ws) (x : Int32) (hx : x < 0 ∨ ¬ x < nI ws.length) : fX8_at a x h = some (-1) := by
  unfold fX8_at fX8_at_b12 fX8_at_b22
  by_cases e : x < 0
  · rw [if_pos e]
  · rw [if_neg e, gd_t T.1, T.2.1, if_neg (hx.resolve_left e)]
/-- a loop over a text's words: from a state to the next one, or out -/
theorem text_loop {ρ : Type} {h : PH} {a b : Nat} {ws : List Nat} (T : TextAt h a b ws) (o : okT ws) {c : Int32 × Int32 → Option ((Int32 × Int32) ⊕ ρ)} (f : Nat → Int32) {r : ρ}
    (step : ∀ j, j < ws.length → hR h 8 a 0 = some b → hK h b = 20 → inb (nI j) (hN h b) → hI h 20 b (Int32.toNatClampNeg (nI j)) = nI (ws.getD j 0) → ¬ nI ws.length ≤ nI j → c (f j, nI j) = some (.inl (f (j + 1), nI (j + 1))))
    (out : c (f ws.length, nI ws.length) = some (.inr r)) : wh c (f 0, nI 0) = some r := by
  obtain ⟨k1, k2, k3, k4, k5, k6⟩ := T
  have h40 := o.1
  exact wh_out (fun j => (f j, nI j)) ws.length rfl (fun j hj => step j hj k3 k4 ⟨nI_pos (by omega), by rw [nI_clamp (by omega)]; omega⟩ (by rw [nI_clamp (by omega)]; exact k6 j hj) (nI_ge hj (by omega))) out
theorem X8_countWord_eq {h : PH} {a b : Nat} {ws : List Nat} (T : TextAt h a b ws) (o : okT ws) {w : Nat} (hw : w < 2 ^ 31) : fX8_countWord a (nI w) h = some (nI (ws.countP (fun v => decide (v = w)))) := by
  unfold fX8_countWord fX8_countWord_l4
  refine text_loop T o (fun j => nI ((ws.take j).countP (fun v => decide (v = w)))) ?_ ?_
  · intro j hj k3 k4 k5 k6 k7
    show fX8_countWord_c4 a (nI w) _ (nI j) h = _
    unfold fX8_countWord_c4 fX8_countWord_b25
    rw [gd_t T.1, T.2.1, if_neg k7, k3, gs_t, gd_t ⟨k4, k5⟩, k6, takeS hj, List.countP_append, List.countP_singleton, nI_1]
    by_cases e : ws.getD j 0 = w
    · rw [if_neg (by rw [nI_eq (o.lt hj) hw]; simpa using e), nI_1, if_pos (decide_eq_true e)]
    · rw [if_pos (by rw [nI_eq (o.lt hj) hw]; exact e), if_neg (by rw [decide_eq_true_eq]; exact e)]
      rfl
  · show fX8_countWord_c4 a (nI w) _ (nI ws.length) h = _
    unfold fX8_countWord_c4
    rw [gd_t T.1, T.2.1, if_pos (nI_le (Nat.le_refl _) (by have := o.1; omega)), List.take_length]
    rfl
theorem X8_countBeginning_eq {h : PH} {a b : Nat} {ws : List Nat} (T : TextAt h a b ws) (o : okT ws) {w : Nat} (hw : vword w = true) : fX8_countBeginning a (nI w) h = some (nI (ws.countP (fun v => bgn v w))) := by
  unfold fX8_countBeginning fX8_countBeginning_l4
  refine text_loop T o (fun j => nI ((ws.take j).countP (fun v => bgn v w))) ?_ ?_
  · intro j hj k3 k4 k5 k6 k7
    show fX8_countBeginning_c4 a (nI w) _ (nI j) h = _
    unfold fX8_countBeginning_c4 fX8_countBeginning_b28
    rw [gd_t T.1, T.2.1, if_neg k7, k3, gs_t, gd_t ⟨k4, k5⟩, k6, isBeginning_eq (vw1 hw) (vw2 hw) (vw2 (o.v hj)), bd_t, takeS hj, List.countP_append, List.countP_singleton, nI_1]
    by_cases e : bgn (ws.getD j 0) w = true
    · rw [e, if_neg (by decide), nI_1]
      rfl
    · have e := Bool.eq_false_iff.mpr e
      rw [e, if_pos (by decide)]
      rfl
  · show fX8_countBeginning_c4 a (nI w) _ (nI ws.length) h = _
    unfold fX8_countBeginning_c4
    rw [gd_t T.1, T.2.1, if_pos (nI_le (Nat.le_refl _) (by have := o.1; omega)), List.take_length]
    rfl
/-- the place of the k-th of those with p -/
def pl (p : Nat → Bool) : List Nat → Nat → Option Nat
  | [], _ => none
  | v :: ws, k => if p v then (match k with
    | 0 => some 0
    | k + 1 => (pl p ws k).map (· + 1)) else (pl p ws k).map (· + 1)
def optI (r : Option Nat) : Int32 := match r with
  | none => -1
  | some i => nI i
theorem dropS {ws : List Nat} {j : Nat} (h : j < ws.length) : ws.drop j = ws.getD j 0 :: ws.drop (j + 1) := by
  rw [List.drop_eq_getElem_cons h, List.getD_eq_getElem?_getD, List.getElem?_eq_getElem h]
  rfl
theorem map_sh (r : Option Nat) (j : Nat) : (r.map (· + 1)).map (· + j) = r.map (· + (j + 1)) := by
  cases r with
  | none => rfl
  | some i => simp only [Option.map_some]; congr 1; omega
theorem placeOf_l {h : PH} {a b : Nat} {ws : List Nat} (T : TextAt h a b ws) (o : okT ws) {w : Nat} (hw : w < 2 ^ 31) : ∀ n j k : Nat, j + n = ws.length → k < 2 ^ 31 → fX8_placeOf_l5 a (nI w) (nI k) (nI j) h = some (optI ((pl (fun v => decide (v = w)) (ws.drop j) k).map (· + j))) := by
  obtain ⟨k1, k2, k3, k4, k5, k6⟩ := id T
  have h40 := o.1
  intro n
  induction n with
  | zero =>
    intro j k hj hk
    unfold fX8_placeOf_l5
    refine wh_done ?_
    show fX8_placeOf_c5 a (nI w) (nI k) (nI j) h = _
    unfold fX8_placeOf_c5
    rw [gd_t k1, k2, if_pos (nI_le (by omega) (by omega)), List.drop_eq_nil_of_le (by omega)]
    rfl
  | succ n ih =>
    intro j k hj hk
    have hl : j < ws.length := by omega
    have e0 : fX8_placeOf_c5 a (nI w) (nI k) (nI j) h = (if (¬ nI (ws.getD j 0) = nI w) then fX8_placeOf_b39 a (nI w) (nI k) (nI j) h else if (¬ nI k = 0) then fX8_placeOf_b39 a (nI w) (nI k + (-1)) (nI j) h else mr (some (nI j))) := by
      unfold fX8_placeOf_c5
      rw [gd_t k1, k2, if_neg (nI_ge hl (by omega)), if_neg (nI_pos hk), k3, gs_t, gd_t ⟨k4, nI_pos (by omega), by rw [nI_clamp (by omega)]; omega⟩, nI_clamp (by omega), k6 j hl]
    rw [dropS hl]
    unfold fX8_placeOf_l5 at ih ⊢
    by_cases e : ws.getD j 0 = w
    · cases k with
      | zero =>
        refine wh_done ?_
        show fX8_placeOf_c5 a (nI w) (nI 0) (nI j) h = _
        rw [e0, if_neg (by rw [nI_eq (o.lt hl) hw]; simpa using e), if_neg (by decide)]
        simp only [pl, e, decide_true, if_true, Option.map_some, optI, mr_t, Nat.zero_add]
      | succ k =>
        refine wh_step (t := (nI k, nI (j + 1))) ?_ ?_
        · show fX8_placeOf_c5 a (nI w) (nI (k + 1)) (nI j) h = _
          rw [e0, if_neg (by rw [nI_eq (o.lt hl) hw]; simpa using e), if_pos (nI_ne0 (by omega) hk)]
          unfold fX8_placeOf_b39
          rw [pk_m1, nI_1]
        · rw [ih (j + 1) k (by omega) (by omega)]
          simp only [pl, e, decide_true, if_true, map_sh]
    · refine wh_step (t := (nI k, nI (j + 1))) ?_ ?_
      · show fX8_placeOf_c5 a (nI w) (nI k) (nI j) h = _
        rw [e0, if_pos (by rw [nI_eq (o.lt hl) hw]; exact e)]
        unfold fX8_placeOf_b39
        rw [nI_1]
      · rw [ih (j + 1) k (by omega) hk]
        simp only [pl, e, decide_false, Bool.false_eq_true, if_false, map_sh]
theorem X8_placeOf_eq {h : PH} {a b : Nat} {ws : List Nat} (T : TextAt h a b ws) (o : okT ws) {w : Nat} (hw : w < 2 ^ 31) {k : Nat} (hk : k < 2 ^ 31) : fX8_placeOf a (nI w) (nI k) h = some (optI (pl (fun v => decide (v = w)) ws k)) := by
  unfold fX8_placeOf
  have := placeOf_l T o hw ws.length 0 k (by omega) hk
  show fX8_placeOf_l5 a (nI w) (nI k) (nI 0) h = _
  simpa using this
theorem X8_placeOf_neg {h : PH} {a b : Nat} {ws : List Nat} (T : TextAt h a b ws) (y : Int32) {x : Int32} (hx : x < 0) : fX8_placeOf a y x h = some (-1) := by
  unfold fX8_placeOf fX8_placeOf_l5
  refine wh_done ?_
  show fX8_placeOf_c5 a y x 0 h = _
  unfold fX8_placeOf_c5 fX8_placeOf_b45
  rw [gd_t T.1]
  by_cases e : hI h 8 a 1 ≤ 0
  · rw [if_pos e]; rfl
  · rw [if_neg e, if_pos hx]; rfl
theorem pl_none (p : Nat → Bool) : ∀ ws : List Nat, pl p ws 0 = none ↔ ∀ v ∈ ws, p v = false := by
  intro ws
  induction ws with
  | nil => simp [pl]
  | cons v ws ih =>
    by_cases e : p v = true
    · simp [pl, e]
    · have e := Bool.eq_false_iff.mpr e
      simp [pl, e, ih]
theorem optI_m1 {r : Option Nat} (h : ∀ i, r = some i → i < 2 ^ 31) : optI r = -1 ↔ r = none := by
  cases r with
  | none => simp [optI]
  | some i =>
    have := h i rfl
    constructor
    · intro e
      exfalso
      have e1 : (nI i).toInt = (-1 : Int32).toInt := congrArg Int32.toInt e
      rw [nI_toInt this] at e1
      have : (-1 : Int32).toInt = -1 := by decide
      omega
    · intro e; cases e
theorem pl_lt (p : Nat → Bool) : ∀ (ws : List Nat) (k i : Nat), pl p ws k = some i → i < ws.length := by
  intro ws
  induction ws with
  | nil => intro k i h; simp [pl] at h
  | cons v ws ih =>
    intro k i h
    rw [List.length_cons]
    have st : ∀ k', (pl p ws k').map (· + 1) = some i → i < ws.length + 1 := fun k' h => by
      cases e : pl p ws k' with
      | none => rw [e] at h; cases h
      | some j =>
        rw [e] at h
        have := ih k' j e
        have : j + 1 = i := Option.some.inj h
        omega
    by_cases e : p v = true
    · cases k with
      | zero => simp [pl, e] at h; omega
      | succ k => simp only [pl, e, if_true] at h; exact st k h
    · simp only [pl, e, Bool.false_eq_true, if_false] at h; exact st k h
theorem X8_has_eq {h : PH} {a b : Nat} {ws : List Nat} (T : TextAt h a b ws) (o : okT ws) {w : Nat} (hw : w < 2 ^ 31) : fX8_has a (nI w) h = some (bI (decide (w ∈ ws))) := by
  unfold fX8_has
  have e := X8_placeOf_eq T o hw (k := 0) (by decide)
  rw [gd_t T.1, show (0 : Int32) = nI 0 from rfl, e, bd_t]
  have hm : optI (pl (fun v => decide (v = w)) ws 0) = -1 ↔ ¬ w ∈ ws := by
    rw [optI_m1 (fun i hi => by have := pl_lt _ _ _ _ hi; have := o.1; omega), pl_none]
    simp only [decide_eq_false_iff_not]
    constructor
    · intro h1 h2; exact h1 w h2 rfl
    · intro h1 v hv e; exact h1 (e ▸ hv)
  unfold fX8_has_b15
  by_cases c : w ∈ ws
  · rw [if_neg (fun q => hm.mp q c), gd_t (by decide), decide_eq_true c]
    rfl
  · rw [if_pos (hm.mpr c), gd_t (by decide), decide_eq_false c]
    rfl
