/-! WORDS: numbers of base 27: letters, order, beginnings, validity; the class's and the reference's functions of them -/
def bI (b : Bool) : Int32 := if b then 1 else 0
/-- how many digits (of at most n) -/
def nl : Nat → Nat → Nat
  | 0, _ => 0
  | n + 1, w => if w = 0 then 0 else nl n (w / 27) + 1
/-- no digit is 0 -/
def dz : Nat → Nat → Bool
  | 0, _ => true
  | n + 1, w => if w = 0 then true else decide (w % 27 ≠ 0) && dz n (w / 27)
def vword (w : Nat) : Bool := decide (1 ≤ w) && (decide (w < 27 ^ 6) && dz 6 w)
def vI (x : Int32) : Bool := decide (1 ≤ x) && vword x.toNatClampNeg
def ord (w : Nat) : Nat := w * 27 ^ (6 - nl 6 w)
theorem i27 : (27 : Int32) = nI 27 := rfl
theorem nl_0 (n : Nat) : nl n 0 = 0 := by cases n <;> simp [nl]
theorem nl_s {n w : Nat} (h : w ≠ 0) : nl (n + 1) w = nl n (w / 27) + 1 := by simp [nl, h]
theorem div27 {n w : Nat} (h : w < 27 ^ (n + 1)) : w / 27 < 27 ^ n := Nat.div_lt_of_lt_mul (by rw [Nat.mul_comm, ← Nat.pow_succ]; exact h)
theorem nl_bd : ∀ n w : Nat, nl n w ≤ n := by
  intro n
  induction n with
  | zero => intro w; simp [nl]
  | succ n ih =>
    intro w
    by_cases h : w = 0
    · subst h; rw [nl_0]; omega
    · rw [nl_s h]; have := ih (w / 27); omega
theorem nl_gt : ∀ n w : Nat, w < 27 ^ n → w < 27 ^ nl n w := by
  intro n
  induction n with
  | zero => intro w h; simpa [nl] using h
  | succ n ih =>
    intro w h
    by_cases e : w = 0
    · subst e; rw [nl_0]; decide
    · rw [nl_s e, Nat.pow_succ]
      have := ih (w / 27) (div27 h)
      omega
theorem nl_le : ∀ n w j : Nat, j < nl n w → 27 ^ j ≤ w := by
  intro n
  induction n with
  | zero => intro w j h; simp [nl] at h
  | succ n ih =>
    intro w j h
    by_cases e : w = 0
    · subst e; rw [nl_0] at h; omega
    · rw [nl_s e] at h
      cases j with
      | zero => simp; omega
      | succ j =>
        have := ih (w / 27) j (by omega)
        rw [Nat.pow_succ]
        omega
theorem nl_eq : ∀ n m w : Nat, w < 27 ^ n → w < 27 ^ m → nl n w = nl m w := by
  intro n
  induction n with
  | zero => intro m w h _; have : w = 0 := by simp at h; omega
            subst this; rw [nl_0, nl_0]
  | succ n ih =>
    intro m w h1 h2
    by_cases e : w = 0
    · subst e; rw [nl_0, nl_0]
    · cases m with
      | zero => simp at h2; omega
      | succ m => rw [nl_s e, nl_s e, ih m (w / 27) (div27 h1) (div27 h2)]
theorem nl_pos {n w : Nat} (h : w ≠ 0) (hn : 0 < n) : 0 < nl n w := by
  cases n with
  | zero => omega
  | succ n => rw [nl_s h]; omega
/-! the reference's -/
theorem letters_l (n : Nat) : ∀ w k : Nat, w < 27 ^ n → w < 2 ^ 31 → fX12_letters_l4 (nI k) (nI w) = some (nI (k + nl n w)) := by
  have z : ∀ k m : Nat, fX12_letters_l4 (nI k) (nI 0) = some (nI (k + nl m 0)) := fun k m => by
    unfold fX12_letters_l4
    rw [nl_0]
    refine wh_done ?_
    show fX12_letters_c4 (nI k) (nI 0) = _
    unfold fX12_letters_c4
    rw [if_pos (by decide)]
    rfl
  induction n with
  | zero =>
    intro w k h1 h2
    have : w = 0 := by simp at h1; omega
    subst this
    exact z k 0
  | succ n ih =>
    intro w k h1 h2
    by_cases hw : w = 0
    · subst hw; exact z k _
    · have := ih (w / 27) (k + 1) (div27 h1) (by omega)
      unfold fX12_letters_l4 at this ⊢
      refine wh_step (t := (nI (k + 1), nI (w / 27))) ?_ ?_
      · show fX12_letters_c4 (nI k) (nI w) = _
        unfold fX12_letters_c4
        rw [if_neg (nI_nle (by omega) h2), i27, pk_div h2 (by decide) (by decide), nI_1]
      · rw [this, nl_s hw]
        congr 2
        omega
theorem letters_eq {w : Nat} (h : w < 2 ^ 31) : fX12_letters (nI w) = some (nI (nl 7 w)) := by
  unfold fX12_letters
  have := letters_l 7 w 0 (Nat.lt_of_lt_of_le h (by decide)) h
  rwa [Nat.zero_add] at this
theorem letters6 {w : Nat} (h : w < 27 ^ 6) : fX12_letters (nI w) = some (nI (nl 6 w)) := by
  rw [letters_eq (Nat.lt_of_lt_of_le h (by decide)), nl_eq 7 6 w (Nat.lt_of_lt_of_le h (by decide)) h]
theorem order_l : ∀ n v k : Nat, k + n = 6 → v * 27 ^ n < 2 ^ 31 → fX12_order_l7 (nI v) (nI k) = some (nI (v * 27 ^ n)) := by
  intro n
  induction n with
  | zero =>
    intro v k h1 h2
    have : k = 6 := by omega
    subst this
    unfold fX12_order_l7
    refine wh_done ?_
    show fX12_order_c7 (nI v) (nI 6) = _
    unfold fX12_order_c7
    rw [if_pos (by decide), Nat.pow_zero, Nat.mul_one]
    rfl
  | succ n ih =>
    intro v k h1 h2
    have e : v * 27 ^ (n + 1) = v * 27 * 27 ^ n := by rw [Nat.pow_succ, Nat.mul_comm (27 ^ n) 27, Nat.mul_assoc]
    have := ih (v * 27) (k + 1) (by omega) (by rw [← e]; exact h2)
    unfold fX12_order_l7 at this ⊢
    refine wh_step (t := (nI (v * 27), nI (k + 1))) ?_ ?_
    · show fX12_order_c7 (nI v) (nI k) = _
      unfold fX12_order_c7
      rw [if_neg (by rw [show (6 : Int32) = nI 6 from rfl, nI_leI (by decide) (by omega)]; omega), i27, pk_mul, nI_1]
    · rw [this, e]
theorem ord_lt {w : Nat} (h : w < 27 ^ 6) : ord w < 27 ^ 6 := by
  unfold ord
  have h1 := nl_gt 6 w h
  have h2 := nl_bd 6 w
  calc w * 27 ^ (6 - nl 6 w) < 27 ^ nl 6 w * 27 ^ (6 - nl 6 w) := Nat.mul_lt_mul_of_pos_right h1 (Nat.pow_pos (by decide))
    _ = 27 ^ 6 := by rw [← Nat.pow_add]; congr 1; omega
theorem order_eq {w : Nat} (h : w < 27 ^ 6) : fX12_order (nI w) = some (nI (ord w)) := by
  unfold fX12_order
  rw [letters6 h, bd_t]
  exact order_l (6 - nl 6 w) w (nl 6 w) (by have := nl_bd 6 w; omega) (Nat.lt_of_lt_of_le (ord_lt h) (by decide))
theorem isAhead_eq {w v : Nat} (h1 : w < 27 ^ 6) (h2 : v < 27 ^ 6) : fX12_isAhead (nI w) (nI v) = some (bI (decide (ord w < ord v))) := by
  unfold fX12_isAhead
  rw [order_eq h1, bd_t, order_eq h2, bd_t]
  have k1 := Nat.lt_of_lt_of_le (ord_lt h1) (show 27 ^ 6 ≤ 2 ^ 31 by decide)
  have k2 := Nat.lt_of_lt_of_le (ord_lt h2) (show 27 ^ 6 ≤ 2 ^ 31 by decide)
  by_cases e : ord w < ord v
  · rw [if_neg (by rw [nI_leI k2 k1]; omega), decide_eq_true e]
    rfl
  · rw [if_pos (by rw [nI_leI k2 k1]; omega), decide_eq_false e]
    rfl
/-! the class's -/
theorem pwv_eq (j : Nat) : pwv j = nI (27 ^ j) := rfl
theorem p27 {j : Nat} (h : j ≤ 6) : 27 ^ j < 2 ^ 31 := Nat.lt_of_le_of_lt (Nat.pow_le_pow_right (by decide) h) (by decide)
theorem lettersOf_eq {w : Nat} (h : w < 27 ^ 6) : fX10_lettersOf (nI w) = some (nI (nl 6 w)) := by
  unfold fX10_lettersOf fX10_lettersOf_l2
  have hb := nl_bd 6 w
  have hw : w < 2 ^ 31 := Nat.lt_of_lt_of_le h (by decide)
  refine wh_out (fun j => nI j) (nl 6 w) rfl (fun j hj => ?_) ?_
  · show fX10_lettersOf_c2 (nI w) (nI j) = _
    unfold fX10_lettersOf_c2
    rw [if_neg (by rw [show (6 : Int32) = nI 6 from rfl, nI_leI (by decide) (by omega)]; omega), gd_t ⟨nI_pos (by omega), by rw [nI_clamp (by omega)]; omega⟩, nI_clamp (by omega), pwv_eq, if_neg (by rw [nI_ltI hw (p27 (by omega))]; have := nl_le 6 w j hj; omega), nI_1]
  · show fX10_lettersOf_c2 (nI w) (nI (nl 6 w)) = _
    unfold fX10_lettersOf_c2
    by_cases e : nl 6 w = 6
    · rw [if_pos (by rw [e]; decide)]
      rfl
    · rw [if_neg (by rw [show (6 : Int32) = nI 6 from rfl, nI_leI (by decide) (by omega)]; omega), gd_t ⟨nI_pos (by omega), by rw [nI_clamp (by omega)]; omega⟩, nI_clamp (by omega), pwv_eq, if_pos (by rw [nI_ltI hw (p27 (by omega))]; exact nl_gt 6 w h)]
      rfl
theorem orderOf_eq {w : Nat} (h : w < 27 ^ 6) : fX10_orderOf (nI w) = some (nI (ord w)) := by
  unfold fX10_orderOf
  have hb := nl_bd 6 w
  rw [lettersOf_eq h, bd_t, show (6 : Int32) = nI 6 from rfl, pk_sub hb, gd_t ⟨nI_pos (by omega), by rw [nI_clamp (by omega)]; omega⟩, nI_clamp (by omega), pwv_eq, pk_mul]
  rfl
theorem orderBehind_eq {w : Nat} (h : w < 27 ^ 6) : fX10_orderBehindBeginning (nI w) = some (nI ((w + 1) * 27 ^ (6 - nl 6 w))) := by
  unfold fX10_orderBehindBeginning
  have hb := nl_bd 6 w
  rw [lettersOf_eq h, bd_t, show (6 : Int32) = nI 6 from rfl, pk_sub hb, gd_t ⟨nI_pos (by omega), by rw [nI_clamp (by omega)]; omega⟩, nI_clamp (by omega), pwv_eq, nI_1, pk_mul]
/-! validity -/
theorem irem27 {w : Nat} (h : w < 2 ^ 31) : nI w - nI w / (27 : Int32) * (27 : Int32) = nI (w % 27) := by rw [i27]; exact pk_rem h (by decide) (by decide)
theorem isNumber_l (n : Nat) : ∀ w : Nat, w < 27 ^ n → w < 2 ^ 31 → fX10_isNumber_l19 (nI w) = some (bI (dz n w)) := by
  have z : ∀ m : Nat, fX10_isNumber_l19 (nI 0) = some (bI (dz m 0)) := fun m => by
    have e : dz m 0 = true := by cases m <;> simp [dz]
    rw [e]
    unfold fX10_isNumber_l19
    refine wh_done ?_
    show fX10_isNumber_c19 (nI 0) = _
    unfold fX10_isNumber_c19
    rw [if_pos (by decide)]
    rfl
  induction n with
  | zero =>
    intro w h1 h2
    have : w = 0 := by simp at h1; omega
    subst this
    exact z 0
  | succ n ih =>
    intro w h1 h2
    by_cases hw : w = 0
    · subst hw; exact z _
    · have := ih (w / 27) (div27 h1) (by omega)
      unfold fX10_isNumber_l19 at this ⊢
      have hm : w % 27 < 27 := Nat.mod_lt _ (by decide)
      by_cases e : w % 27 = 0
      · refine wh_done ?_
        show fX10_isNumber_c19 (nI w) = _
        unfold fX10_isNumber_c19
        rw [if_neg (nI_nle (by omega) h2), irem27 h2, e, if_neg (by decide)]
        simp [dz, hw, e, bI, mr_t]
      · refine wh_step (t := nI (w / 27)) ?_ ?_
        · show fX10_isNumber_c19 (nI w) = _
          unfold fX10_isNumber_c19
          rw [if_neg (nI_nle (by omega) h2), irem27 h2, if_pos (nI_ne0 (by omega) (by omega)), i27, pk_div h2 (by decide) (by decide)]
        · rw [this]
          simp [dz, hw, e]
theorem isNumber_eq (x : Int32) : fX10_isNumber x = some (bI (vI x)) := by
  unfold fX10_isNumber
  by_cases h : x < 1
  · rw [if_pos h]
    have : vI x = false := by
      unfold vI
      rw [decide_eq_false (by simpa using h), Bool.false_and]
    rw [this]
    rfl
  · rw [if_neg h]
    obtain ⟨w, hw, rfl⟩ := nI_of (x := x) (fun q => h (Int32.lt_trans q (by decide)))
    have h1 : 1 ≤ w := by
      rcases Nat.eq_zero_or_pos w with e | e
      · subst e; exact absurd (by decide) h
      · exact e
    have hv : vI (nI w) = vword w := by
      unfold vI
      rw [decide_eq_true (by simpa using h), Bool.true_and, nI_clamp hw]
    rw [hv, gd_t (by decide), show pwv (Int32.toNatClampNeg 6) = nI (27 ^ 6) from rfl]
    unfold vword
    rw [decide_eq_true h1, Bool.true_and]
    by_cases e : w < 27 ^ 6
    · rw [if_pos ((nI_ltI hw (by decide)).mpr e), isNumber_l 6 w e hw, decide_eq_true e, Bool.true_and]
    · rw [if_neg (by rw [nI_ltI hw (by decide)]; exact e), decide_eq_false e]
      rfl
theorem in_eq (x a b : Int32) : fX12_in x a b = some (bI (decide (a ≤ x) && decide (x ≤ b))) := by
  unfold fX12_in fX12_in_b14 fX12_in_b15
  by_cases h1 : x < a
  · rw [if_pos h1, gd_t (by decide), decide_eq_false (by simpa using h1)]
    rfl
  · rw [if_neg h1, decide_eq_true (by simpa using h1)]
    by_cases h2 : b < x
    · rw [if_pos h2, gd_t (by decide), decide_eq_false (by simpa using h2)]
      rfl
    · rw [if_neg h2, gd_t (by decide), decide_eq_true (by simpa using h2)]
      rfl
theorem bI_and (b : Bool) : bI b &&& 1 = bI b := by cases b <;> decide
theorem bI_0 (b : Bool) : (bI b = 0) = (b = false) := by cases b <;> simp [bI]
theorem isWord_l (n : Nat) : ∀ (v0 : Int32) (w : Nat) (b : Bool), w < 27 ^ n → w < 2 ^ 31 → fX12_isWord_c2 v0 (nI 0) = some (.inr (bI b)) → fX12_isWord_l2 v0 (nI w) = some (bI (dz n w && b)) := by
  induction n with
  | zero =>
    intro v0 w b h1 h2 h3
    have : w = 0 := by simp at h1; omega
    subst this
    unfold fX12_isWord_l2
    exact wh_done (by rw [show dz 0 0 = true from rfl, Bool.true_and]; exact h3)
  | succ n ih =>
    intro v0 w b h1 h2 h3
    by_cases hw : w = 0
    · subst hw
      unfold fX12_isWord_l2
      exact wh_done (by rw [show dz (n + 1) 0 = true by simp [dz], Bool.true_and]; exact h3)
    · have := ih v0 (w / 27) b (div27 h1) (by omega) h3
      unfold fX12_isWord_l2 at this ⊢
      have hm : w % 27 < 27 := Nat.mod_lt _ (by decide)
      by_cases e : w % 27 = 0
      · refine wh_done ?_
        show fX12_isWord_c2 v0 (nI w) = _
        unfold fX12_isWord_c2
        rw [if_neg (nI_nle (by omega) h2), irem27 h2, e, if_neg (by decide)]
        simp [dz, hw, e, bI, mr_t]
      · refine wh_step (t := nI (w / 27)) ?_ ?_
        · show fX12_isWord_c2 v0 (nI w) = _
          unfold fX12_isWord_c2
          rw [if_neg (nI_nle (by omega) h2), irem27 h2, if_pos (nI_ne0 (by omega) (by omega)), i27, pk_div h2 (by decide) (by decide)]
        · rw [this]
          simp [dz, hw, e]
theorem dz_more : ∀ n m w : Nat, w < 27 ^ n → w < 27 ^ m → dz n w = dz m w := by
  intro n
  induction n with
  | zero => intro m w h _; have : w = 0 := by simp at h; omega
            subst this; cases m <;> simp [dz]
  | succ n ih =>
    intro m w h1 h2
    by_cases e : w = 0
    · subst e; cases m <;> simp [dz]
    · cases m with
      | zero => simp at h2; omega
      | succ m => simp only [dz, if_neg e, ih m (w / 27) (div27 h1) (div27 h2)]
theorem isWord_eq (x : Int32) : fX12_isWord x = some (bI (vI x)) := by
  unfold fX12_isWord
  by_cases h : x < 1
  · have hv : vI x = false := by
      unfold vI
      rw [decide_eq_false (by simpa using h), Bool.false_and]
    rw [hv]
    have hx : x ≤ 0 := by
      rw [Int32.lt_iff_toInt_lt] at h
      rw [Int32.le_iff_toInt_le]
      have : (1 : Int32).toInt = 1 := by decide
      have : (0 : Int32).toInt = 0 := by decide
      omega
    unfold fX12_isWord_l2
    refine wh_done ?_
    show fX12_isWord_c2 x x = _
    unfold fX12_isWord_c2
    have hl : fX12_letters x = some 0 := by
      unfold fX12_letters fX12_letters_l4
      refine wh_done ?_
      show fX12_letters_c4 0 x = _
      unfold fX12_letters_c4
      rw [if_pos hx]
      rfl
    rw [if_pos hx, hl, bd_t, in_eq, bd_t, gd_t (bI_and _)]
    rfl
  · obtain ⟨w, hw, rfl⟩ := nI_of (x := x) (fun q => h (Int32.lt_trans q (by decide)))
    have h1 : 1 ≤ w := by
      rcases Nat.eq_zero_or_pos w with e | e
      · subst e; exact absurd (by decide) h
      · exact e
    have hv : vI (nI w) = vword w := by
      unfold vI
      rw [decide_eq_true (by simpa using h), Bool.true_and, nI_clamp hw]
    have h7 : w < 27 ^ 7 := Nat.lt_of_lt_of_le hw (by decide)
    have hb := nl_bd 7 w
    have hp : 0 < nl 7 w := nl_pos (by omega) (by decide)
    rw [isWord_l 7 (nI w) w (decide (nl 7 w ≤ 6)) h7 hw, hv]
    · congr 2
      unfold vword
      rw [decide_eq_true h1, Bool.true_and]
      by_cases e : w < 27 ^ 6
      · rw [decide_eq_true e, dz_more 7 6 w h7 e, nl_eq 7 6 w h7 e, decide_eq_true (nl_bd 6 w), Bool.and_true, Bool.true_and]
      · have : ¬ nl 7 w ≤ 6 := fun q => e (Nat.lt_of_lt_of_le (nl_gt 7 w h7) (Nat.pow_le_pow_right (by decide) q))
        rw [decide_eq_false e, decide_eq_false this, Bool.and_false, Bool.false_and]
    · unfold fX12_isWord_c2
      rw [if_pos (by decide), letters_eq hw, bd_t, in_eq, bd_t, gd_t (bI_and _), mr_t]
      congr 3
      rw [show (1 : Int32) = nI 1 from rfl, show (6 : Int32) = nI 6 from rfl]
      simp only [nI_leI (show 1 < 2 ^ 31 by decide) (show nl 7 w < 2 ^ 31 by omega), nI_leI (show nl 7 w < 2 ^ 31 by omega) (show 6 < 2 ^ 31 by decide)]
      rw [decide_eq_true (show 1 ≤ nl 7 w from hp), Bool.true_and]
