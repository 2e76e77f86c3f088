/-! WORDS BESIDE EACH OTHER: digits -/
def dgt (w i : Nat) : Nat := w / 27 ^ i % 27
theorem dgt_lt (w i : Nat) : dgt w i < 27 := Nat.mod_lt _ (by decide)
theorem dgt_div (w k j : Nat) : dgt (w / 27 ^ k) j = dgt w (k + j) := by
  unfold dgt
  rw [Nat.div_div_eq_div_mul, ← Nat.pow_add]
theorem all_dgt : ∀ n w v, w < 27 ^ n → v < 27 ^ n → (∀ j, j < n → dgt w j = dgt v j) → w = v
  | 0, w, v, hw, hv, _ => by rw [Nat.pow_zero] at hw hv; omega
  | n + 1, w, v, hw, hv, h => by
    have h0 : w % 27 = v % 27 := by
      have := h 0 (Nat.succ_pos _)
      unfold dgt at this
      rwa [Nat.pow_zero, Nat.div_one, Nat.div_one] at this
    have h1 : w / 27 = v / 27 := all_dgt n _ _ (div27 hw) (div27 hv) (fun j hj => by
      have := h (j + 1) (by omega)
      have e : ∀ x, dgt (x / 27) j = dgt x (j + 1) := fun x => by
        have := dgt_div x 1 j
        rw [Nat.pow_one] at this
        rw [this, Nat.add_comm]
      rw [e, e]
      exact this)
    omega
theorem div_dgt {n w v k : Nat} (hw : w < 27 ^ n) (hv : v < 27 ^ n) : w / 27 ^ k = v / 27 ^ k ↔ ∀ j, k ≤ j → j < n → dgt w j = dgt v j := by
  constructor
  · intro h j hj _
    have := congrArg (fun x => dgt x (j - k)) h
    simp only [dgt_div] at this
    rwa [show k + (j - k) = j by omega] at this
  · intro h
    have b : ∀ x, x < 27 ^ n → x / 27 ^ k < 27 ^ n := fun x hx => Nat.lt_of_le_of_lt (Nat.div_le_self _ _) hx
    refine all_dgt n _ _ (b w hw) (b v hv) (fun j hj => ?_)
    rw [dgt_div, dgt_div]
    by_cases c : k + j < n
    · exact h _ (Nat.le_add_right _ _) c
    · have z : ∀ x, x < 27 ^ n → dgt x (k + j) = 0 := fun x hx => by
        unfold dgt
        rw [Nat.div_eq_of_lt (Nat.lt_of_lt_of_le hx (Nat.pow_le_pow_right (by decide) (by omega)))]
      rw [z w hw, z v hv]
theorem mod_dgt (w v : Nat) : ∀ k, w % 27 ^ k = v % 27 ^ k ↔ ∀ j, j < k → dgt w j = dgt v j
  | 0 => by
    rw [Nat.pow_zero, Nat.mod_one, Nat.mod_one]
    exact ⟨fun _ j hj => absurd hj (Nat.not_lt_zero _), fun _ => rfl⟩
  | k + 1 => by
    have ih := mod_dgt w v k
    have P : 0 < 27 ^ k := Nat.pow_pos (by decide)
    have e : ∀ x, x % 27 ^ (k + 1) = x % 27 ^ k + 27 ^ k * dgt x k := fun x => Nat.mod_pow_succ
    rw [e, e]
    have l1 := Nat.mod_lt w P
    have l2 := Nat.mod_lt v P
    constructor
    · intro h
      have h1 : w % 27 ^ k = v % 27 ^ k := by
        have := congrArg (· % 27 ^ k) h
        simp only [Nat.add_mul_mod_self_left, Nat.mod_mod] at this
        exact this
      have h2 : dgt w k = dgt v k := by
        rw [h1] at h
        exact Nat.eq_of_mul_eq_mul_left P (Nat.add_left_cancel h)
      intro j hj
      by_cases c : j = k
      · rw [c]; exact h2
      · exact ih.mp h1 j (by omega)
    · intro h
      rw [ih.mpr (fun j hj => h j (by omega)), h k (Nat.lt_succ_self _)]
/-- a number without its digit i -/
def del (w i : Nat) : Nat := w / 27 ^ (i + 1) * 27 ^ i + w % 27 ^ i
theorem del_dgt (w i j : Nat) : dgt (del w i) j = if j < i then dgt w j else dgt w (j + 1) := by
  have P : 0 < 27 ^ i := Nat.pow_pos (by decide)
  have l := Nat.mod_lt w P
  by_cases c : j < i
  · rw [if_pos c]
    have h : del w i % 27 ^ i = w % 27 ^ i := by
      unfold del
      rw [Nat.mul_comm, Nat.mul_add_mod, Nat.mod_mod]
    exact (mod_dgt _ _ i).mp h j c
  · rw [if_neg c]
    have h : del w i / 27 ^ i = w / 27 ^ (i + 1) := by
      unfold del
      rw [Nat.mul_comm, Nat.mul_add_div P, Nat.div_eq_of_lt l, Nat.add_zero]
    have := dgt_div (del w i) i (j - i)
    rw [show i + (j - i) = j by omega, h, dgt_div, show i + 1 + (j - i) = j + 1 by omega] at this
    exact this.symm
theorem del_lt {w n i : Nat} (h : w < 27 ^ (n + 1)) (hi : i < n + 1) : del w i < 27 ^ n := by
  have P : 0 < 27 ^ i := Nat.pow_pos (by decide)
  have l := Nat.mod_lt w P
  have q : w / 27 ^ (i + 1) < 27 ^ (n - i) := Nat.div_lt_of_lt_mul (by rw [← Nat.pow_add, show i + 1 + (n - i) = n + 1 by omega]; exact h)
  have : (w / 27 ^ (i + 1) + 1) * 27 ^ i ≤ 27 ^ (n - i) * 27 ^ i := Nat.mul_le_mul_right _ q
  rw [← Nat.pow_add, show n - i + i = n by omega, Nat.add_mul, Nat.one_mul] at this
  unfold del
  omega
theorem del_eq {w v n i : Nat} (hw : w < 27 ^ (n + 1)) (hv : v < 27 ^ n) (hi : i < n + 1) : del w i = v ↔ ∀ j, j < n → dgt v j = if j < i then dgt w j else dgt w (j + 1) := by
  constructor
  · rintro rfl j _; exact del_dgt w i j
  · intro h
    refine all_dgt n _ _ (del_lt hw hi) hv (fun j hj => ?_)
    rw [del_dgt, h j hj]
theorem fst_iff {p : Nat → Bool} : ∀ f j, (fst1 p f j).isSome = true ↔ ∃ i, j ≤ i ∧ i < j + f ∧ p i = true
  | 0, j => by
    constructor
    · intro h; cases h
    · rintro ⟨i, h1, h2, -⟩; omega
  | f + 1, j => by
    rw [fst1]
    cases e : p j with
    | true =>
      rw [if_pos rfl]
      exact ⟨fun _ => ⟨j, Nat.le_refl _, by omega, e⟩, fun _ => rfl⟩
    | false =>
      rw [if_neg (by decide), fst_iff f (j + 1)]
      constructor
      · rintro ⟨i, h1, h2, h3⟩; exact ⟨i, by omega, by omega, h3⟩
      · rintro ⟨i, h1, h2, h3⟩
        refine ⟨i, ?_, by omega, h3⟩
        apply Nat.lt_of_le_of_ne h1
        rintro rfl
        rw [e] at h3; cases h3
theorem cnt_one {q : Nat → Bool} : ∀ n, cnt q n = 1 ↔ ∃ i, i < n ∧ q i = true ∧ ∀ j, j < n → q j = true → j = i
  | 0 => by
    constructor
    · intro h; cases h
    · rintro ⟨i, h, -⟩; omega
  | n + 1 => by
    have ih := cnt_one (q := q) n
    have c0 : cnt q n = 0 ↔ ∀ j, j < n → q j = false := by
      constructor
      · intro h j hj
        cases e : q j with
        | false => rfl
        | true =>
          exfalso
          have hm : ∀ n, j < n → 0 < cnt q n := fun n => by
            induction n with
            | zero => intro h; omega
            | succ n ih2 =>
              intro hj
              rw [cnt_s]
              by_cases d : j = n
              · rw [← d, e, if_pos rfl]; omega
              · have := ih2 (by omega); omega
          have := hm n hj
          omega
      · intro h; exact cnt_none n h
    rw [cnt_s]
    cases e : q n with
    | true =>
      rw [if_pos rfl]
      constructor
      · intro h
        have z := c0.mp (by omega)
        refine ⟨n, Nat.lt_succ_self _, e, fun j hj hq => ?_⟩
        by_cases d : j < n
        · rw [z j d] at hq; cases hq
        · omega
      · rintro ⟨i, h1, h2, h3⟩
        have hi := h3 n (Nat.lt_succ_self _) e
        have : cnt q n = 0 := c0.mpr (fun j hj => by
          cases d : q j with
          | false => rfl
          | true => have := h3 j (by omega) d; omega)
        omega
    | false =>
      rw [if_neg (by decide)]
      show cnt q n = 1 ↔ _
      rw [ih]
      constructor
      · rintro ⟨i, h1, h2, h3⟩
        refine ⟨i, by omega, h2, fun j hj hq => h3 j ?_ hq⟩
        apply Nat.lt_of_le_of_ne (by omega)
        rintro rfl
        rw [e] at hq; cases hq
      · rintro ⟨i, h1, h2, h3⟩
        refine ⟨i, ?_, h2, fun j hj hq => h3 j (by omega) hq⟩
        apply Nat.lt_of_le_of_ne (by omega)
        rintro rfl
        rw [e] at h2; cases h2
/-- one letter changed -/
theorem changed_iff {w v n : Nat} (hw : w < 27 ^ n) (hv : v < 27 ^ n) : (¬ w = v ∧ ∃ i, i < n ∧ w / 27 ^ (i + 1) = v / 27 ^ (i + 1) ∧ w % 27 ^ i = v % 27 ^ i) ↔ cnt (fun k => !decide (dgt w (n - 1 - k) = dgt v (n - 1 - k))) n = 1 := by
  rw [cnt_one]
  constructor
  · rintro ⟨h0, i, hi, h1, h2⟩
    rw [div_dgt hw hv] at h1
    rw [mod_dgt] at h2
    have hd : ∀ j, j < n → dgt w j ≠ dgt v j → j = i := fun j hj q => by
      apply Nat.le_antisymm
      · apply Nat.le_of_not_lt
        intro z
        exact q (h1 j z hj)
      · apply Nat.le_of_not_lt
        intro z
        exact q (h2 j z)
    refine ⟨n - 1 - i, by omega, ?_, fun j hj q => ?_⟩
    · rw [show n - 1 - (n - 1 - i) = i by omega, Bool.not_eq_true', decide_eq_false_iff_not]
      intro z
      refine h0 (all_dgt n w v hw hv (fun j hj => ?_))
      by_cases y : dgt w j = dgt v j
      · exact y
      · rw [hd j hj y]; exact z
    · rw [Bool.not_eq_true', decide_eq_false_iff_not] at q
      have := hd (n - 1 - j) (by omega) q
      omega
  · rintro ⟨k, hk, h1, h2⟩
    rw [Bool.not_eq_true', decide_eq_false_iff_not] at h1
    have hd : ∀ j, j < n → ¬ j = n - 1 - k → dgt w j = dgt v j := fun j hj y => by
      by_cases z : dgt w j = dgt v j
      · exact z
      · have := h2 (n - 1 - j) (by omega) (by rw [show n - 1 - (n - 1 - j) = j by omega, Bool.not_eq_true', decide_eq_false_iff_not]; exact z)
        omega
    refine ⟨fun e => h1 (by rw [e]), n - 1 - k, by omega, ?_, ?_⟩
    · rw [div_dgt hw hv]
      exact fun j hj hn => hd j hn (by omega)
    · rw [mod_dgt]
      exact fun j hj => hd j (by omega) (by omega)
def allF (A : Nat → Bool) : Nat → Nat → Bool
  | 0, _ => true
  | f + 1, k => A k && allF A f (k + 1)
def qf (A B : Nat → Bool) : Nat → Nat → Bool
  | 0, _ => true
  | f + 1, k => if B k then qf A B f (k + 1) else allF A (f + 1) k
theorem allF_iff {A : Nat → Bool} : ∀ f k, allF A f k = true ↔ ∀ j, k ≤ j → j < k + f → A j = true
  | 0, k => ⟨fun _ j h1 h2 => by omega, fun _ => rfl⟩
  | f + 1, k => by
    rw [allF, Bool.and_eq_true, allF_iff f (k + 1)]
    constructor
    · rintro ⟨h1, h2⟩ j h3 h4
      by_cases c : j = k
      · rw [c]; exact h1
      · exact h2 j (by omega) (by omega)
    · intro h
      exact ⟨h k (Nat.le_refl _) (by omega), fun j h1 h2 => h j (by omega) (by omega)⟩
theorem qf_iff {A B : Nat → Bool} : ∀ f k, qf A B f k = true ↔ ∃ p, k ≤ p ∧ p ≤ k + f ∧ (∀ j, k ≤ j → j < p → B j = true) ∧ (∀ j, p ≤ j → j < k + f → A j = true)
  | 0, k => ⟨fun _ => ⟨k, Nat.le_refl _, Nat.le_refl _, fun j h1 h2 => by omega, fun j h1 h2 => by omega⟩, fun _ => rfl⟩
  | f + 1, k => by
    rw [qf]
    cases e : B k with
    | true =>
      rw [if_pos rfl, qf_iff f (k + 1)]
      constructor
      · rintro ⟨p, h1, h2, h3, h4⟩
        refine ⟨p, by omega, by omega, fun j g1 g2 => ?_, fun j g1 g2 => h4 j g1 (by omega)⟩
        by_cases c : j = k
        · rw [c]; exact e
        · exact h3 j (by omega) g2
      · rintro ⟨p, h1, h2, h3, h4⟩
        by_cases c : p = k
        · exact ⟨k + 1, Nat.le_refl _, by omega, fun j g1 g2 => by omega, fun j g1 g2 => h4 j (by omega) (by omega)⟩
        · exact ⟨p, by omega, by omega, fun j g1 g2 => h3 j (by omega) g2, fun j g1 g2 => h4 j g1 (by omega)⟩
    | false =>
      rw [if_neg (by decide), allF_iff]
      constructor
      · intro h
        exact ⟨k, Nat.le_refl _, by omega, fun j g1 g2 => by omega, h⟩
      · rintro ⟨p, h1, h2, h3, h4⟩
        have : p = k := by
          apply Nat.le_antisymm _ h1
          apply Nat.le_of_not_lt
          intro z
          have := h3 k (Nat.le_refl _) z
          rw [e] at this; cases this
        rw [this] at h4
        exact h4
/-- one letter left out: w has a letter more -/
theorem left_iff {w v n : Nat} (hw : w < 27 ^ (n + 1)) (hv : v < 27 ^ n) : (∃ i, i < n + 1 ∧ del w i = v) ↔ qf (fun k => decide (dgt w (n - (k + 1)) = dgt v (n - 1 - k))) (fun k => decide (dgt w (n - k) = dgt v (n - 1 - k))) n 0 = true := by
  rw [qf_iff]
  constructor
  · rintro ⟨i, hi, h⟩
    rw [del_eq hw hv hi] at h
    refine ⟨n - i, Nat.zero_le _, by omega, fun j _ g => ?_, fun j g1 g2 => ?_⟩
    · have := h (n - 1 - j) (by omega)
      rw [if_neg (by omega), show n - 1 - j + 1 = n - j by omega] at this
      rw [decide_eq_true this.symm]
    · have := h (n - 1 - j) (by omega)
      rw [if_pos (by omega)] at this
      rw [show n - (j + 1) = n - 1 - j by omega, decide_eq_true this.symm]
  · rintro ⟨p, -, h2, h3, h4⟩
    refine ⟨n - p, by omega, (del_eq hw hv (by omega)).mpr (fun j hj => ?_)⟩
    by_cases c : j < n - p
    · have := decide_eq_true_eq.mp (h4 (n - 1 - j) (by omega) (by omega))
      rw [if_pos c]
      rw [show n - (n - 1 - j + 1) = j by omega, show n - 1 - (n - 1 - j) = j by omega] at this
      exact this.symm
    · have := decide_eq_true_eq.mp (h3 (n - 1 - j) (Nat.zero_le _) (by omega))
      rw [if_neg c]
      rw [show n - (n - 1 - j) = j + 1 by omega, show n - 1 - (n - 1 - j) = j by omega] at this
      exact this.symm
