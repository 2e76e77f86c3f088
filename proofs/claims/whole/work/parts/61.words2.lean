/-! WORDS, second: the order is one to one, beginnings -/
theorem dz_last {n w : Nat} (hn : 0 < n) (hw : w ≠ 0) (h : dz n w = true) : w % 27 ≠ 0 := by
  cases n with
  | zero => omega
  | succ n =>
    simp only [dz, if_neg hw, Bool.and_eq_true, decide_eq_true_eq] at h
    exact h.1
theorem vw1 {w : Nat} (h : vword w = true) : 1 ≤ w := by
  simp only [vword, Bool.and_eq_true, decide_eq_true_eq] at h
  exact h.1
theorem vw2 {w : Nat} (h : vword w = true) : w < 27 ^ 6 := by
  simp only [vword, Bool.and_eq_true, decide_eq_true_eq] at h
  exact h.2.1
theorem vw3 {w : Nat} (h : vword w = true) : w % 27 ≠ 0 := by
  have h1 := vw1 h
  simp only [vword, Bool.and_eq_true, decide_eq_true_eq] at h
  exact dz_last (n := 6) (by decide) (by omega) h.2.2
theorem p27_cancel {w v a b : Nat} (h : w * 27 ^ a = v * 27 ^ b) (hab : a ≤ b) (hw : w % 27 ≠ 0) : w = v := by
  obtain ⟨d, rfl⟩ := Nat.exists_eq_add_of_le hab
  rw [Nat.pow_add, Nat.mul_comm (27 ^ a), ← Nat.mul_assoc] at h
  have h2 := Nat.eq_of_mul_eq_mul_right (Nat.pow_pos (by decide)) h
  cases d with
  | zero => simpa using h2
  | succ d =>
    rw [Nat.pow_succ, ← Nat.mul_assoc] at h2
    rw [h2, Nat.mul_mod_left] at hw
    exact absurd rfl hw
theorem ord_inj {w v : Nat} (hw : vword w = true) (hv : vword v = true) (h : ord w = ord v) : w = v := by
  unfold ord at h
  rcases Nat.le_total (6 - nl 6 w) (6 - nl 6 v) with e | e
  · exact p27_cancel h e (vw3 hw)
  · exact (p27_cancel h.symm e (vw3 hv)).symm
/-- whether b stands among the beginnings of w (of at most n letters) -/
def beg : Nat → Nat → Nat → Bool
  | 0, _, _ => false
  | n + 1, b, w => if w = 0 then false else if w = b then true else beg n b (w / 27)
theorem isBeginning_l (n : Nat) : ∀ b w : Nat, b < 2 ^ 31 → w < 27 ^ n → w < 2 ^ 31 → fX10_isBeginning_l2 (nI b) (nI w) = some (bI (beg n b w)) := by
  have z : ∀ m b : Nat, fX10_isBeginning_l2 (nI b) (nI 0) = some (bI (beg m b 0)) := fun m b => by
    have e : beg m b 0 = false := by cases m <;> simp [beg]
    rw [e]
    unfold fX10_isBeginning_l2
    refine wh_done ?_
    show fX10_isBeginning_c2 (nI b) (nI 0) = _
    unfold fX10_isBeginning_c2
    rw [if_pos (by decide)]
    rfl
  induction n with
  | zero =>
    intro b w _ h1 h2
    have : w = 0 := by simp at h1; omega
    subst this
    exact z 0 b
  | succ n ih =>
    intro b w hb h1 h2
    by_cases hw : w = 0
    · subst hw; exact z _ b
    · have := ih b (w / 27) hb (div27 h1) (by omega)
      unfold fX10_isBeginning_l2 at this ⊢
      by_cases e : w = b
      · refine wh_done ?_
        show fX10_isBeginning_c2 (nI b) (nI w) = _
        unfold fX10_isBeginning_c2
        rw [if_neg (nI_nle (by omega) h2), if_neg (by rw [nI_eq h2 hb]; simpa using e)]
        have hb0 : ¬ b = 0 := e ▸ hw
        simp [beg, e, hb0, bI, mr_t]
      · refine wh_step (t := nI (w / 27)) ?_ ?_
        · show fX10_isBeginning_c2 (nI b) (nI w) = _
          unfold fX10_isBeginning_c2
          rw [if_neg (nI_nle (by omega) h2), if_pos (by rw [nI_eq h2 hb]; exact e), i27, pk_div h2 (by decide) (by decide)]
        · rw [this]
          simp [beg, hw, e]
theorem nl_div : ∀ j n w : Nat, w < 27 ^ n → nl n (w / 27 ^ j) = nl n w - j := by
  intro j
  induction j with
  | zero => intro n w _; simp
  | succ j ih =>
    intro n w h
    by_cases e : w = 0
    · subst e; simp [nl_0]
    · cases n with
      | zero => simp at h; omega
      | succ n =>
        have hd := div27 h
        rw [Nat.pow_succ, Nat.mul_comm, ← Nat.div_div_eq_div_mul, nl_s e]
        have e1 : nl (n + 1) (w / 27 / 27 ^ j) = nl n (w / 27 / 27 ^ j) := by
          refine nl_eq _ _ _ (Nat.lt_of_le_of_lt (Nat.div_le_self _ _) (Nat.lt_of_lt_of_le hd (Nat.pow_le_pow_right (by decide) (by omega)))) (Nat.lt_of_le_of_lt (Nat.div_le_self _ _) hd)
        rw [e1, ih n (w / 27) hd]
        omega
theorem beg_iff : ∀ n b w : Nat, w < 27 ^ n → 1 ≤ b → (beg n b w = true ↔ ∃ j, w / 27 ^ j = b) := by
  intro n
  induction n with
  | zero =>
    intro b w h hb
    have : w = 0 := by simp at h; omega
    subst this
    simp [beg]
    omega
  | succ n ih =>
    intro b w h hb
    by_cases hw : w = 0
    · subst hw
      simp [beg]
      omega
    · by_cases e : w = b
      · simp only [beg, if_neg hw, if_pos e, true_iff]
        exact ⟨0, by simpa using e⟩
      · simp only [beg, if_neg hw, if_neg e]
        rw [ih b (w / 27) (div27 h) hb]
        constructor
        · rintro ⟨j, hj⟩
          exact ⟨j + 1, by rw [Nat.pow_succ, Nat.mul_comm, ← Nat.div_div_eq_div_mul]; exact hj⟩
        · rintro ⟨j, hj⟩
          cases j with
          | zero => exact absurd (by simpa using hj) e
          | succ j => exact ⟨j, by rw [Nat.pow_succ, Nat.mul_comm, ← Nat.div_div_eq_div_mul] at hj; exact hj⟩
/-- w begins with the letters of f -/
def bgn (w f : Nat) : Bool := decide (w / 27 ^ (nl 6 w - nl 6 f) = f)
theorem beg_bgn {b w : Nat} (hw : w < 27 ^ 6) (hb : 1 ≤ b) (hb6 : b < 27 ^ 6) : beg 6 b w = bgn w b := by
  unfold bgn
  rw [Bool.eq_iff_iff, beg_iff 6 b w hw hb, decide_eq_true_eq]
  constructor
  · rintro ⟨j, hj⟩
    have h1 := nl_div j 6 w hw
    rw [hj] at h1
    have hp : 0 < nl 6 b := nl_pos (by omega) (by decide)
    rw [show nl 6 w - nl 6 b = j by omega]
    exact hj
  · exact fun h => ⟨_, h⟩
theorem isBeginning_eq {b w : Nat} (hb : 1 ≤ b) (hb6 : b < 27 ^ 6) (hw : w < 27 ^ 6) : fX10_isBeginning (nI b) (nI w) = some (bI (bgn w b)) := by
  unfold fX10_isBeginning
  rw [isBeginning_l 6 b w (Nat.lt_of_lt_of_le hb6 (by decide)) hw (Nat.lt_of_lt_of_le hw (by decide)), beg_bgn hw hb hb6]
theorem beginsWith_eq {f w : Nat} (hf : f < 27 ^ 6) (hw : w < 27 ^ 6) : fX12_beginsWith (nI w) (nI f) = some (bI (bgn w f)) := by
  unfold fX12_beginsWith
  rw [letters6 hw, bd_t]
  unfold fX12_beginsWith_l7
  have hb1 := nl_bd 6 w
  have hb2 := nl_bd 6 f
  refine wh_out (fun j => (nI (w / 27 ^ j), nI (nl 6 w - j))) (nl 6 w - nl 6 f) (by simp) (fun j hj => ?_) ?_
  · show fX12_beginsWith_c7 (nI f) (nI (w / 27 ^ j)) (nI (nl 6 w - j)) = _
    unfold fX12_beginsWith_c7
    have h3 : w / 27 ^ j < 2 ^ 31 := Nat.lt_of_le_of_lt (Nat.div_le_self _ _) (Nat.lt_of_lt_of_le hw (by decide))
    rw [letters6 hf, bd_t, if_neg (by rw [nI_leI (by omega) (by omega)]; omega), i27, pk_div h3 (by decide) (by decide), show nl 6 w - j = nl 6 w - (j + 1) + 1 by omega, pk_m1, Nat.div_div_eq_div_mul, ← Nat.pow_succ]
  · show fX12_beginsWith_c7 (nI f) (nI (w / 27 ^ (nl 6 w - nl 6 f))) (nI (nl 6 w - (nl 6 w - nl 6 f))) = _
    unfold fX12_beginsWith_c7 fX12_beginsWith_b36
    have h3 : w / 27 ^ (nl 6 w - nl 6 f) < 2 ^ 31 := Nat.lt_of_le_of_lt (Nat.div_le_self _ _) (Nat.lt_of_lt_of_le hw (by decide))
    rw [letters6 hf, bd_t, if_pos (by rw [nI_leI (by omega) (by omega)]; omega)]
    unfold bgn
    by_cases e : w / 27 ^ (nl 6 w - nl 6 f) = f
    · rw [if_neg (by rw [nI_eq h3 (Nat.lt_of_lt_of_le hf (by decide))]; simpa using e), gd_t (by decide), decide_eq_true e]
      rfl
    · rw [if_pos (by rw [nI_eq h3 (Nat.lt_of_lt_of_le hf (by decide))]; exact e), gd_t (by decide), decide_eq_false e]
      rfl
/-- among words in their order, those that begin with f are a range -/
theorem bgn_range {w f : Nat} (hw : vword w = true) (hf : vword f = true) : bgn w f = true ↔ ord f ≤ ord w ∧ ord w < (f + 1) * 27 ^ (6 - nl 6 f) := by
  have w6 := vw2 hw
  have f6 := vw2 hf
  have hb1 := nl_bd 6 w
  have hb2 := nl_bd 6 f
  have hP : 0 < 27 ^ (6 - nl 6 f) := Nat.pow_pos (by decide)
  have key : (ord f ≤ ord w ∧ ord w < (f + 1) * 27 ^ (6 - nl 6 f)) ↔ ord w / 27 ^ (6 - nl 6 f) = f := by
    unfold ord
    rw [Nat.div_eq_iff hP]
    constructor
    · rintro ⟨a, b⟩
      rw [Nat.add_mul, Nat.one_mul] at b
      omega
    · rintro ⟨a, b⟩
      rw [Nat.add_mul, Nat.one_mul]
      omega
  rw [key]
  unfold bgn ord
  rw [decide_eq_true_eq]
  rcases Nat.le_total (nl 6 f) (nl 6 w) with e | e
  · rw [show 6 - nl 6 f = (6 - nl 6 w) + (nl 6 w - nl 6 f) by omega, Nat.pow_add, ← Nat.div_div_eq_div_mul, Nat.mul_div_cancel _ (Nat.pow_pos (by decide))]
  · rw [show nl 6 w - nl 6 f = 0 by omega, Nat.pow_zero, Nat.div_one, show 6 - nl 6 w = (nl 6 f - nl 6 w) + (6 - nl 6 f) by omega, Nat.pow_add, ← Nat.mul_assoc, Nat.mul_div_cancel _ hP]
    rcases Nat.eq_or_lt_of_le e with e | e
    · rw [e, Nat.sub_self, Nat.pow_zero, Nat.mul_one]
    · constructor
      · intro h; rw [h] at e; omega
      · intro h
        exfalso
        refine vw3 hf ?_
        rw [← h, show nl 6 f - nl 6 w = (nl 6 f - nl 6 w - 1) + 1 by omega, Nat.pow_succ, ← Nat.mul_assoc, Nat.mul_mod_left]
