/-! THE CLASS's simple questions of texts, the reference's checks of numbers -/
/-- the text of a number, if it is there -/
def txI (tx : TX) (x : Int32) : Option (List Nat) := if x < 0 then none else if (100 : Int32) ≤ x then none else tx x.toNatClampNeg
theorem txI_nI {tx : TX} (o : okX tx) {t : Nat} (ht : t < 2 ^ 31) : txI tx (nI t) = tx t := by
  unfold txI
  rw [if_neg (nI_pos ht)]
  by_cases e : t < 100
  · rw [if_neg (by rw [show (100 : Int32) = nI 100 from rfl, nI_leI (by decide) ht]; omega), nI_clamp ht]
  · rw [if_pos (by rw [show (100 : Int32) = nI 100 from rfl, nI_leI (by decide) ht]; omega)]
    cases q : tx t with
    | none => rfl
    | some ws => exact absurd (o t ws q).1 e
/-- a number is one of a text, or none is there -/
theorem txI_or {tx : TX} (x : Int32) : (x < 0 ∨ (100 : Int32) ≤ x) ∧ txI tx x = none ∨ ∃ t, t < 100 ∧ x = nI t ∧ txI tx x = tx t := by
  by_cases h1 : x < 0
  · left; exact ⟨Or.inl h1, by unfold txI; rw [if_pos h1]⟩
  · by_cases h2 : (100 : Int32) ≤ x
    · left; exact ⟨Or.inr h2, by unfold txI; rw [if_neg h1, if_pos h2]⟩
    · right
      obtain ⟨t, ht, rfl⟩ := nI_of h1
      refine ⟨t, ?_, rfl, ?_⟩
      · rw [show (100 : Int32) = nI 100 from rfl, nI_leI (by decide) ht] at h2; omega
      · unfold txI; rw [if_neg h1, if_neg h2, nI_clamp ht]
theorem demandText_eq {h : PH} (c : CSh h) {tx : TX} (T : CT tx h) (x : Int32) : (txI tx x = none ∧ fX11_demandText 10 x h = some (.inr (2, h))) ∨ ∃ (t : Nat) (ws : List Nat) (a b : Nat), t < 100 ∧ x = nI t ∧ tx t = some ws ∧ txI tx x = some ws ∧ hR h 26 15 t = some a ∧ 89 ≤ a ∧ 89 ≤ b ∧ TextAt h a b ws ∧ fX11_demandText 10 x h = some (.inl (some a, h)) := by
  unfold fX11_demandText fX11_demandText_b0 fX11_demandText_b19
  rcases txI_or (tx := tx) x with ⟨h1, h2⟩ | ⟨t, ht, rfl, e⟩
  · left
    refine ⟨h2, ?_⟩
    rcases h1 with h1 | h1
    · rw [if_pos h1]
    · by_cases h0 : x < 0
      · rw [if_pos h0]
      · rw [if_neg h0, if_pos h1]
  · have e1 : ¬ (100 : Int32) ≤ nI t := by rw [show (100 : Int32) = nI 100 from rfl, nI_leI (by decide) (by omega)]; omega
    have hin : inb (nI t) (hN h 15) := by rw [n_15 c]; exact inbI ht (by decide)
    cases q : tx t with
    | none =>
      left
      refine ⟨e.trans q, ?_⟩
      rw [if_neg (nI_pos (by omega)), if_neg e1, gd_t (k_10 c), r11_10_2 c, gs_t, gd_t ⟨k_15 c, hin⟩, show hR h 26 15 (Int32.toNatClampNeg (nI t)) = none by rw [nI_clamp (by omega)]; exact T.n ht q, mq_nt]
    | some ws =>
      right
      obtain ⟨a, b, h1, h2, h3, h4⟩ := T.s ht q
      refine ⟨t, ws, a, b, ht, rfl, q, e.trans q, h1, h2, h3, h4, ?_⟩
      rw [if_neg (nI_pos (by omega)), if_neg e1, gd_t (k_10 c), r11_10_2 c, gs_t, gd_t ⟨k_15 c, hin⟩, show hR h 26 15 (Int32.toNatClampNeg (nI t)) = some a by rw [nI_clamp (by omega)]; exact h1, mq_st, gs_t, gd_t ⟨k_15 c, hin⟩, show hR h 26 15 (Int32.toNatClampNeg (nI t)) = some a by rw [nI_clamp (by omega)]; exact h1]
theorem X11_texts_eq {h : PH} (c : CSh h) {tx : TX} (T : CT tx h) : fX11_texts 10 h = some (nI (cnt (fun t => (tx t).isSome) 100)) := by
  unfold fX11_texts fX11_texts_l4
  refine wh_out (fun j => (nI (cnt (fun t => (tx t).isSome) j), nI j)) 100 rfl (fun j hj => ?_) ?_
  · show fX11_texts_c4 10 (nI (cnt (fun t => (tx t).isSome) j)) (nI j) h = _
    unfold fX11_texts_c4 fX11_texts_b22
    have hin : inb (nI j) (hN h 15) := by rw [n_15 c]; exact inbI hj (by decide)
    rw [if_neg (by rw [show (100 : Int32) = nI 100 from rfl, nI_leI (by decide) (by omega)]; omega), gd_t (k_10 c), r11_10_2 c, gs_t, gd_t ⟨k_15 c, hin⟩, nI_clamp (by omega)]
    cases e : tx j with
    | none =>
      have := cnt_neg (p := fun t => (tx t).isSome) (n := j) (by simp [e])
      rw [Int32.add_zero] at this
      rw [T.n hj e, mq_nt, this, nI_1]
    | some ws =>
      obtain ⟨a, b, h1, -⟩ := T.s hj e
      rw [h1, mq_st, cnt_pos (p := fun t => (tx t).isSome) (by simp [e]), nI_1]
  · show fX11_texts_c4 10 _ (nI 100) h = _
    unfold fX11_texts_c4
    rw [if_pos (by decide)]
    rfl
/-! the reference's checks: what was thrown is 0 at first -/
theorem fails_t {h : PH} (m : MSh h) (h0 : hI h 12 45 0 = 0) (code : Int32) : fX12_fails 45 1 code h = some (0, h) := by
  unfold fX12_fails fX12_fails_b16 fX12_fails_b28
  rw [if_pos (by decide), gd_t (k_45 m), if_pos h0, gd_t (by decide)]
theorem fails_f {h : PH} (m : MSh h) (h0 : hI h 12 45 0 = 0) {code : Int32} (hc : code ≠ 0) : fX12_fails 45 0 code h = some (1, sI h 12 45 0 code) := by
  unfold fX12_fails fX12_fails_b16 fX12_fails_b28
  have e : hI (sI h 12 45 0 code) 12 45 0 = code := by rw [hI_sI, if_pos ⟨rfl, rfl, rfl⟩]
  rw [if_neg (by decide), gd_t (k_45 m), if_neg (by rw [h0]; decide), lt_t, gd_t (show hK (sI h 12 45 0 code) 45 = 12 from k_45 m), e, if_neg hc, gd_t (by decide)]
theorem fails_b {h : PH} (m : MSh h) (h0 : hI h 12 45 0 = 0) {code : Int32} (hc : code ≠ 0) (b : Bool) : fX12_fails 45 (bI b) code h = some (if b then (0, h) else (1, sI h 12 45 0 code)) := by
  cases b with
  | true => exact fails_t m h0 code
  | false => exact fails_f m h0 hc
theorem noText_eq {h : PH} (m : MSh h) (h0 : hI h 12 45 0 = 0) {tx : TX} (T : MT tx h) (x : Int32) : fX12_noText 45 x h = some (match txI tx x with
    | none => (1, sI h 12 45 0 1)
    | some _ => (0, h)) := by
  unfold fX12_noText fX12_noText_b24 fX12_noText_b25
  have z1 : bd (fX12_fails 45 0 1 h) (fun z5 => gd (z5.1 &&& 1 = z5.1) (some ((z5.1, z5.2)))) = some (1, sI h 12 45 0 1) := by
    rw [fails_f m h0 (by decide), bd_t]
    exact gd_t (show (1 : Int32) &&& 1 = 1 by decide)
  have z2 : bd (fX12_fails 45 1 1 h) (fun z5 => gd (z5.1 &&& 1 = z5.1) (some ((z5.1, z5.2)))) = some (0, h) := by
    rw [fails_t m h0, bd_t]
    exact gd_t (show (0 : Int32) &&& 1 = 0 by decide)
  rw [in_eq, bd_t]
  rcases txI_or (tx := tx) x with ⟨h1, h2⟩ | ⟨t, ht, rfl, e⟩
  · have e : (decide ((0 : Int32) ≤ x) && decide (x ≤ 99)) = false := by
      rcases h1 with h1 | h1
      · rw [decide_eq_false (by simpa using h1), Bool.false_and]
      · have : ¬ x ≤ 99 := fun q => by
          have := Int32.le_trans h1 q
          exact absurd this (by decide)
        rw [decide_eq_false this, Bool.and_false]
    rw [e, if_pos (show bI false = 0 from rfl), gs_t, gd_t (k_45 m), z1, h2]
  · have e9 : (decide ((0 : Int32) ≤ nI t) && decide (nI t ≤ 99)) = true := by
      rw [decide_eq_true (nI_pos' (by omega)), show (99 : Int32) = nI 99 from rfl, decide_eq_true ((nI_leI (by omega) (by decide)).mpr (by omega))]
      rfl
    rw [e9, if_neg (show ¬ bI true = 0 by decide), gd_t (k_45 m), r12_45_4 m, gs_t, gd_t ⟨k_47 m, by rw [n_47 m]; exact inbI ht (by decide)⟩, e]
    cases q : tx t with
    | none => rw [show hI h 21 47 (Int32.toNatClampNeg (nI t)) = 0 by rw [nI_clamp (by omega)]; exact T.n ht q, if_pos rfl, gs_t, gd_t (k_45 m), z1]
    | some ws => rw [show hI h 21 47 (Int32.toNatClampNeg (nI t)) = 1 by rw [nI_clamp (by omega)]; exact (T.s ht q).1, if_neg (by decide), gs_t, gd_t (k_45 m), z2]
