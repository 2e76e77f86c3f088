/-! CALLS THAT ONLY ASK: a place of a text, wordAt -/
/-- the place of a text that x names -/
def plI (ws : List Nat) (x : Int32) : Option Nat := if x < 0 then none else if x < nI ws.length then some x.toNatClampNeg else none
theorem plI_or {ws : List Nat} (hl : ws.length ≤ 40) (x : Int32) : ((x < 0 ∨ ¬ x < nI ws.length) ∧ plI ws x = none) ∨ ∃ i, i < ws.length ∧ x = nI i ∧ plI ws x = some i := by
  by_cases h1 : x < 0
  · left; exact ⟨Or.inl h1, by unfold plI; rw [if_pos h1]⟩
  · by_cases h2 : x < nI ws.length
    · right
      obtain ⟨i, hi, rfl⟩ := nI_of h1
      refine ⟨i, ?_, rfl, ?_⟩
      · apply Nat.lt_of_not_le
        intro q
        exact absurd h2 (Int32.not_lt.mpr ((nI_leI (by omega) hi).mpr q))
      · unfold plI; rw [if_neg h1, if_pos h2, nI_clamp hi]
    · left; exact ⟨Or.inr h2, by unfold plI; rw [if_neg h1, if_neg h2]⟩
theorem demandPlace_eq {h : PH} {a b : Nat} {ws : List Nat} (T : TextAt h a b ws) (hl : ws.length ≤ 40) (x : Int32) : fX11_demandPlace (some a) x h = some (match plI ws x with
    | none => .inr (2, h)
    | some _ => .inl h) := by
  unfold fX11_demandPlace fX11_demandPlace_b0 fX11_demandPlace_b12
  rcases plI_or hl x with ⟨h1, h2⟩ | ⟨i, hi, rfl, e⟩
  · rw [h2]
    by_cases h0 : x < 0
    · rw [if_pos h0]
    · have h3 : ¬ x < nI ws.length := h1.resolve_left h0
      rw [if_neg h0, gs_t, gd_t T.1, X8_size_eq T, bd_t, if_neg h3]
  · rw [e, if_neg (nI_pos (by omega)), gs_t, gd_t T.1, X8_size_eq T, bd_t, if_pos (nI_lt hi (by omega))]
theorem inPlace_eq {ws : List Nat} (hl : ws.length ≤ 40) (x : Int32) : fX12_in x 0 (nI ws.length - 1) = some (bI (plI ws x).isSome) := by
  rw [in_eq]
  congr 2
  rcases plI_or hl x with ⟨h1, h2⟩ | ⟨i, hi, rfl, e⟩
  · rw [h2]
    show _ = false
    by_cases h0 : x < 0
    · rw [decide_eq_false (Int32.not_le.mpr h0), Bool.false_and]
    · have h3 : ¬ x < nI ws.length := h1.resolve_left h0
      obtain ⟨j, hj, rfl⟩ := nI_of h0
      have h4 : ws.length ≤ j := by
        apply Nat.le_of_not_lt
        intro q
        exact h3 (nI_lt q (by omega))
      have h5 : ¬ nI j ≤ nI ws.length - 1 := by
        by_cases h6 : ws.length = 0
        · rw [h6, show nI 0 - 1 = (-1 : Int32) from rfl]
          intro q
          exact absurd (Int32.lt_of_le_of_lt q (by decide : (-1 : Int32) < 0)) (nI_pos hj)
        · rw [show (1 : Int32) = nI 1 from rfl, pk_sub (by omega), nI_leI hj (by omega)]
          omega
      rw [decide_eq_false h5, Bool.and_false]
  · rw [e]
    show _ = true
    have h5 : nI i ≤ nI ws.length - 1 := by
      rw [show (1 : Int32) = nI 1 from rfl, pk_sub (by omega), nI_leI (by omega) (by omega)]
      omega
    rw [decide_eq_true h5, decide_eq_true (nI_pos' (by omega))]
    rfl
/-- a text and a place of it -/
def plX (tx : TX) (x y : Int32) : Option (Nat × List Nat × Nat) := match txI tx x with
  | none => none
  | some ws => match plI ws y with
    | none => none
    | some i => some (x.toNatClampNeg, ws, i)
theorem plX_n {tx : TX} {x : Int32} (e : txI tx x = none) (y : Int32) : plX tx x y = none := by
  unfold plX
  rw [e]
theorem plX_sn {tx : TX} {x y : Int32} {ws : List Nat} (e : txI tx x = some ws) (e2 : plI ws y = none) : plX tx x y = none := by
  unfold plX
  rw [e]
  show (match plI ws y with | none => none | some i => some (x.toNatClampNeg, ws, i)) = none
  rw [e2]
theorem plX_ss {tx : TX} {x y : Int32} {ws : List Nat} {i : Nat} (e : txI tx x = some ws) (e2 : plI ws y = some i) : plX tx x y = some (x.toNatClampNeg, ws, i) := by
  unfold plX
  rw [e]
  show (match plI ws y with | none => none | some i => some (x.toNatClampNeg, ws, i)) = _
  rw [e2]
theorem noPlace_eq {h : PH} (m : MSh h) (h0 : hI h 12 45 0 = 0) {tx : TX} (o : okX tx) (T : MT tx h) (x y : Int32) : fX12_noPlace 45 x y h = some (match plX tx x y with
    | none => (1, sI h 12 45 0 1)
    | some _ => (0, h)) := by
  unfold fX12_noPlace fX12_noPlace_b29 fX12_noPlace_b34
  rw [gd_t (k_45 m), noText_eq m h0 T, bd_t]
  rcases txI_or (tx := tx) x with ⟨-, h2⟩ | ⟨t, ht, rfl, e⟩
  · rw [plX_n h2, h2]
    show (if ¬ (1 : Int32) = 0 then _ else _) = _
    rw [if_pos (by decide)]
    exact gd_t (show (1 : Int32) &&& 1 = 1 by decide)
  · cases q : tx t with
    | none =>
      rw [plX_n (e.trans q), e, q]
      show (if ¬ (1 : Int32) = 0 then _ else _) = _
      rw [if_pos (by decide)]
      exact gd_t (show (1 : Int32) &&& 1 = 1 by decide)
    | some ws =>
      have hl := (o t ws q).2.1
      rw [e, q]
      show (if ¬ (0 : Int32) = 0 then _ else _) = _
      rw [if_neg (by decide), gd_t (k_45 m), r12_45_6 m, gs_t, gd_t ⟨k_49 m, by rw [n_49 m]; exact inbI ht (by decide)⟩, show hI h 20 49 (Int32.toNatClampNeg (nI t)) = nI ws.length by rw [nI_clamp (by omega)]; exact (T.s ht q).2.1, inPlace_eq hl, bd_t, fails_b m h0 (by decide), bd_t]
      cases e2 : plI ws y with
      | none =>
        rw [plX_sn (e.trans q) e2]
        show (if (1 : Int32) = 0 then _ else _) = _
        rw [if_neg (by decide)]
        exact gd_t (show (1 : Int32) &&& 1 = 1 by decide)
      | some i =>
        rw [plX_ss (e.trans q) e2]
        show (if (0 : Int32) = 0 then _ else _) = _
        rw [if_pos rfl]
        exact gd_t (show (0 : Int32) &&& 1 = 0 by decide)
