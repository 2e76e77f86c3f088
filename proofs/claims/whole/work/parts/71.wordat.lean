/-! CALLS THAT ONLY ASK: a place of a text, wordAt -/
/-- the place of a text that x names -/
def plI (ws : List Nat) (x : Int32) : Option Nat := if x < 0 then none else if x < nI ws.length then some x.toNatClampNeg else none
theorem plI_or {ws : List Nat} (hl : ws.length ≤ 40) (x : Int32) : ((x < 0 ∨ ¬ x < nI ws.length) ∧ plI ws x = none) ∨ ∃ i, i < ws.length ∧ x = nI i ∧ plI ws x = some i := by
  by_cases h1 : x < 0
  · left; exact ⟨Or.inl h1, by unfold plI; rw [if_pos h1]⟩
  · by_cases h2 : x < nI ws.length
    · right
      obtain ⟨i, hi, rfl⟩ := nI_of h1
      refine ⟨i, ?_, rfl, ?_⟩
      · apply Nat.lt_of_not_le
        intro q
        exact absurd h2 (Int32.not_lt.mpr ((nI_leI (by omega) hi).mpr q))
      · unfold plI; rw [if_neg h1, if_pos h2, nI_clamp hi]
    · left; exact ⟨Or.inr h2, by unfold plI; rw [if_neg h1, if_neg h2]⟩
theorem demandPlace_eq {h : PH} {a b : Nat} {ws : List Nat} (T : TextAt h a b ws) (hl : ws.length ≤ 40) (x : Int32) : fX11_demandPlace (some a) x h = some (match plI ws x with
    | none => .inr (2, h)
    | some _ => .inl h) := by
  unfold fX11_demandPlace fX11_demandPlace_b0 fX11_demandPlace_b12
  rcases plI_or hl x with ⟨h1, h2⟩ | ⟨i, hi, rfl, e⟩
  · rw [h2]
    by_cases h0 : x < 0
    · rw [if_pos h0]
    · have h3 : ¬ x < nI ws.length := h1.resolve_left h0
      rw [if_neg h0, gs_t, gd_t T.1, X8_size_eq T, bd_t, if_neg h3]
  · rw [e, if_neg (nI_pos (by omega)), gs_t, gd_t T.1, X8_size_eq T, bd_t, if_pos (nI_lt hi (by omega))]
theorem inPlace_eq {ws : List Nat} (hl : ws.length ≤ 40) (x : Int32) : fX12_in x 0 (nI ws.length - 1) = some (bI (plI ws x).isSome) := by
  rw [in_eq]
  congr 2
  rcases plI_or hl x with ⟨h1, h2⟩ | ⟨i, hi, rfl, e⟩
  · rw [h2]
    show _ = false
    by_cases h0 : x < 0
    · rw [decide_eq_false (Int32.not_le.mpr h0), Bool.false_and]
    · have h3 : ¬ x < nI ws.length := h1.resolve_left h0
      obtain ⟨j, hj, rfl⟩ := nI_of h0
      have h4 : ws.length ≤ j := by
        apply Nat.le_of_not_lt
        intro q
        exact h3 (nI_lt q (by omega))
      have h5 : ¬ nI j ≤ nI ws.length - 1 := by
        by_cases h6 : ws.length = 0
        · rw [h6, show nI 0 - 1 = (-1 : Int32) from rfl]
          intro q
          exact absurd (Int32.lt_of_le_of_lt q (by decide : (-1 : Int32) < 0)) (nI_pos hj)
        · rw [show (1 : Int32) = nI 1 from rfl, pk_sub (by omega), nI_leI hj (by omega)]
          omega
      rw [decide_eq_false h5, Bool.and_false]
  · rw [e]
    show _ = true
    have h5 : nI i ≤ nI ws.length - 1 := by
      rw [show (1 : Int32) = nI 1 from rfl, pk_sub (by omega), nI_leI (by omega) (by omega)]
      omega
    rw [decide_eq_true h5, decide_eq_true (nI_pos' (by omega))]
    rfl
/-- a text and a place of it -/
def plX (tx : TX) (x y : Int32) : Option (Nat × List Nat × Nat) := match txI tx x with
  | none => none
  | some ws => match plI ws y with
    | none => none
    | some i => some (x.toNatClampNeg, ws, i)
theorem plX_n {tx : TX} {x : Int32} (e : txI tx x = none) (y : Int32) : plX tx x y = none := by
  unfold plX
  rw [e]
theorem plX_sn {tx : TX} {x y : Int32} {ws : List Nat} (e : txI tx x = some ws) (e2 : plI ws y = none) : plX tx x y = none := by
  unfold plX
  rw [e]
  show (match plI ws y with | none => none | some i => some (x.toNatClampNeg, ws, i)) = none
  rw [e2]
theorem plX_ss {tx : TX} {x y : Int32} {ws : List Nat} {i : Nat} (e : txI tx x = some ws) (e2 : plI ws y = some i) : plX tx x y = some (x.toNatClampNeg, ws, i) := by
  unfold plX
  rw [e]
  show (match plI ws y with | none => none | some i => some (x.toNatClampNeg, ws, i)) = _
  rw [e2]
theorem noPlace_eq {h : PH} (m : MSh h) (h0 : hI h 12 45 0 = 0) {tx : TX} (o : okX tx) (T : MT tx h) (x y : Int32) : fX12_noPlace 45 x y h = some (match plX tx x y with
    | none => (1, sI h 12 45 0 1)
    | some _ => (0, h)) := by
  unfold fX12_noPlace fX12_noPlace_b29 fX12_noPlace_b34
  rw [gd_t (k_45 m), noText_eq m h0 T, bd_t]
  rcases txI_or (tx := tx) x with ⟨-, h2⟩ | ⟨t, ht, rfl, e⟩
  · rw [plX_n h2, h2]
    show (if ¬ (1 : Int32) = 0 then _ else _) = _
    rw [if_pos (by decide)]
    exact gd_t (show (1 : Int32) &&& 1 = 1 by decide)
  · cases q : tx t with
    | none =>
      rw [plX_n (e.trans q), e, q]
      show (if ¬ (1 : Int32) = 0 then _ else _) = _
      rw [if_pos (by decide)]
      exact gd_t (show (1 : Int32) &&& 1 = 1 by decide)
    | some ws =>
      have hl := (o t ws q).2.1
      rw [e, q]
      show (if ¬ (0 : Int32) = 0 then _ else _) = _
      rw [if_neg (by decide), gd_t (k_45 m), r12_45_6 m, gs_t, gd_t ⟨k_49 m, by rw [n_49 m]; exact inbI ht (by decide)⟩, show hI h 20 49 (Int32.toNatClampNeg (nI t)) = nI ws.length by rw [nI_clamp (by omega)]; exact (T.s ht q).2.1, inPlace_eq hl, bd_t, fails_b m h0 (by decide), bd_t]
      cases e2 : plI ws y with
      | none =>
        rw [plX_sn (e.trans q) e2]
        show (if (1 : Int32) = 0 then _ else _) = _
        rw [if_neg (by decide)]
        exact gd_t (show (1 : Int32) &&& 1 = 1 by decide)
      | some i =>
        rw [plX_ss (e.trans q) e2]
        show (if (0 : Int32) = 0 then _ else _) = _
        rw [if_pos rfl]
        exact gd_t (show (0 : Int32) &&& 1 = 0 by decide)
theorem X12_wordAt_eq {u : PH} (m : MSh u) {tx : TX} (o : okX tx) (T : MT tx u) (x y : Int32) : fX12_wordAt 45 x y u = some (match plX tx x y with
      | none => (0, sI (sI u 12 45 0 0) 12 45 0 1)
      | some p => (nI (p.2.1.getD p.2.2 0), sI u 12 45 0 0)) := by
  have s1 := scr_thr u 0
  have m1 := m.scr s1
  have t1 := T.scr s1
  unfold fX12_wordAt fX12_wordAt_b24
  rw [gd_t (k_45 m), lt_t, noPlace_eq m1 (thr0 u) o t1, bd_t]
  have no : plX tx x y = none → (if (match plX tx x y with
      | none => ((1 : Int32), sI (sI u 12 45 0 0) 12 45 0 1)
      | some _ => (0, sI u 12 45 0 0)).1 = 0 then (gd (hK (match plX tx x y with
      | none => ((1 : Int32), sI (sI u 12 45 0 0) 12 45 0 1)
      | some _ => (0, sI u 12 45 0 0)).2 45 = 12) (bd (fX12_wordIn 45 x y (match plX tx x y with
      | none => ((1 : Int32), sI (sI u 12 45 0 0) 12 45 0 1)
      | some _ => (0, sI u 12 45 0 0)).2) (fun z5 => some ((z5, (match plX tx x y with
      | none => ((1 : Int32), sI (sI u 12 45 0 0) 12 45 0 1)
      | some _ => (0, sI u 12 45 0 0)).2))))) else some (((0 : Int32), (match plX tx x y with
      | none => ((1 : Int32), sI (sI u 12 45 0 0) 12 45 0 1)
      | some _ => (0, sI u 12 45 0 0)).2))) = some (match plX tx x y with
      | none => (0, sI (sI u 12 45 0 0) 12 45 0 1)
      | some p => (nI (p.2.1.getD p.2.2 0), sI u 12 45 0 0)) := fun e => by
    rw [e]
    exact if_neg (show ¬ (1 : Int32) = 0 by decide)
  rcases txI_or (tx := tx) x with ⟨-, h2⟩ | ⟨t, ht, rfl, e⟩
  · exact no (plX_n h2 y)
  · cases q : tx t with
    | none => exact no (plX_n (e.trans q) y)
    | some ws =>
      have hl := (o t ws q).2.1
      rcases plI_or hl y with ⟨-, h2⟩ | ⟨i, hi, rfl, e2⟩
      · exact no (plX_sn (e.trans q) h2)
      · rw [plX_ss (e.trans q) e2]
        show (if (0 : Int32) = 0 then _ else _) = _
        rw [if_pos rfl]
        show gd (hK (sI u 12 45 0 0) 45 = 12) (bd (fX12_wordIn 45 (nI t) (nI i) (sI u 12 45 0 0)) (fun z5 => some ((z5, sI u 12 45 0 0)))) = _
        rw [gd_t (k_45 m1), wordIn_eq m1 ht (by omega), bd_t, (t1.s ht q).2.2 i hi]
theorem ls_wordAt {h : PH} {P : PH → Prop} {tx : TX} (c : CSh h) (m : MSh h) (o : okX tx) (T1 : CT tx h) (T2 : MT tx h) (a1 a2 a3 a4 a5 : Int32) (hP : ∀ h', scr h h' → P h') : LS_14 10 45 87 88 a1 a2 a3 a4 a5 h P := by
  show LBody (fX11_wordAt 10 a1 a2 h) (fX12_wordAt 45 a1 a2) (fun c => c = 2) (fun c v => c = 2 ∧ v = some (.int 1)) h P
  have bad : fX11_wordAt 10 a1 a2 h = some (.inr (2, h)) → plX tx a1 a2 = none → LBody (fX11_wordAt 10 a1 a2 h) (fX12_wordAt 45 a1 a2) (fun c => c = 2) (fun c v => c = 2 ∧ v = some (.int 1)) h P := fun f e => by
    refine lb_exc c m (e := 2) (code := 1) f rfl (fun v hv => hv.2) (by decide) (fun u su => ⟨_, X12_wordAt_eq (m.scr su) o (T2.scr su) a1 a2, ?_, ?_⟩) hP
    · rw [e]; exact (scr_thr _ 0).tr (scr_thr _ 1)
    · rw [e]; exact (hI_sI _ _ _ _ _ _ _ _).trans (if_pos ⟨rfl, rfl, rfl⟩)
  rcases demandText_eq c T1 a1 with ⟨e, f⟩ | ⟨t, ws, a, b, ht, rfl, q, e, h1, h2, h3, h4, f⟩
  · refine bad ?_ (plX_n e a2)
    unfold fX11_wordAt fX11_wordAt_b0
    rw [gd_t (k_10 c), f, bx_r]
  · have ok := (o t ws q).2
    have dp := demandPlace_eq h4 ok.1 a2
    rcases plI_or ok.1 a2 with ⟨-, e2⟩ | ⟨i, hi, rfl, e2⟩
    · refine bad ?_ (plX_sn e e2)
      rw [e2] at dp
      unfold fX11_wordAt fX11_wordAt_b0 fX11_wordAt_b5
      rw [gd_t (k_10 c), f, bx_l]
      show bx (fX11_demandPlace (some a) a2 h) _ = _
      rw [dp, bx_r]
    · rw [e2] at dp
      refine lb_val c m (v0 := nI (ws.getD i 0)) ?_ (fun u su => ⟨_, ?_, scr_thr u 0, thr0 u, rfl⟩) hP
      · unfold fX11_wordAt fX11_wordAt_b0 fX11_wordAt_b5 fX11_wordAt_b11
        rw [gd_t (k_10 c), f, bx_l]
        show bx (fX11_demandPlace (some a) (nI i) h) _ = _
        rw [dp, bx_l, gs_t, gd_t h4.1, X8_at_eq h4 ok hi, bd_t]
      · rw [X12_wordAt_eq (m.scr su) o (T2.scr su), plX_ss e e2]
