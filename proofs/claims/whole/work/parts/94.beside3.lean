theorem letterD {w i n : Nat} (hw : w < 27 ^ 6) (e : nl 6 w = n) (hi : i < n) : fX12_letterOf (nI w) (nI i) = some (nI (dgt w (n - 1 - i))) := by
  subst e
  exact letterOfM_eq hw hi
theorem isLonger_b {n k : Nat} {v : Nat} (hv : v < 27 ^ 6) (e : nl 6 v = n) (hk : k < 2 ^ 31) : fX12_isLonger_b73 (nI v) (nI k) = some (bI (decide (k = n))) := by
  have bn : n ≤ 6 := e ▸ nl_bd 6 v
  unfold fX12_isLonger_b73 fX12_isLonger_b86
  rw [letters6 hv, bd_t, e, ifn (nIe hk (by omega))]
  by_cases c : k = n
  · rw [if_neg (fun q => q c), decide_eq_true c]; exact gd_t (show (1 : Int32) &&& 1 = 1 by decide)
  · rw [if_pos c, decide_eq_false c]; exact gd_t (show (0 : Int32) &&& 1 = 0 by decide)
theorem isLonger_2 {w v n : Nat} (hw : w < 27 ^ 6) (hv : v < 27 ^ 6) (e : nl 6 w = n + 1) (e' : nl 6 v = n) : ∀ f k, k + f = n → fX12_isLonger_l44 (nI w) (nI v) (nI k) = some (bI (allF (fun k => decide (dgt w (n - (k + 1)) = dgt v (n - 1 - k))) f k)) := by
  have bn : n ≤ 6 := e' ▸ nl_bd 6 v
  have D : ∀ x i, dgt x i < 2 ^ 31 := fun x i => Nat.lt_trans (dgt_lt x i) (by decide)
  intro f
  induction f with
  | zero =>
    intro k hk
    unfold fX12_isLonger_l44
    refine wh_done ?_
    show fX12_isLonger_c44 (nI w) (nI v) (nI k) = _
    unfold fX12_isLonger_c44
    rw [letters6 hv, bd_t, e', if_pos (nI_le (by omega) (by omega)), isLonger_b hv e' (by omega), decide_eq_true (by omega), mr_t]
    rfl
  | succ f ih =>
    intro k hk
    have st : fX12_isLonger_c44 (nI w) (nI v) (nI k) = (if ¬ dgt w (n - (k + 1)) = dgt v (n - 1 - k) then mr (some (bI false)) else some (.inl (nI (k + 1)))) := by
      unfold fX12_isLonger_c44
      rw [letters6 hv, bd_t, e', if_neg (nI_ge (by omega) (by omega)), nI_1, letterD hw e (by omega), bd_t, letterD hv e' (by omega), bd_t, ifn (nIe (D _ _) (D _ _)), isLonger_b hv e' (by omega), decide_eq_false (by omega), show n + 1 - 1 - (k + 1) = n - (k + 1) by omega]
    rw [allF]
    unfold fX12_isLonger_l44 at ih ⊢
    by_cases c : dgt w (n - (k + 1)) = dgt v (n - 1 - k)
    · refine wh_step (t := nI (k + 1)) ?_ ?_
      · show fX12_isLonger_c44 (nI w) (nI v) (nI k) = _
        rw [st, if_neg (fun q => q c)]
      · rw [ih (k + 1) (by omega), decide_eq_true c, Bool.true_and]
    · refine wh_done ?_
      show fX12_isLonger_c44 (nI w) (nI v) (nI k) = _
      rw [st, if_pos c, decide_eq_false c, Bool.false_and, mr_t]
theorem isLonger_1 {w v n : Nat} (hw : w < 27 ^ 6) (hv : v < 27 ^ 6) (e : nl 6 w = n + 1) (e' : nl 6 v = n) : ∀ f k, k + f = n → fX12_isLonger_l17 (nI w) (nI v) (nI k) = some (bI (qf (fun k => decide (dgt w (n - (k + 1)) = dgt v (n - 1 - k))) (fun k => decide (dgt w (n - k) = dgt v (n - 1 - k))) f k)) := by
  have bn : n ≤ 6 := e' ▸ nl_bd 6 v
  have D : ∀ x i, dgt x i < 2 ^ 31 := fun x i => Nat.lt_trans (dgt_lt x i) (by decide)
  intro f
  induction f with
  | zero =>
    intro k hk
    unfold fX12_isLonger_l17
    refine wh_done ?_
    show fX12_isLonger_c17 (nI w) (nI v) (nI k) = _
    unfold fX12_isLonger_c17
    rw [letters6 hv, bd_t, e', if_pos (nI_le (by omega) (by omega)), isLonger_2 hw hv e e' 0 k hk, mr_t]
    rfl
  | succ f ih =>
    intro k hk
    have st : fX12_isLonger_c17 (nI w) (nI v) (nI k) = (if ¬ dgt w (n - k) = dgt v (n - 1 - k) then mr (some (bI (allF (fun k => decide (dgt w (n - (k + 1)) = dgt v (n - 1 - k))) (f + 1) k))) else some (.inl (nI (k + 1)))) := by
      unfold fX12_isLonger_c17
      rw [letters6 hv, bd_t, e', if_neg (nI_ge (by omega) (by omega)), letterD hw e (by omega), bd_t, letterD hv e' (by omega), bd_t, ifn (nIe (D _ _) (D _ _)), isLonger_2 hw hv e e' (f + 1) k hk, nI_1, show n + 1 - 1 - k = n - k by omega]
    rw [qf]
    unfold fX12_isLonger_l17 at ih ⊢
    by_cases c : dgt w (n - k) = dgt v (n - 1 - k)
    · refine wh_step (t := nI (k + 1)) ?_ ?_
      · show fX12_isLonger_c17 (nI w) (nI v) (nI k) = _
        rw [st, if_neg (fun q => q c)]
      · rw [ih (k + 1) (by omega), decide_eq_true c, if_pos rfl]
    · refine wh_done ?_
      show fX12_isLonger_c17 (nI w) (nI v) (nI k) = _
      rw [st, if_pos c, decide_eq_false c, if_neg (by decide), mr_t]
theorem isLonger_eq {w v : Nat} (hw : w < 27 ^ 6) (hv : v < 27 ^ 6) : fX12_isLonger (nI w) (nI v) = some (bI (decide (nl 6 w = nl 6 v + 1) && (fst1 (fun i => decide (del w i = v)) (nl 6 w) 0).isSome)) := by
  have bw := nl_bd 6 w
  have bv := nl_bd 6 v
  unfold fX12_isLonger
  rw [letters6 hw, bd_t, letters6 hv, bd_t, nI_1, ifp (nIe (by omega) (by omega))]
  by_cases c : nl 6 w = nl 6 v + 1
  · rw [if_pos c, decide_eq_true c, Bool.true_and]
    have := isLonger_1 hw hv c rfl (nl 6 v) 0 (by omega)
    refine Eq.trans this ?_
    congr 2
    rw [Bool.eq_iff_iff, ← left_iff (c ▸ nl_gt 6 w hw) (nl_gt 6 v hv), fst_iff, c]
    constructor
    · rintro ⟨i, h1, h2⟩; exact ⟨i, Nat.zero_le _, by omega, decide_eq_true h2⟩
    · rintro ⟨i, -, h1, h2⟩; exact ⟨i, by omega, decide_eq_true_eq.mp h2⟩
  · rw [if_neg c, decide_eq_false c, Bool.false_and]
    rfl
theorem differ_eq {w v n : Nat} (hw : w < 27 ^ 6) (hv : v < 27 ^ 6) (e : nl 6 w = n) (e' : nl 6 v = n) : fX12_areBeside_l35 (nI w) (nI v) 0 0 = some (bI (!decide (w = v) && (fst1 (cC w v) n 0).isSome)) := by
  have bn : n ≤ 6 := e' ▸ nl_bd 6 v
  have D : ∀ x i, dgt x i < 2 ^ 31 := fun x i => Nat.lt_trans (dgt_lt x i) (by decide)
  have key : (!decide (w = v) && (fst1 (cC w v) n 0).isSome) = decide (cnt (fun k => !decide (dgt w (n - 1 - k) = dgt v (n - 1 - k))) n = 1) := by
    rw [Bool.eq_iff_iff, decide_eq_true_eq, ← changed_iff (e ▸ nl_gt 6 w hw) (e' ▸ nl_gt 6 v hv), Bool.and_eq_true, Bool.not_eq_true', decide_eq_false_iff_not, fst_iff]
    unfold cC
    constructor
    · rintro ⟨h0, i, -, h1, h2⟩
      rw [Bool.and_eq_true, decide_eq_true_eq, decide_eq_true_eq] at h2
      exact ⟨h0, i, by omega, h2⟩
    · rintro ⟨h0, i, h1, h2⟩
      refine ⟨h0, i, Nat.zero_le _, by omega, ?_⟩
      rw [Bool.and_eq_true, decide_eq_true_eq, decide_eq_true_eq]
      exact h2
  rw [key]
  generalize hq : (fun k => !decide (dgt w (n - 1 - k) = dgt v (n - 1 - k))) = q
  have hq' : ∀ k, q k = !decide (dgt w (n - 1 - k) = dgt v (n - 1 - k)) := fun k => by rw [← hq]
  unfold fX12_areBeside_l35
  refine wh_out (fun j => (nI (cnt q j), nI j)) n rfl (fun j hj => ?_) ?_
  · show fX12_areBeside_c35 (nI w) (nI v) (nI (cnt q j)) (nI j) = _
    unfold fX12_areBeside_c35 fX12_areBeside_b62
    rw [letters6 hw, bd_t, e, if_neg (nI_ge hj (by omega)), letterD hw e hj, bd_t, letterD hv e' hj, bd_t, ifn (nIe (D _ _) (D _ _))]
    by_cases c : dgt w (n - 1 - j) = dgt v (n - 1 - j)
    · rw [if_neg (fun z => z c), cnt_neg (p := q) (by rw [hq', decide_eq_true c]; rfl), nI_1]
    · rw [if_pos c, cnt_pos (p := q) (by rw [hq', decide_eq_false c]; rfl), nI_1]
  · show fX12_areBeside_c35 (nI w) (nI v) (nI (cnt q n)) (nI n) = _
    have := cnt_le q n
    unfold fX12_areBeside_c35 fX12_areBeside_b80
    rw [letters6 hw, bd_t, e, if_pos (nI_le (Nat.le_refl _) (by omega)), show (1 : Int32) = nI 1 from rfl, ifn (nIe (by omega) (by decide))]
    by_cases c : cnt q n = 1
    · rw [if_neg (fun z => z c), decide_eq_true c]; exact congrArg mr (gd_t (show (1 : Int32) &&& 1 = 1 by decide))
    · rw [if_pos c, decide_eq_false c]; exact congrArg mr (gd_t (show (0 : Int32) &&& 1 = 0 by decide))
theorem areBeside_eq {w v : Nat} (hw : w < 27 ^ 6) (hv : v < 27 ^ 6) : fX12_areBeside (nI w) (nI v) = some (bI (nb w v)) := by
  have bw := nl_bd 6 w
  have bv := nl_bd 6 v
  unfold fX12_areBeside fX12_areBeside_b16 nb
  rw [isLonger_eq hw hv, bd_t, isLonger_eq hv hw, bd_t, letters6 hw, bd_t, letters6 hv, bd_t, ifp (nIe (by omega) (by omega))]
  by_cases c0 : nl 6 w = nl 6 v
  · rw [decide_eq_false (show ¬ nl 6 w = nl 6 v + 1 by omega), Bool.false_and, if_neg (fun q => q rfl), decide_eq_false (show ¬ nl 6 v = nl 6 w + 1 by omega), Bool.false_and, if_pos (show bI false = 0 from rfl), if_pos c0, if_pos c0, differ_eq hw hv rfl c0.symm]
  · rw [if_neg c0, if_neg c0]
    by_cases c1 : nl 6 w = nl 6 v + 1
    · rw [if_pos c1, decide_eq_true c1, Bool.true_and, decide_eq_false (show ¬ nl 6 v = nl 6 w + 1 by omega), Bool.false_and, if_pos (show bI false = 0 from rfl)]
      cases (fst1 (fun i => decide (del w i = v)) (nl 6 w) 0).isSome with
      | false => rw [if_neg (fun q => q rfl)]; rfl
      | true => rw [if_pos (show ¬ bI true = 0 by decide)]; rfl
    · rw [if_neg c1, decide_eq_false c1, Bool.false_and, if_neg (fun q => q rfl)]
      by_cases c2 : nl 6 v = nl 6 w + 1
      · rw [if_pos c2, decide_eq_true c2, Bool.true_and]
        cases (fst1 (fun i => decide (del v i = w)) (nl 6 v) 0).isSome with
        | false => rw [if_pos (show bI false = 0 from rfl)]; rfl
        | true => rw [if_neg (show ¬ bI true = 0 by decide)]; rfl
      · rw [if_neg c2, decide_eq_false c2, Bool.false_and, if_pos (show bI false = 0 from rfl)]
        rfl
