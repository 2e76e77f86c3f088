/-! WORDS BESIDE EACH OTHER: both sides -/
def cC (w v i : Nat) : Bool := decide (w / 27 ^ (i + 1) = v / 27 ^ (i + 1)) && decide (w % 27 ^ i = v % 27 ^ i)
theorem pwv_c {j : Nat} (h : j ≤ 6) : pwv (Int32.toNatClampNeg (nI j)) = nI (27 ^ j) := by rw [nI_clamp (by omega), pwv_eq]
theorem pwv_n {j : Nat} (h : j ≤ 6) : ¬ nI (27 ^ j) = 0 := nI_ne0 (Nat.pow_pos (by decide)) (p27 h)
theorem in7 {j : Nat} (h : j ≤ 6) : inb (nI j) 7 := inbI (by omega) (by decide)
theorem b31 {w : Nat} (h : w < 27 ^ 6) : w < 2 ^ 31 := Nat.lt_of_lt_of_le h (by decide)
theorem rem27k {w j : Nat} (hw : w < 2 ^ 31) (h : j ≤ 6) : nI w - nI w / nI (27 ^ j) * nI (27 ^ j) = nI (w % 27 ^ j) := pk_rem hw (Nat.pow_pos (by decide)) (p27 h)
theorem div27k {w j : Nat} (hw : w < 2 ^ 31) (h : j ≤ 6) : nI w / nI (27 ^ j) = nI (w / 27 ^ j) := pk_div hw (Nat.pow_pos (by decide)) (p27 h)
theorem nIe {a b : Nat} (ha : a < 2 ^ 31) (hb : b < 2 ^ 31) : (nI a = nI b) = (a = b) := propext (nI_eq ha hb)
theorem oneChanged_eq {w v n : Nat} (hw : w < 27 ^ 6) (hv : v < 27 ^ 6) (hn : n ≤ 6) : fX10_isOneChanged (nI w) (nI v) (nI n) = some (bI (!decide (w = v) && (fst1 (cC w v) n 0).isSome)) := by
  have w1 := b31 hw
  have v1 := b31 hv
  have D : ∀ x k : Nat, x < 2 ^ 31 → x / k < 2 ^ 31 := fun x k h => Nat.lt_of_le_of_lt (Nat.div_le_self _ _) h
  have M : ∀ x k : Nat, x < 2 ^ 31 → x % k < 2 ^ 31 := fun x k h => Nat.lt_of_le_of_lt (Nat.mod_le _ _) h
  have R : ∀ r : Option Nat, (match r with | none => some (0 : Int32) | some _ => some (bI (!decide (w = v)))) = some (bI (!decide (w = v) && r.isSome)) := fun r => by
    cases r with
    | none => rw [Option.isSome_none, Bool.and_false]; rfl
    | some i => rw [Option.isSome_some, Bool.and_true]
  rw [← R]
  have st : ∀ j, j < n → fX10_isOneChanged_c2 (nI w) (nI v) (nI n) (nI j) = (if cC w v j then some (.inr (bI (!decide (w = v)))) else some (.inl (nI (j + 1)))) := fun j hj => by
    have b85 : (mr (if nI w = nI v then fX10_isOneChanged_b85 0 else fX10_isOneChanged_b85 1) : Option (Int32 ⊕ Int32)) = some (.inr (bI (!decide (w = v)))) := by
      unfold fX10_isOneChanged_b85
      rw [ifp (nIe w1 v1)]
      by_cases e : w = v
      · rw [if_pos e, gd_t (by decide), decide_eq_true e]; rfl
      · rw [if_neg e, gd_t (by decide), decide_eq_false e]; rfl
    unfold fX10_isOneChanged_c2 fX10_isOneChanged_b39 fX10_isOneChanged_b63 fX10_isOneChanged_b86
    have e1 : (nI (w / 27 ^ (j + 1)) = nI (v / 27 ^ (j + 1))) = (w / 27 ^ (j + 1) = v / 27 ^ (j + 1)) := nIe (D _ _ w1) (D _ _ v1)
    have e2 : (nI (w % 27 ^ j) = nI (v % 27 ^ j)) = (w % 27 ^ j = v % 27 ^ j) := nIe (M _ _ w1) (M _ _ v1)
    rw [if_neg (nI_ge hj (by omega)), if_neg (by rw [show (6 : Int32) = nI 6 from rfl, nI_leI (by decide) (by omega)]; omega), nI_1, gd_t (in7 (by omega)), pwv_c (by omega), gd_t (pwv_n (by omega)), gd_t (in7 (by omega)), gd_t (pwv_n (by omega)), div27k w1 (by omega), div27k v1 (by omega), b85]
    unfold cC
    by_cases c1 : w / 27 ^ (j + 1) = v / 27 ^ (j + 1)
    · rw [if_neg (fun q => q (e1.mpr c1)), decide_eq_true c1, Bool.true_and, gd_t (in7 (by omega)), pwv_c (by omega), gd_t (pwv_n (by omega)), gd_t (in7 (by omega)), gd_t (pwv_n (by omega)), rem27k w1 (by omega), rem27k v1 (by omega)]
      by_cases c2 : w % 27 ^ j = v % 27 ^ j
      · rw [if_neg (fun q => q (e2.mpr c2)), if_neg (show ¬ (1 : Int32) = 0 by decide), if_neg (show ¬ (1 : Int32) = 0 by decide), decide_eq_true c2, if_pos rfl]
      · rw [if_pos (fun q => c2 (e2.mp q)), if_neg (show ¬ (1 : Int32) = 0 by decide), if_pos rfl, decide_eq_false c2, if_neg (by decide)]
    · rw [if_pos (fun q => c1 (e1.mp q)), decide_eq_false c1, Bool.false_and, gd_t (in7 (by omega)), pwv_c (by omega), gd_t (pwv_n (by omega)), gd_t (in7 (by omega)), gd_t (pwv_n (by omega)), rem27k w1 (by omega), rem27k v1 (by omega)]
      by_cases c2 : w % 27 ^ j = v % 27 ^ j
      · rw [if_neg (fun q => q (e2.mpr c2)), if_pos rfl, if_neg (by decide)]
      · rw [if_pos (fun q => c2 (e2.mp q)), if_pos rfl, if_neg (by decide)]
  unfold fX10_isOneChanged fX10_isOneChanged_l2
  have := fst_loop (c := fun z => fX10_isOneChanged_c2 (nI w) (nI v) (nI n) z) (cC w v) n (fun r => match r with | none => (0 : Int32) | some _ => bI (!decide (w = v))) (fun j hj e => by
    show fX10_isOneChanged_c2 (nI w) (nI v) (nI n) (nI j) = _
    rw [st j hj, e, if_pos rfl]) (fun j hj e => by
    show fX10_isOneChanged_c2 (nI w) (nI v) (nI n) (nI j) = _
    rw [st j hj, e, if_neg (by decide)]) (by
    show fX10_isOneChanged_c2 (nI w) (nI v) (nI n) (nI n) = _
    unfold fX10_isOneChanged_c2 fX10_isOneChanged_b92
    rw [if_pos (nI_le (Nat.le_refl _) (by omega)), mr_t]) n 0 (by omega)
  refine Eq.trans this ?_
  cases fst1 (cC w v) n 0 <;> rfl
theorem del_b {w i : Nat} (h : w < 27 ^ 6) (hi : i < 6) : w / 27 ^ (i + 1) * 27 ^ i + w % 27 ^ i < 2 ^ 31 := Nat.lt_trans (del_lt (n := 5) h hi) (by decide)
theorem oneLeftOut_eq {w v n : Nat} (hw : w < 27 ^ 6) (hv : v < 27 ^ 6) (hn : n ≤ 6) : fX10_isOneLeftOut (nI w) (nI v) (nI n) = some (bI (fst1 (fun i => decide (del w i = v)) n 0).isSome) := by
  have w1 := b31 hw
  have v1 := b31 hv
  have st : ∀ j, j < n → fX10_isOneLeftOut_c2 (nI w) (nI v) (nI n) (nI j) = (if decide (del w j = v) then some (.inr 1) else some (.inl (nI (j + 1)))) := fun j hj => by
    unfold fX10_isOneLeftOut_c2
    rw [if_neg (nI_ge hj (by omega)), if_neg (by rw [show (6 : Int32) = nI 6 from rfl, nI_leI (by decide) (by omega)]; omega), nI_1, gd_t (in7 (by omega)), pwv_c (by omega), gd_t (pwv_n (by omega)), div27k w1 (by omega), gd_t (in7 (by omega)), pwv_c (by omega), gd_t (in7 (by omega)), gd_t (pwv_n (by omega)), rem27k w1 (by omega), pk_mul, nI_add, ifn (nIe (del_b hw (by omega)) v1)]
    show (if ¬ del w j = v then _ else _) = _
    by_cases c : del w j = v
    · rw [if_neg (fun q => q c), decide_eq_true c, if_pos rfl, mr_t]
    · rw [if_pos c, decide_eq_false c, if_neg (by decide)]
  unfold fX10_isOneLeftOut fX10_isOneLeftOut_l2
  have := fst_loop (c := fun z => fX10_isOneLeftOut_c2 (nI w) (nI v) (nI n) z) (fun i => decide (del w i = v)) n (fun r => bI r.isSome) (fun j hj e => by
    show fX10_isOneLeftOut_c2 (nI w) (nI v) (nI n) (nI j) = _
    rw [st j hj, e, if_pos rfl]
    rfl) (fun j hj e => by
    show fX10_isOneLeftOut_c2 (nI w) (nI v) (nI n) (nI j) = _
    rw [st j hj, e, if_neg (by decide)]) (by
    show fX10_isOneLeftOut_c2 (nI w) (nI v) (nI n) (nI n) = _
    unfold fX10_isOneLeftOut_c2 fX10_isOneLeftOut_b48
    rw [if_pos (nI_le (Nat.le_refl _) (by omega)), mr_t]
    rfl) n 0 (by omega)
  exact this
/-- beside each other -/
def nb (w v : Nat) : Bool := if nl 6 w = nl 6 v then !decide (w = v) && (fst1 (cC w v) (nl 6 w) 0).isSome else if nl 6 w = nl 6 v + 1 then (fst1 (fun i => decide (del w i = v)) (nl 6 w) 0).isSome else if nl 6 v = nl 6 w + 1 then (fst1 (fun i => decide (del v i = w)) (nl 6 v) 0).isSome else false
theorem sub_d : ∀ a, a < 7 → ∀ b, b < 7 → (nI a - nI b = -1 ↔ b = a + 1) ∧ (nI a - nI b = 0 ↔ a = b) ∧ (nI a - nI b = 1 ↔ a = b + 1) := by decide +kernel
theorem isNeighbour_eq {w v : Nat} (hw : w < 27 ^ 6) (hv : v < 27 ^ 6) : fX10_isNeighbour (nI w) (nI v) = some (bI (nb w v)) := by
  have bw := nl_bd 6 w
  have bv := nl_bd 6 v
  unfold fX10_isNeighbour fX10_isNeighbour_b55 fX10_isNeighbour_b56 nb
  rw [lettersOf_eq hw, bd_t, lettersOf_eq hv, bd_t, ifn (propext (sub_d _ (Nat.lt_succ_of_le bw) _ (Nat.lt_succ_of_le bv)).1), ifn (propext (sub_d _ (Nat.lt_succ_of_le bw) _ (Nat.lt_succ_of_le bv)).2.1), ifn (propext (sub_d _ (Nat.lt_succ_of_le bw) _ (Nat.lt_succ_of_le bv)).2.2)]
  by_cases c0 : nl 6 w = nl 6 v
  · rw [if_neg (fun q => q c0), if_pos c0, oneChanged_eq hw hv bw, bd_t]
    exact gd_t (bI_and _)
  · rw [if_pos c0, if_neg c0]
    by_cases c1 : nl 6 w = nl 6 v + 1
    · rw [if_neg (fun q => q c1), if_pos c1, oneLeftOut_eq hw hv bw, bd_t]
      exact gd_t (bI_and _)
    · rw [if_pos c1, if_neg c1]
      by_cases c2 : nl 6 v = nl 6 w + 1
      · rw [if_neg (fun q => q c2), if_pos c2, nI_1, ← c2, oneLeftOut_eq hv hw bv, bd_t]
        cases (fst1 (fun i => decide (del v i = w)) (nl 6 v) 0).isSome with
        | false => rw [if_pos (show bI false = 0 from rfl)]; exact gd_t (show (0 : Int32) &&& 1 = 0 by decide)
        | true => rw [if_neg (show ¬ bI true = 0 by decide)]; exact gd_t (show (1 : Int32) &&& 1 = 1 by decide)
      · rw [if_pos c2, if_neg c2]
        exact gd_t (show (0 : Int32) &&& 1 = 0 by decide)
