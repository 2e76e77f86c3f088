/-! THE LETTERS OF A WORD -/
theorem letterOf_l : ∀ d w i : Nat, w < 2 ^ 31 → i + d < 2 ^ 31 → fX12_letterOf_l9 (nI i) (nI w) (nI (i + d)) = some (nI (w / 27 ^ d % 27)) := by
  intro d
  induction d with
  | zero =>
    intro w i hw hi
    unfold fX12_letterOf_l9
    refine wh_done ?_
    show fX12_letterOf_c9 (nI i) (nI w) (nI (i + 0)) = _
    unfold fX12_letterOf_c9
    rw [if_pos (by rw [nI_leI (by omega) (by omega)]; omega), irem27 hw, Nat.pow_zero, Nat.div_one, mr_t]
  | succ d ih =>
    intro w i hw hi
    unfold fX12_letterOf_l9 at ih ⊢
    refine wh_step (t := (nI (w / 27), nI (i + d))) ?_ ?_
    · show fX12_letterOf_c9 (nI i) (nI w) (nI (i + (d + 1))) = _
      unfold fX12_letterOf_c9
      rw [if_neg (by rw [nI_leI (by omega) (by omega)]; omega), i27, pk_div hw (by decide) (by decide), show i + (d + 1) = i + d + 1 from rfl, pk_m1]
    · have q := ih (w / 27) i (by omega) (by omega)
      rw [Nat.div_div_eq_div_mul, Nat.mul_comm, ← Nat.pow_succ] at q
      exact q
/-- the number of the letter at place i -/
def ltr (w i : Nat) : Nat := w / 27 ^ (nl 6 w - 1 - i) % 27
theorem letterOfM_eq {w i : Nat} (h : w < 27 ^ 6) (hi : i < nl 6 w) : fX12_letterOf (nI w) (nI i) = some (nI (ltr w i)) := by
  have hb := nl_bd 6 w
  have hw : w < 2 ^ 31 := Nat.lt_of_lt_of_le h (by decide)
  unfold fX12_letterOf ltr
  rw [letters6 h, bd_t, show (1 : Int32) = nI 1 from rfl, pk_sub (by omega)]
  have q := letterOf_l (nl 6 w - 1 - i) w i hw (by omega)
  rw [show i + (nl 6 w - 1 - i) = nl 6 w - 1 by omega] at q
  exact q
theorem chr_d : ∀ d, d < 27 → ((Int32.toUInt32 ((96 : Int32) + nI d)) % 65536).toInt32 = nI (96 + d) ∧ (((Int32.toUInt32 (nI (96 + d))).toUInt16).toUInt32).toInt32 = nI (96 + d) := by decide +kernel
theorem letterOfX_eq {w i : Nat} (h : w < 27 ^ 6) (hi : i < nl 6 w) : fX10_letterOf (nI w) (nI i) = some (nI (96 + ltr w i)) := by
  have hb := nl_bd 6 w
  have hw : w < 2 ^ 31 := Nat.lt_of_lt_of_le h (by decide)
  obtain ⟨c1, c2⟩ := chr_d (ltr w i) (Nat.mod_lt _ (by decide))
  have hq : w / 27 ^ (nl 6 w - 1 - i) < 2 ^ 31 := Nat.lt_of_le_of_lt (Nat.div_le_self _ _) hw
  have hp : pwv (Int32.toNatClampNeg (nI (nl 6 w - 1 - i))) = nI (27 ^ (nl 6 w - 1 - i)) := by rw [nI_clamp (by omega), pwv_eq]
  have he : ((Int32.toUInt32 ((96 : Int32) + (nI w / pwv (Int32.toNatClampNeg (nI (nl 6 w - 1 - i))) - nI w / pwv (Int32.toNatClampNeg (nI (nl 6 w - 1 - i))) / (27 : Int32) * (27 : Int32)))) % 65536).toInt32 = nI (96 + ltr w i) := by
    rw [hp, pk_div (d := 27 ^ (nl 6 w - 1 - i)) hw (Nat.pow_pos (by decide)) (p27 (by omega)), irem27 hq]
    exact c1
  have hz : ¬ pwv (Int32.toNatClampNeg (nI (nl 6 w - 1 - i))) = 0 := by
    rw [hp, show (0 : Int32) = nI 0 from rfl, nI_eq (p27 (by omega)) (by decide)]
    exact Nat.ne_of_gt (Nat.pow_pos (by decide))
  unfold fX10_letterOf
  rw [lettersOf_eq h, bd_t, show nI (nl 6 w) - 1 - nI i = nI (nl 6 w - 1 - i) by rw [show (1 : Int32) = nI 1 from rfl, pk_sub (by omega), pk_sub (by omega)], if_neg (nI_pos (by omega)), if_pos (by rw [show (6 : Int32) = nI 6 from rfl]; exact nI_lt (by omega) (by decide)), gd_t (inbI (by omega) (by decide)), gd_t hz, he, gd_t c2]
