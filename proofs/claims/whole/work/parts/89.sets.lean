/-! THE CLASS'S SETS OF TEXTS -/
theorem bit_has (v k : UInt64) {n : Nat} (hk : k.toNat % 64 = n) : (lg_cmp ((v >>> k).toInt64 &&& (1 : Int64)) (0 : Int64) = 0) ↔ v.toNat.testBit n = false := by
  rw [lg_cmp_eq, show (1 : Int64) = (1 : UInt64).toInt64 from rfl, l_and, Nat.testBit_eq_decide_div_mod_eq, decide_eq_false_iff_not]
  have e : ((v >>> k) &&& (1 : UInt64)).toNat = v.toNat / 2 ^ n % 2 := by
    rw [UInt64.toNat_and, sh_u v k n hk, show (1 : UInt64).toNat = 2 ^ 1 - 1 from rfl, Nat.and_two_pow_sub_one_eq_mod]
  constructor
  · intro q r
    have q1 : ((v >>> k) &&& (1 : UInt64)) = 0 := by
      have := congrArg Int64.toUInt64 q
      rw [l_u] at this
      exact this
    rw [q1] at e
    have e : 0 = v.toNat / 2 ^ n % 2 := e
    omega
  · intro r
    have : ((v >>> k) &&& (1 : UInt64)) = 0 := by
      apply UInt64.toNat_inj.mp
      rw [e]
      show _ = 0
      omega
    rw [this]
    rfl
theorem k64 : ∀ j, j < 64 → ((Int32.toInt64 (nI j)).toUInt64 &&& Int64.toUInt64 63).toNat % 64 = j := by decide +kernel
theorem has_b48 (h : PH) (b : Bool) : fX9_has_b48 (bI b) h = some (bI b) := by
  unfold fX9_has_b48
  rw [gd_t (bI_and b)]
theorem has_b29 (v : Int64) (h : PH) {t : Nat} (ht : t < 2 ^ 31) : fX9_has_b29 (nI t) v h = some (bI (v.toUInt64.toNat.testBit (t % 64))) := by
  unfold fX9_has_b29
  rw [show (64 : Int32) = nI 64 from rfl, pk_rem ht (by decide) (by decide)]
  have e := bit_has v.toUInt64 ((Int32.toInt64 (nI (t % 64))).toUInt64 &&& Int64.toUInt64 63) (k64 (t % 64) (Nat.mod_lt _ (by decide)))
  cases q : v.toUInt64.toNat.testBit (t % 64) with
  | false => rw [if_pos (e.mpr q)]; exact has_b48 h false
  | true => rw [if_neg (fun z => by rw [e.mp z] at q; cases q)]; exact has_b48 h true
theorem X9_has_eq {p : Nat → Bool} {h : PH} {b : Nat} (k : hK h b = 9) (B : BS p h b) {t : Nat} (ht : t < 100) : fX9_has b (nI t) h = some (bI (p t)) := by
  unfold fX9_has
  rw [if_neg (nI_pos (by omega)), if_pos (show nI t < (100 : Int32) from show nI t < nI 100 from nI_lt ht (by decide))]
  by_cases c : t < 64
  · rw [if_neg (show ¬ (64 : Int32) ≤ nI t from show ¬ nI 64 ≤ nI t by rw [nI_leI (by decide) (by omega)]; omega), gd_t k, has_b29 _ h (by omega), Nat.mod_eq_of_lt c, (B t c).1]
  · rw [if_pos (show (64 : Int32) ≤ nI t from show nI 64 ≤ nI t by rw [nI_leI (by decide) (by omega)]; omega), gd_t k, has_b29 _ h (by omega), show t % 64 = t - 64 by omega, (B (t - 64) (by omega)).2, show 64 + (t - 64) = t by omega]
theorem X9_has_out {h : PH} {b : Nat} {x : Int32} (hx : x < 0 ∨ (100 : Int32) ≤ x) : fX9_has b x h = some 0 := by
  unfold fX9_has fX9_has_b10
  by_cases c : x < 0
  · rw [if_pos c]
  · rw [if_neg c, if_neg (Int32.not_lt.mpr (hx.resolve_left c))]
theorem cnt_add (p : Nat → Bool) (a : Nat) : ∀ b, cnt p (a + b) = cnt p a + cnt (fun i => p (a + i)) b
  | 0 => rfl
  | b + 1 => by rw [← Nat.add_assoc, cnt_s, cnt_s, cnt_add p a b, Nat.add_assoc]
theorem cnt_none {p : Nat → Bool} : ∀ n, (∀ i, i < n → p i = false) → cnt p n = 0
  | 0, _ => rfl
  | n + 1, h => by rw [cnt_s, cnt_none n (fun i hi => h i (by omega)), h n (by omega)]; rfl
theorem cnt_128 {p : Nat → Bool} (z : ∀ i, 100 ≤ i → p i = false) : cnt p 64 + cnt (fun i => p (64 + i)) 64 = cnt p 100 := by
  rw [← cnt_add p 64 64, show 64 + 64 = 100 + 28 from rfl, cnt_add p 100 28, cnt_none (p := fun i => p (100 + i)) 28 (fun i _ => z _ (Nat.le_add_right _ _)), Nat.add_zero]
theorem X9_size_eq {p : Nat → Bool} {h : PH} {b : Nat} (k : hK h b = 9) (B : BS p h b) (z : ∀ i, 100 ≤ i → p i = false) : fX9_size b h = some (nI (cnt p 100)) := by
  unfold fX9_size
  rw [gd_t k, bitCount64, bd_t, bitCount64, bd_t, nI_add, ← cnt_128 z]
  unfold pcn
  rw [cnt_cong 64 (fun i hi => (B i hi).1), cnt_cong (p := fun i => (hL h 9 b 1).toUInt64.toNat.testBit i) 64 (fun i hi => (B i hi).2)]
theorem X9_shared_eq {p q : Nat → Bool} {h : PH} {a b : Nat} (ka : hK h a = 9) (A : BS p h a) (kb : hK h b = 9) (B : BS q h b) (z : ∀ i, 100 ≤ i → p i = false) : fX9_shared a (some b) h = some (nI (cnt (fun i => p i && q i) 100)) := by
  unfold fX9_shared
  rw [gd_t ka, gs_t, gd_t kb, bitCount64, bd_t, bitCount64, bd_t, nI_add, ← cnt_128 (p := fun i => p i && q i) (fun i hi => by rw [z i hi, Bool.false_and])]
  unfold pcn
  have e : ∀ x y : Int64, ∀ i, (x &&& y).toUInt64.toNat.testBit i = (x.toUInt64.toNat.testBit i && y.toUInt64.toNat.testBit i) := fun x y i => by
    rw [show (x &&& y).toUInt64 = x.toUInt64 &&& y.toUInt64 from rfl, UInt64.toNat_and, Nat.testBit_and]
  rw [cnt_cong (p := fun i => (hL h 9 a 0 &&& hL h 9 b 0).toUInt64.toNat.testBit i) 64 (fun i hi => by rw [e, (A i hi).1, (B i hi).1]), cnt_cong (p := fun i => (hL h 9 a 1 &&& hL h 9 b 1).toUInt64.toNat.testBit i) 64 (fun i hi => by rw [e, (A i hi).2, (B i hi).2])]
theorem X9_next_eq {p : Nat → Bool} {h : PH} {b : Nat} (k : hK h b = 9) (B : BS p h b) : ∀ f j, j + f = 100 → fX9_next b (nI j) h = some (optI (fst1 p f j)) := by
  unfold fX9_next fX9_next_l2
  refine fst_loop p 100 optI (fun j hj e => ?_) (fun j hj e => ?_) ?_
  · unfold fX9_next_c2
    rw [if_neg (i100 hj), gd_t k, X9_has_eq k B hj, bd_t, e, if_neg (show ¬ bI true = 0 by decide), mr_t]
    rfl
  · unfold fX9_next_c2
    rw [if_neg (i100 hj), gd_t k, X9_has_eq k B hj, bd_t, e, if_pos (show bI false = 0 from rfl), nI_1]
  · unfold fX9_next_c2
    rw [if_pos (by decide)]
    rfl
theorem X9_next_out {h : PH} {b : Nat} {x : Int32} (hx : (100 : Int32) ≤ x) : fX9_next b x h = some (-1) := by
  unfold fX9_next fX9_next_l2
  refine wh_done ?_
  show fX9_next_c2 b x h = _
  unfold fX9_next_c2
  rw [if_pos hx, mr_t]
theorem hasT_100 {tx : TX} (o : okX tx) {t : Nat} (ht : 100 ≤ t) (w : Nat) : hasT tx t w = false := by
  unfold hasT
  cases e : tx t with
  | none => rfl
  | some ws => have := (o t ws e).1; omega
theorem hasT_no {tx : TX} (o : okX tx) {ks : List Nat} (a : allW tx ks) {w : Nat} (hw : ¬ w ∈ ks) (t : Nat) : hasT tx t w = false := by
  cases e : hasT tx t w with
  | false => rfl
  | true =>
    by_cases ht : t < 100
    · exact absurd ((a.2 w).mpr ⟨t, ht, e⟩) hw
    · rw [hasT_100 o (by omega)] at e; cases e
