/-- block q holds the query -/
def BM (h : PH) (q : Nat) (n : Nat) (Q : QT n) : Prop := hI h 20 67 q = nI (sz n Q) ∧ hI h 20 69 q = nI (sz n Q - 1) ∧ sz n Q ≤ 400 ∧ QM h q n Q 0 ∧ wfq n Q
def satT (tx : TX) (n : Nat) (Q : QT n) (t : Nat) : Bool := match tx t with
  | none => false
  | some T => qmet T n Q
theorem satT_n {tx : TX} {t : Nat} (e : tx t = none) (n : Nat) (Q : QT n) : satT tx n Q t = false := by unfold satT; rw [e]
theorem satT_s {tx : TX} {t : Nat} {T : List Nat} (e : tx t = some T) (n : Nat) (Q : QT n) : satT tx n Q t = qmet T n Q := by unfold satT; rw [e]
theorem joined_eq {h : PH} (m : MSh h) {T : List Nat} {q n : Nat} {Q : QT n} (hq : q < 8) (B : BM h q n Q) {g : PH} (og : onlyI isHo h g) (L : LH T g n Q 0) : ∃ g', fX12_joined 45 (nI q) g = some (bI (qmet T n Q), g') ∧ onlyI isHo h g' := by
  obtain ⟨b1, b2, b3, b4, b5⟩ := B
  have sp := sz_pos n Q
  obtain ⟨g', r1, r2, r3, r4⟩ := ph2 m hq b1 b3 n Q 0 g og b4 b5 (by omega) L
  have mg := m.oI r2
  have e67 : hI g' 20 67 q = nI (sz n Q) := (r2.1 20 67 q rfl).trans b1
  have e69 : hI g' 20 69 q = nI (sz n Q - 1) := (r2.1 20 69 q rfl).trans b2
  refine ⟨g', ?_, r2⟩
  unfold fX12_joined fX12_joined_l2
  refine r1 _ (wh_done ?_)
  rw [Nat.zero_add]
  rw [Nat.zero_add] at r3
  show fX12_joined_c2 45 (nI q) (nI (sz n Q)) g' = _
  unfold fX12_joined_c2
  rw [gd_t (k_45 mg), r12_45_32 mg, gs_t, gd_t ⟨k_67 mg, by rw [n_67 mg]; exact inbI hq (by decide)⟩, show hI g' 20 67 (Int32.toNatClampNeg (nI q)) = nI (sz n Q) by rw [nI_clamp (by omega)]; exact e67, if_pos (nI_le (Nat.le_refl _) (by omega)), r12_45_34 mg, gs_t, gd_t ⟨k_69 mg, by rw [n_69 mg]; exact inbI hq (by decide)⟩, show hI g' 20 69 (Int32.toNatClampNeg (nI q)) = nI (sz n Q - 1) by rw [nI_clamp (by omega)]; exact e69, r12_45_46 mg, gs_t, gd_t ⟨k_77 mg, by rw [n_77 mg]; exact inbI (by omega) (by decide)⟩, nI_clamp (by omega), r3, gd_t (bI_and _), mr_t]
theorem satisfies_eq {h : PH} (m : MSh h) {tx : TX} (o : okX tx) (X : MT tx h) {t : Nat} (ht : t < 100) {q n : Nat} {Q : QT n} (hq : q < 8) (B : BM h q n Q) : ∃ g', fX12_satisfies 45 (nI q) (nI t) h = some (bI (satT tx n Q t), g') ∧ onlyI isHo h g' := by
  have sp := sz_pos n Q
  cases e : tx t with
  | none =>
    refine ⟨h, ?_, onlyI.rf _ _⟩
    unfold fX12_satisfies
    rw [gd_t (k_45 m), r12_45_4 m, gs_t, gd_t ⟨k_47 m, by rw [n_47 m]; exact inbI ht (by decide)⟩, show hI h 21 47 (Int32.toNatClampNeg (nI t)) = 0 by rw [nI_clamp (by omega)]; exact X.n ht e, if_neg (fun y => y rfl), satT_n e]
    rfl
  | some T =>
    obtain ⟨b1, b2, b3, b4, b5⟩ := id B
    obtain ⟨g, r1, r2, r3, r4⟩ := ph1 m o X ht e hq b1 b3 n Q 0 h (onlyI.rf _ _) b4 b5 (by omega)
    obtain ⟨g', j1, j2⟩ := joined_eq m hq B r2 r3
    have mg := m.oI r2
    have e67 : hI g 20 67 q = nI (sz n Q) := (r2.1 20 67 q rfl).trans b1
    refine ⟨g', ?_, j2⟩
    unfold fX12_satisfies
    rw [gd_t (k_45 m), r12_45_4 m, gs_t, gd_t ⟨k_47 m, by rw [n_47 m]; exact inbI ht (by decide)⟩, show hI h 21 47 (Int32.toNatClampNeg (nI t)) = 1 by rw [nI_clamp (by omega)]; exact (X.s ht e).1, if_pos (by decide), satT_s e]
    unfold fX12_satisfies_l13
    refine r1 _ (wh_done ?_)
    rw [Nat.zero_add]
    show fX12_satisfies_c13 45 (nI q) (nI t) (nI (sz n Q)) g = _
    unfold fX12_satisfies_c13
    rw [gd_t (k_45 mg), r12_45_32 mg, gs_t, gd_t ⟨k_67 mg, by rw [n_67 mg]; exact inbI hq (by decide)⟩, show hI g 20 67 (Int32.toNatClampNeg (nI q)) = nI (sz n Q) by rw [nI_clamp (by omega)]; exact e67, if_pos (nI_le (Nat.le_refl _) (by omega)), j1, bd_t, gd_t (bI_and _), mr_t]
theorem BM.of {h h' : PH} {q n : Nat} {Q : QT n} (B : BM h q n Q) (s : ∀ a k, 60 ≤ a → a ≤ 69 → hI h' 20 a k = hI h 20 a k) : BM h' q n Q := ⟨(s _ _ (by decide) (by decide)).trans B.1, (s _ _ (by decide) (by decide)).trans B.2.1, B.2.2.1, QM.of (fun a k h1 h2 => s a k h1 (by omega)) n Q 0 B.2.2.2.1, B.2.2.2.2⟩
/-- a query that was kept, asked of a text, in the class -/
theorem isSat_eq {h : PH} (c : CSh h) {tx : TX} (o : okX tx) (X : CT tx h) {t : Nat} (ht : t < 100) {D : Nat → Prop} {n a : Nat} {Q : QT n} (C : QC h D n Q a) (w : wfq n Q) (hn : n ≤ 40) : fX11_isSatisfied 10 (some a) (nI t) h = some (bI (satT tx n Q t)) := by
  have hin : inb (nI t) (hN h 15) := by rw [n_15 c]; exact inbI ht (by decide)
  have b28 : ∀ b, fX11_isSatisfied_b28 (bI b) h = some (bI b) := fun b => by
    unfold fX11_isSatisfied_b28
    exact gd_t (bI_and b)
  unfold fX11_isSatisfied fX11_isSatisfied_b27
  rw [gd_t (k_10 c), r11_10_2 c, gs_t, gd_t ⟨k_15 c, hin⟩]
  cases e : tx t with
  | none =>
    rw [X.nc ht e, mq_nt, satT_n e]
    exact b28 false
  | some T =>
    obtain ⟨ta, tb, h1, h2, h3, h4⟩ := X.sc ht e
    have r : fX4_isMet (some a) (some ta) 0 h = some (bI (qmet T n Q)) := isMet_eq h4 (o t T e).2 n Q a C w 44 0 (by omega) (by omega)
    rw [h1, mq_st, gs_t, gd_t ⟨k_15 c, hin⟩, h1, r, bd_t, satT_s e]
    cases qmet T n Q with
    | false => rw [if_pos (show bI false = 0 from rfl)]; exact b28 false
    | true => rw [if_neg (show ¬ bI true = 0 by decide)]; exact b28 true
/-! THE CLASS'S SETS, changed -/
/-- only the set b changes -/
def onlyL (b : Nat) (h h' : PH) : Prop := (∀ c a k, ¬ (c = 9 ∧ a = b) → hL h' c a k = hL h c a k) ∧ hI h' = hI h ∧ hR h' = hR h ∧ hK h' = hK h ∧ hN h' = hN h ∧ hX h' = hX h ∧ hV h' = hV h
theorem onlyL.rf (b : Nat) (h : PH) : onlyL b h h := ⟨fun _ _ _ _ => rfl, rfl, rfl, rfl, rfl, rfl, rfl⟩
theorem onlyL_sL (h : PH) (b k : Nat) (v : Int64) : onlyL b h (sL h 9 b k v) := by
  refine ⟨fun c a k' e => ?_, rfl, rfl, rfl, rfl, rfl, rfl⟩
  rw [hL_sL, if_neg (fun z => e ⟨z.1, z.2.1⟩)]
theorem shl1 : ∀ j, j < 64 → ((1 : Int64) <<< (Int32.toInt64 (nI j) &&& 63)).toUInt64.toNat = 2 ^ j := by decide +kernel
theorem u_or (x y : Int64) (i : Nat) : (x ||| y).toUInt64.toNat.testBit i = (x.toUInt64.toNat.testBit i || y.toUInt64.toNat.testBit i) := by
  rw [show (x ||| y).toUInt64 = x.toUInt64 ||| y.toUInt64 from rfl, UInt64.toNat_or, Nat.testBit_or]
theorem u_no (x y : Int64) {i : Nat} (hi : i < 64) : (x &&& (y ^^^ (-1 : Int64))).toUInt64.toNat.testBit i = (x.toUInt64.toNat.testBit i && !y.toUInt64.toNat.testBit i) := by
  rw [show (x &&& (y ^^^ (-1 : Int64))).toUInt64 = x.toUInt64 &&& (y.toUInt64 ^^^ (-1 : Int64).toUInt64) from rfl, UInt64.toNat_and, Nat.testBit_and, UInt64.toNat_xor, Nat.testBit_xor, show ((-1 : Int64).toUInt64).toNat = 2 ^ 64 - 1 from rfl, Nat.testBit_two_pow_sub_one, decide_eq_true hi, Bool.xor_true]
theorem X9_put_eq {p : Nat → Bool} {h : PH} {b : Nat} (k : hK h b = 9) (B : BS p h b) {t : Nat} (ht : t < 100) : ∃ h', fX9_put b (nI t) h = some h' ∧ BS (fun i => decide (i = t) || p i) h' b ∧ onlyL b h h' := by
  unfold fX9_put fX9_put_b36
  by_cases c : t < 64
  · rw [if_neg (show ¬ (64 : Int32) ≤ nI t from show ¬ nI 64 ≤ nI t by rw [nI_leI (by decide) (by omega)]; omega), gd_t k, lt_t]
    refine ⟨_, rfl, fun i hi => ⟨?_, ?_⟩, onlyL_sL _ _ _ _⟩
    · rw [hL_sL, if_pos ⟨rfl, rfl, rfl⟩, u_or, shl1 t c, Nat.testBit_two_pow, (B i hi).1, Bool.or_comm]
      congr 1
      exact decide_eq_decide.mpr ⟨fun z => z.symm, fun z => z.symm⟩
    · show _ = (decide (64 + i = t) || p (64 + i))
      rw [hL_sL, if_neg (by simp), (B i hi).2, decide_eq_false (by omega), Bool.false_or]
  · rw [if_pos (show (64 : Int32) ≤ nI t from show nI 64 ≤ nI t from (nI_leI (by decide) (by omega)).mpr (by omega)), gd_t k, lt_t, show (64 : Int32) = nI 64 from rfl, pk_sub (by omega)]
    refine ⟨_, rfl, fun i hi => ⟨?_, ?_⟩, onlyL_sL _ _ _ _⟩
    · show _ = (decide (i = t) || p i)
      rw [hL_sL, if_neg (by simp), (B i hi).1, decide_eq_false (by omega), Bool.false_or]
    · rw [hL_sL, if_pos ⟨rfl, rfl, rfl⟩, u_or, shl1 (t - 64) (by omega), Nat.testBit_two_pow, (B i hi).2, Bool.or_comm]
      congr 1
      exact decide_eq_decide.mpr (by omega)
theorem X9_take_eq {p : Nat → Bool} {h : PH} {b : Nat} (k : hK h b = 9) (B : BS p h b) {t : Nat} (ht : t < 100) : ∃ h', fX9_take b (nI t) h = some h' ∧ BS (fun i => !decide (i = t) && p i) h' b ∧ onlyL b h h' := by
  unfold fX9_take fX9_take_b44
  by_cases c : t < 64
  · rw [if_neg (show ¬ (64 : Int32) ≤ nI t from show ¬ nI 64 ≤ nI t by rw [nI_leI (by decide) (by omega)]; omega), gd_t k, lt_t]
    refine ⟨_, rfl, fun i hi => ⟨?_, ?_⟩, onlyL_sL _ _ _ _⟩
    · rw [hL_sL, if_pos ⟨rfl, rfl, rfl⟩, u_no _ _ hi, shl1 t c, Nat.testBit_two_pow, (B i hi).1, Bool.and_comm]
      congr 2
      exact decide_eq_decide.mpr ⟨fun z => z.symm, fun z => z.symm⟩
    · show _ = (!decide (64 + i = t) && p (64 + i))
      rw [hL_sL, if_neg (by simp), (B i hi).2, decide_eq_false (by omega), Bool.not_false, Bool.true_and]
  · rw [if_pos (show (64 : Int32) ≤ nI t from show nI 64 ≤ nI t from (nI_leI (by decide) (by omega)).mpr (by omega)), gd_t k, lt_t, show (64 : Int32) = nI 64 from rfl, pk_sub (by omega)]
    refine ⟨_, rfl, fun i hi => ⟨?_, ?_⟩, onlyL_sL _ _ _ _⟩
    · show _ = (!decide (i = t) && p i)
      rw [hL_sL, if_neg (by simp), (B i hi).1, decide_eq_false (by omega), Bool.not_false, Bool.true_and]
    · rw [hL_sL, if_pos ⟨rfl, rfl, rfl⟩, u_no _ _ hi, shl1 (t - 64) (by omega), Nat.testBit_two_pow, (B i hi).2, Bool.and_comm]
      congr 2
      exact decide_eq_decide.mpr (by omega)
theorem BS.cong {p p' : Nat → Bool} {h : PH} {b : Nat} (B : BS p h b) (e : ∀ i, p i = p' i) : BS p' h b := fun i hi => ⟨(B i hi).1.trans (e _), (B i hi).2.trans (e _)⟩
theorem X9_turn_eq {p : Nat → Bool} {h : PH} {b : Nat} (k : hK h b = 9) (B : BS p h b) {t : Nat} (ht : t < 100) (y : Bool) : ∃ h', fX9_turn b (nI t) (bI y) h = some (bI (p t != y), h') ∧ BS (fun i => if i = t then y else p i) h' b ∧ onlyL b h h' := by
  unfold fX9_turn fX9_turn_b28
  rw [gd_t k, X9_has_eq k B ht, bd_t]
  by_cases e : p t = y
  · rw [if_neg (fun z => z (by rw [e])), e]
    refine ⟨h, by cases y <;> rfl, B.cong (fun i => ?_), onlyL.rf _ _⟩
    by_cases d : i = t
    · rw [if_pos d, d, e]
    · rw [if_neg d]
  · have hne : ¬ bI (p t) = bI y := fun z => e (by
      revert z
      cases p t <;> cases y <;> decide)
    rw [if_pos hne]
    have hb : (p t != y) = true := by
      revert e
      cases p t <;> cases y <;> decide
    rw [hb]
    cases y with
    | false =>
      obtain ⟨h', h1, h2, h3⟩ := X9_take_eq k B ht
      rw [if_pos (show bI false = 0 from rfl), h1, bd_t]
      refine ⟨h', rfl, h2.cong (fun i => ?_), h3⟩
      by_cases d : i = t
      · rw [if_pos d, decide_eq_true d]; rfl
      · rw [if_neg d, decide_eq_false d]; rfl
    | true =>
      obtain ⟨h', h1, h2, h3⟩ := X9_put_eq k B ht
      rw [if_neg (show ¬ bI true = 0 by decide), h1, bd_t]
      refine ⟨h', rfl, h2.cong (fun i => ?_), h3⟩
      by_cases d : i = t
      · rw [if_pos d, decide_eq_true d]; rfl
      · rw [if_neg d, decide_eq_false d]; rfl
