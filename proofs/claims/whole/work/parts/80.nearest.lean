/-! nearest -/
theorem ifp {α : Type} {p q : Prop} [Decidable p] [Decidable q] (e : p = q) {x y : α} : (if p then x else y) = (if q then x else y) := by
  subst e
  congr
theorem ifn {α : Type} {p q : Prop} [Decidable p] [Decidable q] (e : p = q) {x y : α} : (if ¬ p then x else y) = (if ¬ q then x else y) := ifp (congrArg Not e)
theorem cnt_mono {p q : Nat → Bool} (h : ∀ i, p i = true → q i = true) : ∀ n, cnt p n ≤ cnt q n
  | 0 => Nat.le_refl _
  | n + 1 => by
    have := cnt_mono h n
    rw [cnt_s, cnt_s]
    cases e : p n with
    | false => rw [if_neg (by decide)]; split <;> omega
    | true => rw [h n e]; omega
theorem cm_mono (ws : List Nat) (p : Nat → Bool) : cm ws p ≤ cm ws (fun _ => true) := by
  unfold cm
  refine cnt_mono (fun i e => ?_) _
  rw [Bool.and_eq_true] at e
  rw [e.1]
  rfl
theorem cnt_first {p : Nat → Bool} (h : p 0 = true) : ∀ n, 0 < n → 0 < cnt p n
  | 0, q => absurd q (Nat.lt_irrefl 0)
  | n + 1, _ => by
    rw [cnt_s]
    by_cases e : n = 0
    · subst e; rw [h]; exact Nat.succ_pos _
    · have := cnt_first h n (by omega); omega
def nU (ws vs : List Nat) : Nat := cm ws (fun _ => true) + cm vs (fun _ => true) - cm ws (fun w => decide (w ∈ vs))
def nA (ws vs : List Nat) : Nat := if nU ws vs = 0 then 1 else nU ws vs
theorem nU_0 {ws vs : List Nat} (h : nU ws vs = 0) : cm ws (fun w => decide (w ∈ vs)) = 0 := by
  have h1 := cm_mono ws (fun w => decide (w ∈ vs))
  unfold nU at h
  have h2 : vs.length = 0 := by
    apply Nat.eq_zero_of_not_pos
    intro q
    have : 0 < cm vs (fun _ => true) := cnt_first (p := fun i => decide (¬ vs.getD i 0 ∈ vs.take i) && true) (by simp) _ q
    omega
  have h3 : vs = [] := List.length_eq_zero_iff.mp h2
  subst h3
  unfold cm
  have : ∀ n, cnt (fun i => decide (¬ ws.getD i 0 ∈ ws.take i) && decide (ws.getD i 0 ∈ ([] : List Nat))) n = 0 := fun n => by
    induction n with
    | zero => rfl
    | succ n ih => rw [cnt_s, ih]; simp
  exact this _
/-- the nearest of the first j texts: its number, the words in common, the words of both -/
def nst (tx : TX) (t : Nat) (ws : List Nat) : Nat → Option Nat × Nat × Nat
  | 0 => (none, 0, 1)
  | j + 1 => match tx j with
    | none => nst tx t ws j
    | some vs => if j = t then nst tx t ws j else if (nst tx t ws j).1 = none ∨ (nst tx t ws j).2.1 * nA ws vs < cm ws (fun w => decide (w ∈ vs)) * (nst tx t ws j).2.2 then (some j, cm ws (fun w => decide (w ∈ vs)), nA ws vs) else nst tx t ws j
theorem nst_n {tx : TX} {t : Nat} {ws : List Nat} {j : Nat} (e : tx j = none) : nst tx t ws (j + 1) = nst tx t ws j := by rw [nst, e]
theorem nst_t {tx : TX} {t : Nat} {ws : List Nat} {j : Nat} (e : j = t) : nst tx t ws (j + 1) = nst tx t ws j := by
  rw [nst]
  cases tx j with
  | none => rfl
  | some vs => exact if_pos e
theorem nst_y {tx : TX} {t : Nat} {ws vs : List Nat} {j : Nat} (e : tx j = some vs) (d : ¬ j = t) (c : (nst tx t ws j).1 = none ∨ (nst tx t ws j).2.1 * nA ws vs < cm ws (fun w => decide (w ∈ vs)) * (nst tx t ws j).2.2) : nst tx t ws (j + 1) = (some j, cm ws (fun w => decide (w ∈ vs)), nA ws vs) := by
  rw [nst, e]
  show (if j = t then _ else if _ then _ else _) = _
  rw [if_neg d, if_pos c]
theorem nst_k {tx : TX} {t : Nat} {ws vs : List Nat} {j : Nat} (e : tx j = some vs) (d : ¬ j = t) (c : ¬ ((nst tx t ws j).1 = none ∨ (nst tx t ws j).2.1 * nA ws vs < cm ws (fun w => decide (w ∈ vs)) * (nst tx t ws j).2.2)) : nst tx t ws (j + 1) = nst tx t ws j := by
  rw [nst, e]
  show (if j = t then _ else if _ then _ else _) = _
  rw [if_neg d, if_neg c]
theorem nA_le {ws vs : List Nat} (h1 : ws.length ≤ 40) (h2 : vs.length ≤ 40) : nA ws vs ≤ 80 := by
  have := cm_le ws (fun _ => true)
  have := cm_le vs (fun _ => true)
  unfold nA nU
  split <;> omega
theorem nst_bd {tx : TX} (o : okX tx) (t : Nat) {ws : List Nat} (h1 : ws.length ≤ 40) : ∀ j, (∀ i, (nst tx t ws j).1 = some i → i < j) ∧ (nst tx t ws j).2.1 ≤ 40 ∧ (nst tx t ws j).2.2 ≤ 80
  | 0 => ⟨fun i h => (by cases h), Nat.zero_le _, (by show 1 ≤ 80; decide)⟩
  | j + 1 => by
    have ih := nst_bd o t h1 j
    have ih' : (∀ i, (nst tx t ws j).1 = some i → i < j + 1) ∧ (nst tx t ws j).2.1 ≤ 40 ∧ (nst tx t ws j).2.2 ≤ 80 := ⟨fun i q => Nat.lt_succ_of_lt (ih.1 i q), ih.2⟩
    cases e : tx j with
    | none => rw [nst_n e]; exact ih'
    | some vs =>
      by_cases d : j = t
      · rw [nst_t d]; exact ih'
      · by_cases c : ((nst tx t ws j).1 = none ∨ (nst tx t ws j).2.1 * nA ws vs < cm ws (fun w => decide (w ∈ vs)) * (nst tx t ws j).2.2)
        · rw [nst_y e d c]
          refine ⟨fun i q => ?_, Nat.le_trans (cm_le ws (fun w => decide (w ∈ vs))) h1, nA_le h1 (o j vs e).2.1⟩
          cases q
          exact Nat.lt_succ_self _
        · rw [nst_k e d c]; exact ih'
theorem optI_none {r : Option Nat} (h : ∀ i, r = some i → i < 2 ^ 31) : (optI r = -1) = (r = none) := propext (optI_m1 h)
theorem X11_nearest_eq {h : PH} (c : CSh h) {tx : TX} (o : okX tx) (T : CT tx h) {t a b : Nat} (ht : t < 100) {ws : List Nat} (q : tx t = some ws) (h4 : TextAt h a b ws) : fX11_nearest_l23 10 (nI t) (some a) (nI (cm ws (fun _ => true))) (-1) 0 1 0 h = some (.inl (optI (nst tx t ws 100).1, h)) := by
  have ot := (o t ws q).2
  unfold fX11_nearest_l23
  refine wh_out (fun j => (optI (nst tx t ws j).1, nI (nst tx t ws j).2.1, nI (nst tx t ws j).2.2, nI j)) 100 rfl (fun j hj => ?_) ?_
  · obtain ⟨b1, b2, b3⟩ := nst_bd o t ot.1 j
    show fX11_nearest_c23 10 (nI t) (some a) (nI (cm ws (fun _ => true))) (optI (nst tx t ws j).1) (nI (nst tx t ws j).2.1) (nI (nst tx t ws j).2.2) (nI j) h = some (.inl (optI (nst tx t ws (j + 1)).1, nI (nst tx t ws (j + 1)).2.1, nI (nst tx t ws (j + 1)).2.2, nI (j + 1)))
    have hin : inb (nI j) (hN h 15) := by rw [n_15 c]; exact inbI hj (by decide)
    have hs : fX11_nearest_b108 10 (nI t) (some a) (nI (cm ws (fun _ => true))) (optI (nst tx t ws j).1) (nI (nst tx t ws j).2.1) (nI (nst tx t ws j).2.2) (nI j) h = some (.inl (optI (nst tx t ws j).1, nI (nst tx t ws j).2.1, nI (nst tx t ws j).2.2, nI (j + 1))) := by
      unfold fX11_nearest_b108
      rw [nI_1]
    unfold fX11_nearest_c23
    rw [if_neg (i100 hj), gd_t (k_10 c), r11_10_2 c, gs_t, gd_t ⟨k_15 c, hin⟩]
    by_cases d : j = t
    · rw [if_pos (by rw [d]), hs, nst_t d]
    · rw [if_neg (by rw [nI_eq (by omega) (by omega)]; exact d)]
      cases e : tx j with
      | none => rw [T.nc hj e, mq_nt, hs, nst_n e]
      | some vs =>
        obtain ⟨a', b', h1', -, -, h4'⟩ := T.sc hj e
        have ov := (o j vs e).2
        have m1 := cm_mono ws (fun w => decide (w ∈ vs))
        have l1 := cm_le ws (fun _ => true)
        have l2 := cm_le vs (fun _ => true)
        have l3 := ot.1
        have l4 := ov.1
        have u1 : nI (cm ws (fun _ => true)) + nI (cm vs (fun _ => true)) - nI (cm ws (fun w => decide (w ∈ vs))) = nI (nU ws vs) := by
          rw [nI_add, pk_sub (by omega)]
          rfl
        have u2 : (if nI (nU ws vs) < (1 : Int32) then (1 : Int32) else nI (nU ws vs)) = nI (nA ws vs) := by
          have hu : nU ws vs ≤ 80 := by unfold nU; omega
          unfold nA
          rw [show (1 : Int32) = nI 1 from rfl, ifp (propext (nI_ltI (by omega) (by decide)))]
          by_cases z : nU ws vs = 0
          · rw [if_pos (by omega), if_pos z]
          · rw [if_neg (by omega), if_neg z]
        have hy : fX11_nearest_b92 10 (nI t) (some a) (nI (cm ws (fun _ => true))) (nI j) (nI (cm ws (fun w => decide (w ∈ vs)))) (nI (nU ws vs)) h = some (.inl (nI j, nI (cm ws (fun w => decide (w ∈ vs))), nI (nA ws vs), nI (j + 1))) := by
          unfold fX11_nearest_b92 fX11_nearest_b108
          rw [u2, nI_1]
        rw [h1', mq_st, gs_t, gd_t h4.1, X8_countCommon_eq h4 ot h4' ov, bd_t, gd_t h4'.1, X8_countUnlike_eq h4' ov, bd_t, u1, hy, hs]
        by_cases z1 : (nst tx t ws j).1 = none
        · rw [if_pos (by rw [z1]; rfl), nst_y e d (Or.inl z1)]
          rfl
        · rw [if_neg (fun w => z1 ((optI_m1 (fun i hi => by have := b1 i hi; omega)).mp w)), pk_mul, pk_mul]
          generalize hM : cm ws (fun w => decide (w ∈ vs)) = M at *
          have k1 : M * (nst tx t ws j).2.2 ≤ 40 * 80 := Nat.mul_le_mul (by omega) b3
          have k2 : (nst tx t ws j).2.1 * nU ws vs ≤ 40 * 80 := Nat.mul_le_mul b2 (by unfold nU; omega)
          have ke : ((nst tx t ws j).2.1 * nU ws vs < M * (nst tx t ws j).2.2) = ((nst tx t ws j).2.1 * nA ws vs < M * (nst tx t ws j).2.2) := by
            unfold nA
            by_cases z : nU ws vs = 0
            · have := nU_0 z
              rw [hM] at this
              rw [if_pos z, z, this]
              simp
            · rw [if_neg z]
          by_cases z2 : (nst tx t ws j).2.1 * nA ws vs < M * (nst tx t ws j).2.2
          · rw [if_neg (by rw [nI_leI (by omega) (by omega)]; have := ke.mpr z2; omega), nst_y e d (Or.inr (by rw [hM]; exact z2)), hM]
            rfl
          · rw [if_pos (by rw [nI_leI (by omega) (by omega)]; have : ¬ _ := fun w => z2 (ke.mp w); omega), nst_k e d (by rw [hM]; exact fun w => w.elim z1 z2)]
  · show fX11_nearest_c23 10 (nI t) _ _ _ _ _ (nI 100) h = _
    unfold fX11_nearest_c23
    rw [if_pos (by decide)]
    rfl
