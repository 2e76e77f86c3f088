/-! CALLS THAT ONLY ASK: neighbours, neighbourAt -/
theorem nth_loop {ρ : Type} {c : Int32 × Int32 → Option ((Int32 × Int32) ⊕ ρ)} {ks : List Nat} (p : Nat → Bool) (R : Option Nat → ρ)
    (en : ∀ k, k < 2 ^ 31 → c (nI k, nI ks.length) = some (.inr (R none)))
    (hit : ∀ j, j < ks.length → p (ks.getD j 0) = true → c (nI 0, nI j) = some (.inr (R (some j))))
    (nxt : ∀ j k, j < ks.length → p (ks.getD j 0) = true → k + 1 < 2 ^ 31 → c (nI (k + 1), nI j) = some (.inl (nI k, nI (j + 1))))
    (skp : ∀ j k, j < ks.length → p (ks.getD j 0) = false → k < 2 ^ 31 → c (nI k, nI j) = some (.inl (nI k, nI (j + 1)))) : ∀ n j k : Nat, j + n = ks.length → k < 2 ^ 31 → wh c (nI k, nI j) = some (R ((pl p (ks.drop j) k).map (· + j))) := by
  intro n
  induction n with
  | zero =>
    intro j k hj hk
    have : j = ks.length := by omega
    subst this
    rw [List.drop_eq_nil_of_le (Nat.le_refl _)]
    exact wh_done (en k hk)
  | succ n ih =>
    intro j k hj hk
    have hl : j < ks.length := by omega
    rw [dropS hl]
    cases e : p (ks.getD j 0) with
    | true =>
      cases k with
      | zero =>
        refine (wh_done (hit j hl e)).trans ?_
        simp only [pl, e, if_true, Option.map_some, Nat.zero_add]
      | succ k =>
        refine (wh_step (nxt j k hl e hk) (ih (j + 1) k (by omega) (by omega))).trans ?_
        simp only [pl, e, if_true, map_sh]
    | false =>
      refine (wh_step (skp j k hl e hk) (ih (j + 1) k (by omega) hk)).trans ?_
      simp only [pl, e, Bool.false_eq_true, if_false, map_sh]
/-- the word at a place of the row -/
def wdV (ks : List Nat) (r : Option Nat) : Int32 := match r with
  | none => -1
  | some i => nI (ks.getD i 0)
theorem map0 (r : Option Nat) : r.map (· + 0) = r := by cases r <;> rfl
def naV (ks : List Nat) (w : Nat) (x : Int32) : Int32 := if x < 0 then -1 else wdV ks (pl (nb w) ks x.toNatClampNeg)
theorem vks {tx : TX} {ks : List Nat} {e : Nat} {wa wb : Nat → Nat} {h : PH} (X : IX tx ks e wa wb h) {j : Nat} (hj : j < ks.length) : vword (ks.getD j 0) = true := X.1.1.2 _ (mem_getD hj)
theorem cneigh_count {tx : TX} {ks : List Nat} {e : Nat} {wa wb : Nat → Nat} {h : PH} (c : CSh h) (X : IX tx ks e wa wb h) {w : Nat} (hw : vword w = true) : fX3_countNeighbours 16 (nI w) h = some (nI (ks.countP (nb w))) := by
  have hl := X.2.1
  unfold fX3_countNeighbours fX3_countNeighbours_l4
  have st : ∀ j x, j < ks.length → fX3_countNeighbours_c4 16 (nI w) x (nI j) h = (if bI (nb w (ks.getD j 0)) = 0 then some (.inl (x, nI (j + 1))) else some (.inl (x + 1, nI (j + 1)))) := fun j x hj => by
    have W := ix_word X (mem_getD hj)
    unfold fX3_countNeighbours_c4 fX3_countNeighbours_b39
    rw [gd_t (k_16 c), r3_16_0 c, gs_t, gd_t (k_17 c), ix_size c X, bd_t, if_neg (nI_ge hj (by omega)), gs_t, gd_t (k_17 c), ix_get c X hj, bd_t, gs_t, gd_t W.2.2.1, W.2.2.2.1, isNeighbour_eq (vw2 hw) (vw2 (vks X hj)), bd_t, nI_1]
  refine count_loop (ρ := Int32) (ks := ks) (nb w) (fun j x hj q => ?_) (fun j x hj q => ?_) ?_
  · show fX3_countNeighbours_c4 16 (nI w) x (nI j) h = _
    rw [st j x hj, q, if_neg (show ¬ bI true = 0 by decide)]
  · show fX3_countNeighbours_c4 16 (nI w) x (nI j) h = _
    rw [st j x hj, q, if_pos (show bI false = 0 from rfl)]
  · show fX3_countNeighbours_c4 16 (nI w) _ (nI ks.length) h = _
    unfold fX3_countNeighbours_c4
    rw [gd_t (k_16 c), r3_16_0 c, gs_t, gd_t (k_17 c), ix_size c X, bd_t, if_pos (nI_le (Nat.le_refl _) (by omega)), mr_t]
theorem cneigh_at {tx : TX} {ks : List Nat} {e : Nat} {wa wb : Nat → Nat} {h : PH} (c : CSh h) (X : IX tx ks e wa wb h) {w : Nat} (hw : vword w = true) (x : Int32) : fX3_neighbourOf 16 (nI w) x h = some (naV ks w x) := by
  have hl := X.2.1
  unfold fX3_neighbourOf naV
  have en : ∀ y, fX3_neighbourOf_c5 16 (nI w) y (nI ks.length) h = some (.inr (-1)) := fun y => by
    unfold fX3_neighbourOf_c5 fX3_neighbourOf_b72
    rw [gd_t (k_16 c), r3_16_0 c, gs_t, gd_t (k_17 c), ix_size c X, bd_t, if_pos (nI_le (Nat.le_refl _) (by omega)), mr_t]
  have st : ∀ j y, j < ks.length → fX3_neighbourOf_c5 16 (nI w) y (nI j) h = (if y < 0 then some (.inr (-1)) else if bI (nb w (ks.getD j 0)) = 0 then some (.inl (y, nI (j + 1))) else if ¬ y = 0 then some (.inl (y + (-1), nI (j + 1))) else some (.inr (nI (ks.getD j 0)))) := fun j y hj => by
    have W := ix_word X (mem_getD hj)
    unfold fX3_neighbourOf_c5 fX3_neighbourOf_b66 fX3_neighbourOf_b72
    rw [gd_t (k_16 c), r3_16_0 c, gs_t, gd_t (k_17 c), ix_size c X, bd_t, if_neg (nI_ge hj (by omega)), gs_t, gd_t (k_17 c), ix_get c X hj, bd_t, gs_t, gd_t W.2.2.1, W.2.2.2.1, isNeighbour_eq (vw2 hw) (vw2 (vks X hj)), bd_t, gs_t, gd_t (k_17 c), ix_get c X hj, bd_t, gs_t, gd_t W.2.2.1, W.2.2.2.1, mr_t, mr_t, nI_1]
  by_cases h0 : x < 0
  · rw [if_pos h0]
    unfold fX3_neighbourOf_l5
    refine wh_done ?_
    show fX3_neighbourOf_c5 16 (nI w) x (nI 0) h = _
    by_cases z : 0 < ks.length
    · rw [st 0 x z, if_pos h0]
    · have : ks.length = 0 := by omega
      have e2 := en x
      rw [this] at e2
      exact e2
  · obtain ⟨k, hk, rfl⟩ := nI_of h0
    rw [if_neg h0, nI_clamp hk]
    unfold fX3_neighbourOf_l5
    have := nth_loop (c := fun z : Int32 × Int32 => fX3_neighbourOf_c5 16 (nI w) z.1 z.2 h) (ks := ks) (nb w) (wdV ks) (fun k _ => en _) (fun j hj q => by
      show fX3_neighbourOf_c5 16 (nI w) (nI 0) (nI j) h = _
      rw [st j _ hj, if_neg (by decide), q, if_neg (show ¬ bI true = 0 by decide), if_neg (by decide)]
      rfl) (fun j k hj q hk => by
      show fX3_neighbourOf_c5 16 (nI w) (nI (k + 1)) (nI j) h = _
      rw [st j _ hj, if_neg (nI_pos hk), q, if_neg (show ¬ bI true = 0 by decide), if_pos (nI_ne0 (by omega) hk), pk_m1]) (fun j k hj q hk => by
      show fX3_neighbourOf_c5 16 (nI w) (nI k) (nI j) h = _
      rw [st j _ hj, if_neg (nI_pos hk), q, if_pos (show bI false = 0 from rfl)]) ks.length 0 k (by omega) hk
    rw [List.drop_zero, map0] at this
    exact this
theorem mneigh_st {h : PH} (m : MSh h) {ks : List Nat} (s : SK ks) (K : KN ks h) (hl : ks.length ≤ 4000) {w : Nat} (hw : vword w = true) : fX12_neighbours_l23 45 (nI w) 0 0 h = some (nI (ks.countP (nb w)), h) := by
  have hin : ∀ j, j < ks.length → inb (nI j) (hN h 59) := fun j hj => by rw [n_59 m]; exact inbI (by omega) (by decide)
  have st : ∀ j x, j < ks.length → fX12_neighbours_c23 45 (nI w) x (nI j) h = (if bI (nb w (ks.getD j 0)) = 0 then some (.inl (x, nI (j + 1))) else some (.inl (x + 1, nI (j + 1)))) := fun j x hj => by
    unfold fX12_neighbours_c23 fX12_neighbours_b50
    rw [gd_t (k_45 m), K.1, if_neg (nI_ge hj (by omega)), r12_45_19 m, gs_t, gd_t ⟨k_59 m, hin j hj⟩, K.c hl hj, areBeside_eq (vw2 hw) (vw2 (s.2 _ (mem_getD hj))), bd_t, nI_1, Int32.add_zero]
  unfold fX12_neighbours_l23
  refine count_loop (ρ := Int32 × PH) (ks := ks) (nb w) (fun j x hj q => ?_) (fun j x hj q => ?_) ?_
  · show fX12_neighbours_c23 45 (nI w) x (nI j) h = _
    rw [st j x hj, q, if_neg (show ¬ bI true = 0 by decide)]
  · show fX12_neighbours_c23 45 (nI w) x (nI j) h = _
    rw [st j x hj, q, if_pos (show bI false = 0 from rfl)]
  · show fX12_neighbours_c23 45 (nI w) _ (nI ks.length) h = _
    unfold fX12_neighbours_c23
    rw [gd_t (k_45 m), K.1, if_pos (nI_le (Nat.le_refl _) (by omega)), mr_t]
theorem mneigh_at {h : PH} (m : MSh h) {ks : List Nat} (s : SK ks) (K : KN ks h) (hl : ks.length ≤ 4000) {w : Nat} (hw : vword w = true) (x : Int32) : fX12_neighbourAt_l24 45 (nI w) x 0 h = some (naV ks w x, h) := by
  have hin : ∀ j, j < ks.length → inb (nI j) (hN h 59) := fun j hj => by rw [n_59 m]; exact inbI (by omega) (by decide)
  have en : ∀ y, fX12_neighbourAt_c24 45 (nI w) y (nI ks.length) h = some (.inr (-1, h)) := fun y => by
    unfold fX12_neighbourAt_c24 fX12_neighbourAt_b75
    rw [gd_t (k_45 m), K.1, if_pos (nI_le (Nat.le_refl _) (by omega)), mr_t]
  have st : ∀ j y, j < ks.length → fX12_neighbourAt_c24 45 (nI w) y (nI j) h = (if y < 0 then some (.inr (-1, h)) else if ¬ bI (nb w (ks.getD j 0)) = 0 then (if ¬ y = 0 then some (.inl (y + (-1), nI (j + 1))) else some (.inr (nI (ks.getD j 0), h))) else some (.inl (y, nI (j + 1)))) := fun j y hj => by
    unfold fX12_neighbourAt_c24 fX12_neighbourAt_b69 fX12_neighbourAt_b75
    rw [gd_t (k_45 m), K.1, if_neg (nI_ge hj (by omega)), r12_45_19 m, gs_t, gd_t ⟨k_59 m, hin j hj⟩, K.c hl hj, areBeside_eq (vw2 hw) (vw2 (s.2 _ (mem_getD hj))), bd_t, gs_t, gd_t ⟨k_59 m, hin j hj⟩, K.c hl hj, mr_t, mr_t, nI_1]
  unfold naV
  by_cases h0 : x < 0
  · rw [if_pos h0]
    unfold fX12_neighbourAt_l24
    refine wh_done ?_
    show fX12_neighbourAt_c24 45 (nI w) x (nI 0) h = _
    by_cases z : 0 < ks.length
    · rw [st 0 x z, if_pos h0]
    · have : ks.length = 0 := by omega
      have e2 := en x
      rw [this] at e2
      exact e2
  · obtain ⟨k, hk, rfl⟩ := nI_of h0
    rw [if_neg h0, nI_clamp hk]
    unfold fX12_neighbourAt_l24
    have := nth_loop (c := fun z : Int32 × Int32 => fX12_neighbourAt_c24 45 (nI w) z.1 z.2 h) (ks := ks) (nb w) (fun r => (wdV ks r, h)) (fun k _ => en _) (fun j hj q => by
      show fX12_neighbourAt_c24 45 (nI w) (nI 0) (nI j) h = _
      rw [st j _ hj, if_neg (by decide), q, if_pos (show ¬ bI true = 0 by decide), if_neg (by decide)]
      rfl) (fun j k hj q hk => by
      show fX12_neighbourAt_c24 45 (nI w) (nI (k + 1)) (nI j) h = _
      rw [st j _ hj, if_neg (nI_pos hk), q, if_pos (show ¬ bI true = 0 by decide), if_pos (nI_ne0 (by omega) hk), pk_m1]) (fun j k hj q hk => by
      show fX12_neighbourAt_c24 45 (nI w) (nI k) (nI j) h = _
      rw [st j _ hj, if_neg (nI_pos hk), q, if_neg (fun z => z rfl)]) ks.length 0 k (by omega) hk
    rw [List.drop_zero, map0] at this
    exact this
