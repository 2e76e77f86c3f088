/-! PURE REASONING: evaluating the functions (by program: wip/whole/mkbase.py) -/
theorem hI_sI (h : PH) (c a k : Nat) (v : Int32) (c' a' k' : Nat) : hI (sI h c a k v) c' a' k' = if c' = c ∧ a' = a ∧ k' = k then v else hI h c' a' k' := rfl
theorem hR_sI (h : PH) (c a k : Nat) (v : Int32) : hR (sI h c a k v) = hR h := rfl
theorem hL_sI (h : PH) (c a k : Nat) (v : Int32) : hL (sI h c a k v) = hL h := rfl
theorem hD_sI (h : PH) (c a k : Nat) (v : Int32) : hD (sI h c a k v) = hD h := rfl
theorem hK_sI (h : PH) (c a k : Nat) (v : Int32) : hK (sI h c a k v) = hK h := rfl
theorem hN_sI (h : PH) (c a k : Nat) (v : Int32) : hN (sI h c a k v) = hN h := rfl
theorem hC_sI (h : PH) (c a k : Nat) (v : Int32) : hC (sI h c a k v) = hC h := rfl
theorem hU_sI (h : PH) (c a k : Nat) (v : Int32) : hU (sI h c a k v) = hU h := rfl
theorem hI_sR (h : PH) (c a k : Nat) (v : Option Nat) : hI (sR h c a k v) = hI h := rfl
theorem hR_sR (h : PH) (c a k : Nat) (v : Option Nat) (c' a' k' : Nat) : hR (sR h c a k v) c' a' k' = if c' = c ∧ a' = a ∧ k' = k then v else hR h c' a' k' := rfl
theorem hL_sR (h : PH) (c a k : Nat) (v : Option Nat) : hL (sR h c a k v) = hL h := rfl
theorem hD_sR (h : PH) (c a k : Nat) (v : Option Nat) : hD (sR h c a k v) = hD h := rfl
theorem hK_sR (h : PH) (c a k : Nat) (v : Option Nat) : hK (sR h c a k v) = hK h := rfl
theorem hN_sR (h : PH) (c a k : Nat) (v : Option Nat) : hN (sR h c a k v) = hN h := rfl
theorem hC_sR (h : PH) (c a k : Nat) (v : Option Nat) : hC (sR h c a k v) = hC h := rfl
theorem hU_sR (h : PH) (c a k : Nat) (v : Option Nat) : hU (sR h c a k v) = hU h := rfl
theorem hI_sL (h : PH) (c a k : Nat) (v : Int64) : hI (sL h c a k v) = hI h := rfl
theorem hR_sL (h : PH) (c a k : Nat) (v : Int64) : hR (sL h c a k v) = hR h := rfl
theorem hL_sL (h : PH) (c a k : Nat) (v : Int64) (c' a' k' : Nat) : hL (sL h c a k v) c' a' k' = if c' = c ∧ a' = a ∧ k' = k then v else hL h c' a' k' := rfl
theorem hD_sL (h : PH) (c a k : Nat) (v : Int64) : hD (sL h c a k v) = hD h := rfl
theorem hK_sL (h : PH) (c a k : Nat) (v : Int64) : hK (sL h c a k v) = hK h := rfl
theorem hN_sL (h : PH) (c a k : Nat) (v : Int64) : hN (sL h c a k v) = hN h := rfl
theorem hC_sL (h : PH) (c a k : Nat) (v : Int64) : hC (sL h c a k v) = hC h := rfl
theorem hU_sL (h : PH) (c a k : Nat) (v : Int64) : hU (sL h c a k v) = hU h := rfl
theorem hI_sD (h : PH) (a k : Nat) (v : UInt64) : hI (sD h a k v) = hI h := rfl
theorem hR_sD (h : PH) (a k : Nat) (v : UInt64) : hR (sD h a k v) = hR h := rfl
theorem hL_sD (h : PH) (a k : Nat) (v : UInt64) : hL (sD h a k v) = hL h := rfl
theorem hD_sD (h : PH) (a k : Nat) (v : UInt64) (a' k' : Nat) : hD (sD h a k v) a' k' = if a' = a ∧ k' = k then v else hD h a' k' := rfl
theorem hK_sD (h : PH) (a k : Nat) (v : UInt64) : hK (sD h a k v) = hK h := rfl
theorem hN_sD (h : PH) (a k : Nat) (v : UInt64) : hN (sD h a k v) = hN h := rfl
theorem hC_sD (h : PH) (a k : Nat) (v : UInt64) : hC (sD h a k v) = hC h := rfl
theorem hU_sD (h : PH) (a k : Nat) (v : UInt64) : hU (sD h a k v) = hU h := rfl
theorem hI_sIa (h : PH) (c a : Nat) (v : Nat → Int32) (c' a' : Nat) : hI (sIa h c a v) c' a' = if c' = c ∧ a' = a then v else hI h c' a' := rfl
theorem hR_sIa (h : PH) (c a : Nat) (v : Nat → Int32) : hR (sIa h c a v) = hR h := rfl
theorem hL_sIa (h : PH) (c a : Nat) (v : Nat → Int32) : hL (sIa h c a v) = hL h := rfl
theorem hD_sIa (h : PH) (c a : Nat) (v : Nat → Int32) : hD (sIa h c a v) = hD h := rfl
theorem hK_sIa (h : PH) (c a : Nat) (v : Nat → Int32) : hK (sIa h c a v) = hK h := rfl
theorem hN_sIa (h : PH) (c a : Nat) (v : Nat → Int32) : hN (sIa h c a v) = hN h := rfl
theorem hC_sIa (h : PH) (c a : Nat) (v : Nat → Int32) : hC (sIa h c a v) = hC h := rfl
theorem hU_sIa (h : PH) (c a : Nat) (v : Nat → Int32) : hU (sIa h c a v) = hU h := rfl
theorem hI_sRa (h : PH) (c a : Nat) (v : Nat → Option Nat) : hI (sRa h c a v) = hI h := rfl
theorem hR_sRa (h : PH) (c a : Nat) (v : Nat → Option Nat) (c' a' : Nat) : hR (sRa h c a v) c' a' = if c' = c ∧ a' = a then v else hR h c' a' := rfl
theorem hL_sRa (h : PH) (c a : Nat) (v : Nat → Option Nat) : hL (sRa h c a v) = hL h := rfl
theorem hD_sRa (h : PH) (c a : Nat) (v : Nat → Option Nat) : hD (sRa h c a v) = hD h := rfl
theorem hK_sRa (h : PH) (c a : Nat) (v : Nat → Option Nat) : hK (sRa h c a v) = hK h := rfl
theorem hN_sRa (h : PH) (c a : Nat) (v : Nat → Option Nat) : hN (sRa h c a v) = hN h := rfl
theorem hC_sRa (h : PH) (c a : Nat) (v : Nat → Option Nat) : hC (sRa h c a v) = hC h := rfl
theorem hU_sRa (h : PH) (c a : Nat) (v : Nat → Option Nat) : hU (sRa h c a v) = hU h := rfl
theorem hI_new (h : PH) (c n : Nat) (c' a' k' : Nat) : hI (hnew h c n) c' a' k' = if a' = hX h then 0 else hI h c' a' k' := rfl
theorem hR_new (h : PH) (c n : Nat) (c' a' k' : Nat) : hR (hnew h c n) c' a' k' = if a' = hX h then none else hR h c' a' k' := rfl
theorem hL_new (h : PH) (c n : Nat) (c' a' k' : Nat) : hL (hnew h c n) c' a' k' = if a' = hX h then 0 else hL h c' a' k' := rfl
theorem hD_new (h : PH) (c n : Nat) (a' k' : Nat) : hD (hnew h c n) a' k' = if a' = hX h then 0 else hD h a' k' := rfl
theorem hK_new (h : PH) (c n : Nat) (a' : Nat) : hK (hnew h c n) a' = if a' = hX h then c else hK h a' := rfl
theorem hN_new (h : PH) (c n : Nat) (a' : Nat) : hN (hnew h c n) a' = if a' = hX h then n else hN h a' := rfl
theorem hC_new (h : PH) (c n : Nat) : hC (hnew h c n) = hC h ++ [hX h] := rfl
theorem hU_new (h : PH) (c n : Nat) : hU (hnew h c n) = hU h + 1 := rfl
theorem hI_hbump (h : PH) (n : Nat) : hI (hbump h n) = hI h := rfl
theorem hR_hbump (h : PH) (n : Nat) : hR (hbump h n) = hR h := rfl
theorem hL_hbump (h : PH) (n : Nat) : hL (hbump h n) = hL h := rfl
theorem hD_hbump (h : PH) (n : Nat) : hD (hbump h n) = hD h := rfl
theorem hK_hbump (h : PH) (n : Nat) : hK (hbump h n) = hK h := rfl
theorem hN_hbump (h : PH) (n : Nat) : hN (hbump h n) = hN h := rfl
theorem hC_hbump (h : PH) (n : Nat) : hC (hbump h n) = hC h := rfl
theorem hX_hbump (h : PH) (n : Nat) : hX (hbump h n) = n := rfl
theorem hU_hbump (h : PH) (n : Nat) : hU (hbump h n) = hU h + 1 := rfl
theorem hV_hbump (h : PH) (n : Nat) : hV (hbump h n) = hV h + 6 := rfl
theorem gs_t {α : Type} {a : Nat} {k : Nat → Option α} : gs (some a) k = k a := rfl
theorem mq_nt {α : Type} {x : Option α} {k : Nat → Option α} : mq none x k = x := rfl
theorem mq_st {α : Type} {x : Option α} {k : Nat → Option α} {a : Nat} : mq (some a) x k = k a := rfl
theorem bd_t {α β : Type} {x : α} {k : α → Option β} : bd (some x) k = k x := rfl
theorem lt_t {α β : Type} {x : α} {k : α → Option β} : lt x k = k x := rfl
theorem mr_t {σ ρ : Type} {r : ρ} : (mr (some r) : Option (σ ⊕ ρ)) = some (.inr r) := rfl
theorem bx_l {α β ε : Type} {a : α} {k : α → Option (β ⊕ ε)} : bx (some (.inl a)) k = k a := rfl
theorem bx_r {α β ε : Type} {e : ε} {k : α → Option (β ⊕ ε)} : bx (some (.inr e)) k = some (.inr e) := rfl
theorem gd_t {α : Type} {c : Prop} [Decidable c] {x : Option α} (h : c) : gd c x = x := if_pos h
theorem gd_1 {α : Type} {x : Option α} : gd True x = x := if_pos trivial
/-- a loop that runs through its states -/
theorem wh_run {σ ρ : Type} {c : σ → Option (σ ⊕ ρ)} (S : Nat → σ) (n : Nat) {r : ρ} (hs : ∀ j, j < n → c (S j) = some (.inl (S (j + 1)))) (he : c (S n) = some (.inr r)) : wh c (S 0) = some r := by
  have k : ∀ i, i ≤ n → wh c (S (n - i)) = some r := by
    intro i
    induction i with
    | zero => intro _; exact wh_done he
    | succ i ih =>
      intro hi
      have e := hs (n - (i + 1)) (by omega)
      rw [show n - (i + 1) + 1 = n - i by omega] at e
      exact wh_step e (ih (by omega))
  have := k n (Nat.le_refl n)
  rwa [Nat.sub_self] at this
/-- a loop of at most n rounds, out at one of them -/
theorem wh_out {σ ρ : Type} {c : σ → Option (σ ⊕ ρ)} (S : Nat → σ) (k : Nat) {s : σ} {r : ρ} (h0 : S 0 = s) (hs : ∀ j, j < k → c (S j) = some (.inl (S (j + 1)))) (he : c (S k) = some (.inr r)) : wh c s = some r := h0 ▸ wh_run S k hs he
/-- total: an invariant, a measure -/
theorem wh_inv {σ ρ : Type} {c : σ → Option (σ ⊕ ρ)} (I : σ → Prop) (μ : σ → Nat) (Q : ρ → Prop) (k : ∀ s, I s → ∃ y, c s = some y ∧ (∀ t, y = .inl t → I t ∧ μ t < μ s) ∧ (∀ r, y = .inr r → Q r)) : ∀ s, I s → ∃ r, wh c s = some r ∧ Q r := by
  have h : ∀ n s, μ s ≤ n → I s → ∃ r, wh c s = some r ∧ Q r := by
    intro n
    induction n with
    | zero =>
      intro s hm hi
      obtain ⟨y, h1, h2, h3⟩ := k s hi
      rcases y with t | r
      · have := (h2 t rfl).2; omega
      · exact ⟨r, wh_done h1, h3 r rfl⟩
    | succ n ih =>
      intro s hm hi
      obtain ⟨y, h1, h2, h3⟩ := k s hi
      rcases y with t | r
      · obtain ⟨r, e, q⟩ := ih t (by have := (h2 t rfl).2; omega) (h2 t rfl).1
        exact ⟨r, wh_step h1 e, q⟩
      · exact ⟨r, wh_done h1, h3 r rfl⟩
  exact fun s hi => h (μ s) s (Nat.le_refl _) hi
theorem tc_0 : Int32.toNatClampNeg (0 : Int32) = 0 := by decide +kernel
theorem nn_0 : ((0 : Int32) < 0) = False := by decide +kernel
theorem tc_1 : Int32.toNatClampNeg (1 : Int32) = 1 := by decide +kernel
theorem nn_1 : ((1 : Int32) < 0) = False := by decide +kernel
theorem tc_2 : Int32.toNatClampNeg (2 : Int32) = 2 := by decide +kernel
theorem nn_2 : ((2 : Int32) < 0) = False := by decide +kernel
theorem tc_3 : Int32.toNatClampNeg (3 : Int32) = 3 := by decide +kernel
theorem nn_3 : ((3 : Int32) < 0) = False := by decide +kernel
theorem tc_4 : Int32.toNatClampNeg (4 : Int32) = 4 := by decide +kernel
theorem nn_4 : ((4 : Int32) < 0) = False := by decide +kernel
theorem tc_5 : Int32.toNatClampNeg (5 : Int32) = 5 := by decide +kernel
theorem nn_5 : ((5 : Int32) < 0) = False := by decide +kernel
theorem tc_6 : Int32.toNatClampNeg (6 : Int32) = 6 := by decide +kernel
theorem nn_6 : ((6 : Int32) < 0) = False := by decide +kernel
theorem tc_7 : Int32.toNatClampNeg (7 : Int32) = 7 := by decide +kernel
theorem nn_7 : ((7 : Int32) < 0) = False := by decide +kernel
theorem tc_8 : Int32.toNatClampNeg (8 : Int32) = 8 := by decide +kernel
theorem nn_8 : ((8 : Int32) < 0) = False := by decide +kernel
theorem tc_9 : Int32.toNatClampNeg (9 : Int32) = 9 := by decide +kernel
theorem nn_9 : ((9 : Int32) < 0) = False := by decide +kernel
theorem tc_10 : Int32.toNatClampNeg (10 : Int32) = 10 := by decide +kernel
theorem nn_10 : ((10 : Int32) < 0) = False := by decide +kernel
theorem tc_16 : Int32.toNatClampNeg (16 : Int32) = 16 := by decide +kernel
theorem nn_16 : ((16 : Int32) < 0) = False := by decide +kernel
theorem tc_20 : Int32.toNatClampNeg (20 : Int32) = 20 := by decide +kernel
theorem nn_20 : ((20 : Int32) < 0) = False := by decide +kernel
theorem tc_40 : Int32.toNatClampNeg (40 : Int32) = 40 := by decide +kernel
theorem nn_40 : ((40 : Int32) < 0) = False := by decide +kernel
theorem tc_100 : Int32.toNatClampNeg (100 : Int32) = 100 := by decide +kernel
theorem nn_100 : ((100 : Int32) < 0) = False := by decide +kernel
theorem tc_101 : Int32.toNatClampNeg (101 : Int32) = 101 := by decide +kernel
theorem nn_101 : ((101 : Int32) < 0) = False := by decide +kernel
theorem tc_160 : Int32.toNatClampNeg (160 : Int32) = 160 := by decide +kernel
theorem nn_160 : ((160 : Int32) < 0) = False := by decide +kernel
theorem tc_300 : Int32.toNatClampNeg (300 : Int32) = 300 := by decide +kernel
theorem nn_300 : ((300 : Int32) < 0) = False := by decide +kernel
theorem tc_400 : Int32.toNatClampNeg (400 : Int32) = 400 := by decide +kernel
theorem nn_400 : ((400 : Int32) < 0) = False := by decide +kernel
theorem tc_800 : Int32.toNatClampNeg (800 : Int32) = 800 := by decide +kernel
theorem nn_800 : ((800 : Int32) < 0) = False := by decide +kernel
theorem tc_2000 : Int32.toNatClampNeg (2000 : Int32) = 2000 := by decide +kernel
theorem nn_2000 : ((2000 : Int32) < 0) = False := by decide +kernel
theorem tc_3200 : Int32.toNatClampNeg (3200 : Int32) = 3200 := by decide +kernel
theorem nn_3200 : ((3200 : Int32) < 0) = False := by decide +kernel
theorem tc_4000 : Int32.toNatClampNeg (4000 : Int32) = 4000 := by decide +kernel
theorem nn_4000 : ((4000 : Int32) < 0) = False := by decide +kernel
