/-! CALLS THAT ONLY ASK: nextText, wordAt, the tape's and the changes' numbers -/
/-- the first of j, j+1 .. (f of them) with p -/
def fst1 (p : Nat → Bool) : Nat → Nat → Option Nat
  | 0, _ => none
  | f + 1, j => if p j then some j else fst1 p f (j + 1)
theorem fst_loop {ρ : Type} {c : Int32 → Option (Int32 ⊕ ρ)} (p : Nat → Bool) (n : Nat) (R : Option Nat → ρ) (h1 : ∀ j, j < n → p j = true → c (nI j) = some (.inr (R (some j)))) (h2 : ∀ j, j < n → p j = false → c (nI j) = some (.inl (nI (j + 1)))) (h3 : c (nI n) = some (.inr (R none))) : ∀ f j, j + f = n → wh c (nI j) = some (R (fst1 p f j)) := by
  intro f
  induction f with
  | zero =>
    intro j hj
    have : j = n := by omega
    subst this
    exact wh_done h3
  | succ f ih =>
    intro j hj
    cases e : p j with
    | true => rw [fst1, e, if_pos rfl]; exact wh_done (h1 j (by omega) e)
    | false => rw [fst1, e, if_neg (by decide)]; exact wh_step (h2 j (by omega) e) (ih (j + 1) (by omega))
theorem fst_cong {p q : Nat → Bool} : ∀ f j, (∀ i, j ≤ i → i < j + f → p i = q i) → fst1 p f j = fst1 q f j := by
  intro f
  induction f with
  | zero => intro j _; rfl
  | succ f ih =>
    intro j h
    rw [fst1, fst1, h j (Nat.le_refl _) (by omega), ih (j + 1) (fun i a b => h i (by omega) (by omega))]
theorem fst_skip {p : Nat → Bool} : ∀ k f j, (∀ i, j ≤ i → i < j + k → p i = false) → fst1 p (k + f) j = fst1 p f (j + k) := by
  intro k
  induction k with
  | zero => intro f j _; simp
  | succ k ih =>
    intro f j h
    rw [show k + 1 + f = (k + f) + 1 by omega, fst1, h j (Nat.le_refl _) (by omega), if_neg (by decide), ih f (j + 1) (fun i a b => h i (by omega) (by omega))]
    congr 1
    omega
theorem i100 {t : Nat} (h : t < 100) : ¬ (100 : Int32) ≤ nI t := by rw [show (100 : Int32) = nI 100 from rfl, nI_leI (by decide) (by omega)]; omega
theorem X11_nextText_eq {h : PH} (c : CSh h) {tx : TX} (T : CT tx h) (x : Int32) : fX11_nextText 10 x h = some (optI (fst1 (fun t => (tx t).isSome && decide (x ≤ nI t)) 100 0)) := by
  have lp : ∀ f j, j + f = 100 → fX11_nextText_l6 10 (nI j) h = some (optI (fst1 (fun t => (tx t).isSome) f j)) := by
    unfold fX11_nextText_l6
    have hin : ∀ j, j < 100 → inb (nI j) (hN h 15) := fun j hj => by rw [n_15 c]; exact inbI hj (by decide)
    refine fst_loop (fun t => (tx t).isSome) 100 optI (fun j hj e => ?_) (fun j hj e => ?_) ?_
    · unfold fX11_nextText_c6
      rw [if_neg (i100 hj), gd_t (k_10 c), r11_10_2 c, gs_t, gd_t ⟨k_15 c, hin j hj⟩, nI_clamp (by omega)]
      cases q : tx j with
      | none => rw [q] at e; cases e
      | some ws =>
        obtain ⟨a, b, h1, -⟩ := T.s hj q
        rw [h1, mq_st, mr_t]
        rfl
    · unfold fX11_nextText_c6
      rw [if_neg (i100 hj), gd_t (k_10 c), r11_10_2 c, gs_t, gd_t ⟨k_15 c, hin j hj⟩, nI_clamp (by omega)]
      cases q : tx j with
      | none => rw [T.n hj q, mq_nt, nI_1]
      | some ws => rw [q] at e; cases e
    · unfold fX11_nextText_c6
      rw [if_pos (by decide)]
      rfl
  unfold fX11_nextText
  by_cases h0 : x < 0
  · rw [if_pos h0, show (0 : Int32) = nI 0 from rfl, lp 100 0 rfl]
    congr 2
    refine fst_cong 100 0 (fun i _ hi => ?_)
    have : x ≤ nI i := Int32.le_trans (Int32.le_of_lt h0) (nI_pos' (by omega))
    rw [decide_eq_true this, Bool.and_true]
  · rw [if_neg h0]
    obtain ⟨j, hj, rfl⟩ := nI_of h0
    by_cases h1 : j < 100
    · rw [lp (100 - j) j (by omega), show (100 : Nat) = j + (100 - j) by omega, fst_skip j (100 - j) 0 (fun i _ hi => by
        have : ¬ nI j ≤ nI i := by rw [nI_leI hj (by omega)]; omega
        rw [decide_eq_false this, Bool.and_false]), Nat.zero_add, show j + (100 - j) - j = 100 - j by omega]
      congr 2
      refine fst_cong (100 - j) j (fun i hi _ => ?_)
      have : nI j ≤ nI i := (nI_leI hj (by omega)).mpr hi
      rw [decide_eq_true this, Bool.and_true]
    · have e : fst1 (fun t => (tx t).isSome && decide (nI j ≤ nI t)) 100 0 = none := by
        rw [show (100 : Nat) = 100 + 0 from rfl, fst_skip 100 0 0 (fun i _ hi => by
          have : ¬ nI j ≤ nI i := by rw [nI_leI hj (by omega)]; omega
          rw [decide_eq_false this, Bool.and_false])]
        rfl
      rw [e]
      unfold fX11_nextText_l6
      refine wh_done ?_
      show fX11_nextText_c6 10 (nI j) h = _
      unfold fX11_nextText_c6
      rw [if_pos (by rw [show (100 : Int32) = nI 100 from rfl, nI_leI (by decide) hj]; omega)]
      rfl
theorem X12_nextText_eq {u : PH} (m : MSh u) {tx : TX} (T : MT tx u) (x : Int32) : fX12_nextText 45 x u = some (optI (fst1 (fun t => (tx t).isSome && decide (x ≤ nI t)) 100 0), sI u 12 45 0 0) := by
  have s1 := scr_thr u 0
  have m1 := m.scr s1
  have t1 := T.scr s1
  unfold fX12_nextText fX12_nextText_l7
  rw [gd_t (k_45 m), lt_t]
  show wh (fun z : Int32 => fX12_nextText_c7 45 x z (sI u 12 45 0 0)) (nI 0) = _
  have hin : ∀ j, j < 100 → inb (nI j) (hN (sI u 12 45 0 0) 47) := fun j hj => by rw [n_47 m1]; exact inbI hj (by decide)
  refine fst_loop (ρ := Int32 × PH) (fun t => (tx t).isSome && decide (x ≤ nI t)) 100 (fun r => (optI r, sI u 12 45 0 0)) (fun j hj e => ?_) (fun j hj e => ?_) ?_ 100 0 rfl
  · unfold fX12_nextText_c7
    rw [if_neg (i100 hj), gd_t (k_45 m1), r12_45_4 m1, gs_t, gd_t ⟨k_47 m1, hin j hj⟩, nI_clamp (by omega)]
    rw [Bool.and_eq_true, decide_eq_true_eq] at e
    cases q : tx j with
    | none => rw [q] at e; cases e.1
    | some ws => rw [(t1.s hj q).1, if_neg (by decide), if_neg (fun h => absurd e.2 (Int32.not_le.mpr h))]; rfl
  · unfold fX12_nextText_c7 fX12_nextText_b29
    rw [if_neg (i100 hj), gd_t (k_45 m1), r12_45_4 m1, gs_t, gd_t ⟨k_47 m1, hin j hj⟩, nI_clamp (by omega)]
    cases q : tx j with
    | none => rw [t1.n hj q, if_pos rfl, nI_1]
    | some ws =>
      rw [q] at e
      have e : ¬ x ≤ nI j := by simpa using e
      rw [(t1.s hj q).1, if_neg (by decide), if_pos (Int32.not_le.mp e), nI_1]
  · unfold fX12_nextText_c7
    rw [if_pos (by decide)]
    rfl
theorem ls_nextText {h : PH} {P : PH → Prop} {tx : TX} (c : CSh h) (m : MSh h) (T1 : CT tx h) (T2 : MT tx h) (a1 a2 a3 a4 a5 : Int32) (hP : ∀ h', scr h h' → P h') : LS_12 10 45 87 88 a1 a2 a3 a4 a5 h P :=
  ⟨_, X11_nextText_eq c T1 a1, k_10 c, (_, _), k_45 m, X12_nextText_eq m T2 a1, rfl, hP _ (scr_thr h 0)⟩
