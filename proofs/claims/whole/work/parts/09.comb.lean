/-! WHAT THE PURE FUNCTIONS ARE MADE OF: guards, references, results of calls, loops -/
abbrev inb (i : Int32) (n : Nat) : Prop := ¬ i < 0 ∧ i.toNatClampNeg < n
theorem vp_of_inb {i : Int32} {n : Nat} (h : inb i n) : vp_in i n := fun q => q.elim h.1 (fun z => absurd h.2 (Nat.not_lt.mpr z))
def gd {α : Type} (c : Prop) [Decidable c] (x : Option α) : Option α := if c then x else none
def gs {α : Type} (r : Option Nat) (k : Nat → Option α) : Option α := match r with
  | none => none
  | some a => k a
def mq {α : Type} (r : Option Nat) (x : Option α) (k : Nat → Option α) : Option α := match r with
  | none => x
  | some a => k a
def bd {α β : Type} (x : Option α) (k : α → Option β) : Option β := match x with
  | none => none
  | some a => k a
def lt {α β : Type} (x : α) (k : α → Option β) : Option β := k x
def mr {σ ρ : Type} (x : Option ρ) : Option (σ ⊕ ρ) := match x with
  | none => none
  | some r => some (.inr r)
/-- behind a call that may throw: what it threw goes on -/
def bx {α β ε : Type} (x : Option (α ⊕ ε)) (k : α → Option (β ⊕ ε)) : Option (β ⊕ ε) := match x with
  | none => none
  | some (.inl a) => k a
  | some (.inr e) => some (.inr e)
theorem gd_some {α : Type} {c : Prop} [Decidable c] {x : Option α} {r : α} (h : gd c x = some r) : c ∧ x = some r := by
  unfold gd at h
  split at h
  · rename_i hc; exact ⟨hc, h⟩
  · cases h
theorem gs_some {α : Type} {r : Option Nat} {k : Nat → Option α} {x : α} (h : gs r k = some x) : ∃ a, r = some a ∧ k a = some x := by
  cases r with
  | none => cases h
  | some a => exact ⟨a, rfl, h⟩
theorem mq_n {α : Type} {r : Option Nat} {x : Option α} {k : Nat → Option α} {y : Option α} (e : r = none) (h : mq r x k = y) : x = y := by subst e; exact h
theorem mq_s {α : Type} {r : Option Nat} {x : Option α} {k : Nat → Option α} {y : Option α} {a : Nat} (e : r = some a) (h : mq r x k = y) : k a = y := by subst e; exact h
theorem bd_some {α β : Type} {x : Option α} {k : α → Option β} {r : β} (h : bd x k = some r) : ∃ a, x = some a ∧ k a = some r := by
  cases x with
  | none => cases h
  | some a => exact ⟨a, rfl, h⟩
theorem lt_some {α β : Type} {x : α} {k : α → Option β} {r : β} (h : lt x k = some r) : ∃ y, y = x ∧ k y = some r := ⟨x, rfl, h⟩
theorem mr_some {σ ρ : Type} {y : Option ρ} {x : σ ⊕ ρ} (h : mr y = some x) : ∃ r, y = some r ∧ x = .inr r := by
  cases y with
  | none => cases h
  | some r => cases h; exact ⟨r, rfl, rfl⟩
theorem bx_some {α β ε : Type} {x : Option (α ⊕ ε)} {k : α → Option (β ⊕ ε)} {r : β ⊕ ε} (h : bx x k = some r) : ∃ y, x = some y ∧ (∀ a, y = .inl a → k a = some r) ∧ (∀ e, y = .inr e → r = .inr e) := by
  cases x with
  | none => cases h
  | some y =>
    refine ⟨y, rfl, ?_, ?_⟩
    · rintro a rfl; exact h
    · rintro e rfl; cases h; rfl
theorem if_t {α : Type} {c : Prop} [Decidable c] {a b x : α} (q : c) (h : (if c then a else b) = x) : a = x := by rw [if_pos q] at h; exact h
theorem if_f {α : Type} {c : Prop} [Decidable c] {a b x : α} (q : ¬ c) (h : (if c then a else b) = x) : b = x := by rw [if_neg q] at h; exact h
def whf {σ ρ : Type} (c : σ → Option (σ ⊕ ρ)) : Nat → σ → Option ρ
  | 0, _ => none
  | n + 1, s => match c s with
    | none => none
    | some (.inl t) => whf c n t
    | some (.inr r) => some r
theorem whf_mono {σ ρ : Type} {c : σ → Option (σ ⊕ ρ)} : ∀ (n k : Nat) (s : σ) (r : ρ), whf c n s = some r → whf c (n + k) s = some r
  | 0, _, _, _, h => by cases h
  | n + 1, k, s, r, h => by
    rw [show n + 1 + k = (n + k) + 1 by omega]
    unfold whf at h ⊢
    revert h
    cases c s with
    | none => intro h; cases h
    | some y => cases y with
      | inl t => intro h; exact whf_mono n k t r h
      | inr q => intro h; exact h
theorem whf_det {σ ρ : Type} {c : σ → Option (σ ⊕ ρ)} {n m : Nat} {s : σ} {r q : ρ} (h1 : whf c n s = some r) (h2 : whf c m s = some q) : r = q := by
  have a := whf_mono n m s r h1
  have b := whf_mono m n s q h2
  rw [Nat.add_comm] at b
  exact Option.some.inj (a.symm.trans b)
/-- a loop: what it comes to, if it comes to an end -/
noncomputable def wh {σ ρ : Type} (c : σ → Option (σ ⊕ ρ)) (s : σ) : Option ρ := @dite (Option ρ) (∃ r : ρ, ∃ n : Nat, whf c n s = some r) (Classical.propDecidable _) (fun h => some (Classical.choose h)) (fun _ => none)
theorem wh_of {σ ρ : Type} {c : σ → Option (σ ⊕ ρ)} {n : Nat} {s : σ} {r : ρ} (h : whf c n s = some r) : wh c s = some r := by
  have e : ∃ r : ρ, ∃ n : Nat, whf c n s = some r := ⟨r, n, h⟩
  unfold wh
  rw [dif_pos e]
  obtain ⟨m, hm⟩ := Classical.choose_spec e
  rw [whf_det hm h]
theorem wh_some {σ ρ : Type} {c : σ → Option (σ ⊕ ρ)} {s : σ} {r : ρ} (h : wh c s = some r) : ∃ n, whf c n s = some r := by
  unfold wh at h
  split at h
  · rename_i e
    cases h
    exact Classical.choose_spec e
  · cases h
theorem wh_step {σ ρ : Type} {c : σ → Option (σ ⊕ ρ)} {s t : σ} (h : c s = some (.inl t)) {r : ρ} (k : wh c t = some r) : wh c s = some r := by
  obtain ⟨n, hn⟩ := wh_some k
  refine wh_of (n := n + 1) ?_
  unfold whf
  rw [h]
  exact hn
theorem wh_done {σ ρ : Type} {c : σ → Option (σ ⊕ ρ)} {s : σ} {r : ρ} (h : c s = some (.inr r)) : wh c s = some r := by
  refine wh_of (n := 1) ?_
  unfold whf
  rw [h]
theorem wh_ind {σ ρ : Type} {c : σ → Option (σ ⊕ ρ)} {r : ρ} {P : σ → Prop} (k : ∀ s x, c s = some x → (∀ t, x = .inl t → P t) → (∀ q, x = .inr q → q = r) → P s) (s : σ) (h : wh c s = some r) : P s := by
  obtain ⟨n, hn⟩ := wh_some h
  clear h
  induction n generalizing s with
  | zero => cases hn
  | succ n ih =>
    unfold whf at hn
    cases hx : c s with
    | none => rw [hx] at hn; cases hn
    | some x =>
      rw [hx] at hn
      refine k s x hx (fun t e => ?_) (fun q e => ?_)
      · subst e; exact ih t hn
      · subst e; exact Option.some.inj hn
/-- instructions of a method, as decoded -/
def decs (cc : ByteArray) (il : List (Nat × Instr × Nat)) : Bool := il.all (fun q => decide (decode cc q.1 = .ok (q.2.1, q.2.2)))
theorem dcg {cc : ByteArray} {il : List (Nat × Instr × Nat)} (h : decs cc il = true) (i : Nat) {pc len : Nat} {ins : Instr} (e : il[i]? = some (pc, ins, len)) : decode cc pc = .ok (ins, len) := by
  have h1 := List.all_eq_true.mp h _ (List.mem_of_getElem? e)
  exact of_decide_eq_true h1
theorem cat_rf (r : Option Nat) : (va_rf r).category = 1 := by cases r <;> rfl
