/-! A QUERY WRITTEN OUT, and the class that writes it -/
def spW (w : Nat) : List Nat := (List.range (nl 6 w)).map (fun i => 96 + ltr w i)
def spD (m : Nat) : List Nat := if 9 < m then [48 + m / 10, 48 + m % 10] else [48 + m]
/-- the words of a row from i on, with what stands between -/
def spR (sep : List Nat) : List Nat → List Nat
  | [] => []
  | w :: ws => spW w ++ (ws.map (fun v => sep ++ spW v)).flatten
def spL (l : L3) : List Nat := if l.1 = 3 then [91] ++ (spR [32] l.2.1 ++ [93]) else if l.1 = 2 then spR ([126] ++ spD l.2.2) l.2.1 else if l.1 = 1 then spR [] l.2.1 ++ [42] else spR [] l.2.1
def knd : (n : Nat) → QT n → Nat
  | 0, l => (l : L3).1
  | _ + 1, q => match (q : L3 ⊕ (Nat × List (QT _))) with
    | .inl l => l.1
    | .inr p => p.1
def brk (around kind : Nat) : Bool := decide (kind = 6) || (decide (kind = 5) && !decide (around = 6))
def spC (k : Nat) (sp : List Nat) (kc : Nat) : List Nat := (if brk k kc then [40] else []) ++ (sp ++ (if brk k kc then [41] else []))
def spJ (k : Nat) : List (List Nat × Nat) → List Nat
  | [] => []
  | c :: cs => spC k c.1 c.2 ++ (cs.map (fun d => [if k = 5 then 38 else 124] ++ spC k d.1 d.2)).flatten
def spQ : (n : Nat) → QT n → List Nat
  | 0, l => spL (l : L3)
  | n + 1, q => match (q : L3 ⊕ (Nat × List (QT n))) with
    | .inl l => spL l
    | .inr p => (if p.1 = 4 then [33] else []) ++ spJ p.1 (p.2.map (fun c => (spQ n c, knd n c)))
/-- how many words -/
def wsm : (n : Nat) → QT n → Nat
  | 0, l => (l : L3).2.1.length
  | n + 1, q => match (q : L3 ⊕ (Nat × List (QT n))) with
    | .inl l => l.2.1.length
    | .inr p => (p.2.map (wsm n)).sum
theorem spW_len (w : Nat) : (spW w).length ≤ 6 := by
  unfold spW
  rw [List.length_map, List.length_range]
  exact nl_bd 6 w
theorem spD_len (m : Nat) : (spD m).length ≤ 2 := by
  unfold spD
  split
  · exact Nat.le_refl 2
  · exact Nat.le_succ 1
theorem spR_len (sep : List Nat) (ws : List Nat) : (spR sep ws).length ≤ (6 + sep.length) * ws.length := by
  have g : ∀ ws : List Nat, ((ws.map (fun v => sep ++ spW v)).flatten).length ≤ (6 + sep.length) * ws.length := fun ws => by
    induction ws with
    | nil => exact Nat.le_refl _
    | cons w ws ih =>
      have := spW_len w
      rw [List.map_cons, List.flatten_cons, List.length_append, List.length_append, List.length_cons, Nat.mul_succ]
      omega
  cases ws with
  | nil => exact Nat.zero_le _
  | cons w ws =>
    have := spW_len w
    have := g ws
    rw [spR, List.length_append, List.length_cons, Nat.mul_succ]
    omega
theorem spL_len {l : L3} (o : okL3 l) : (spL l).length ≤ 9 * l.2.1.length + 1 := by
  have ol := okL.len o
  unfold spL
  split
  · have := spR_len [32] l.2.1
    rw [List.length_append, List.length_append]
    have e1 : ([32] : List Nat).length = 1 := rfl
    have e2 : ([91] : List Nat).length = 1 := rfl
    have e3 : ([93] : List Nat).length = 1 := rfl
    rw [e1] at this
    omega
  · split
    · have := spR_len ([126] ++ spD l.2.2) l.2.1
      have d := spD_len l.2.2
      rw [List.length_append] at this
      have e1 : ([126] : List Nat).length = 1 := rfl
      have : (6 + (([126] : List Nat).length + (spD l.2.2).length)) * l.2.1.length ≤ 9 * l.2.1.length := Nat.mul_le_mul_right _ (by omega)
      omega
    · split
      · have := spR_len [] l.2.1
        rw [List.length_append]
        have e1 : ([] : List Nat).length = 0 := rfl
        have e2 : ([42] : List Nat).length = 1 := rfl
        rw [e1] at this
        omega
      · have := spR_len [] l.2.1
        have e1 : ([] : List Nat).length = 0 := rfl
        rw [e1] at this
        omega
theorem spC_len (k : Nat) (sp : List Nat) (kc : Nat) : (spC k sp kc).length ≤ sp.length + 2 := by
  unfold spC
  cases brk k kc
  · simp
  · simp
theorem spJ_len (k : Nat) (cs : List (List Nat × Nat)) : (spJ k cs).length ≤ (cs.map (fun c => c.1.length + 3)).sum := by
  have g : ∀ cs : List (List Nat × Nat), ((cs.map (fun d => [if k = 5 then 38 else 124] ++ spC k d.1 d.2)).flatten).length ≤ (cs.map (fun c => c.1.length + 3)).sum := fun cs => by
    induction cs with
    | nil => exact Nat.le_refl _
    | cons c cs ih =>
      have := spC_len k c.1 c.2
      rw [List.map_cons, List.flatten_cons, List.length_append, List.length_append, List.map_cons, List.sum_cons]
      have e : ([if k = 5 then 38 else 124] : List Nat).length = 1 := rfl
      omega
  cases cs with
  | nil => exact Nat.le_refl _
  | cons c cs =>
    have := spC_len k c.1 c.2
    have := g cs
    rw [spJ, List.length_append, List.map_cons, List.sum_cons]
    omega
theorem sum_le {α : Type} (f g : α → Nat) : ∀ cs : List α, (∀ c ∈ cs, f c ≤ g c) → (cs.map f).sum ≤ (cs.map g).sum
  | [], _ => Nat.le_refl _
  | c :: cs, h => by
    have := sum_le f g cs (fun d hd => h d (List.mem_cons_of_mem _ hd))
    have := h c List.mem_cons_self
    rw [List.map_cons, List.map_cons, List.sum_cons, List.sum_cons]
    omega
theorem sum_add {α : Type} (f g : α → Nat) : ∀ cs : List α, (cs.map (fun c => f c + g c)).sum = (cs.map f).sum + (cs.map g).sum
  | [] => rfl
  | c :: cs => by
    rw [List.map_cons, List.map_cons, List.map_cons, List.sum_cons, List.sum_cons, List.sum_cons, sum_add f g cs]
    omega
theorem sum_mul {α : Type} (k : Nat) (f : α → Nat) : ∀ cs : List α, (cs.map (fun c => k * f c)).sum = k * (cs.map f).sum
  | [] => rfl
  | c :: cs => by
    rw [List.map_cons, List.map_cons, List.sum_cons, List.sum_cons, sum_mul k f cs, Nat.mul_add]
theorem spQ_len : ∀ (n : Nat) (q : QT n), wfq n q → (spQ n q).length + 3 ≤ 4 * sz n q + 9 * wsm n q
  | 0, l, w => by
    have := spL_len (l := l) w
    show (spL l).length + 3 ≤ 4 * 1 + 9 * (l : L3).2.1.length
    omega
  | _ + 1, .inl l, w => by
    have := spL_len (l := l) w
    show (spL l).length + 3 ≤ 4 * 1 + 9 * l.2.1.length
    omega
  | n + 1, .inr p, w => by
    obtain ⟨w1, w2, w3⟩ := w
    show ((if p.1 = 4 then [33] else []) ++ spJ p.1 (p.2.map (fun c => (spQ n c, knd n c)))).length + 3 ≤ 4 * ((p.2.map (sz n)).sum + 1) + 9 * (p.2.map (wsm n)).sum
    have h1 := spJ_len p.1 (p.2.map (fun c => (spQ n c, knd n c)))
    rw [List.map_map] at h1
    have h2 : (p.2.map ((fun c : List Nat × Nat => c.1.length + 3) ∘ fun c => (spQ n c, knd n c))).sum ≤ (p.2.map (fun c => 4 * sz n c + 9 * wsm n c)).sum := sum_le _ _ p.2 (fun c hc => spQ_len n c (w3 c hc))
    rw [sum_add, sum_mul, sum_mul] at h2
    have h3 : ((if p.1 = 4 then [33] else []) : List Nat).length ≤ 1 := by split <;> decide
    rw [List.length_append]
    omega
