/-! SORTED ROWS OF WORDS, as the index and the reference have them -/
def SK (ks : List Nat) : Prop := ks.Pairwise (fun a b => ord a < ord b) ∧ ∀ w ∈ ks, vword w = true
/-- how many are ahead of an order -/
def pos (ks : List Nat) (x : Nat) : Nat := ks.countP (fun k => decide (ord k < x))
def insAt (ks : List Nat) (p w : Nat) : List Nat := ks.take p ++ w :: ks.drop p
def insW (ks : List Nat) (w : Nat) : List Nat := if w ∈ ks then ks else insAt ks (pos ks (ord w)) w
theorem SK.tail {k : Nat} {ks : List Nat} (s : SK (k :: ks)) : SK ks := ⟨(List.pairwise_cons.mp s.1).2, fun w h => s.2 w (List.mem_cons_of_mem _ h)⟩
theorem SK.head {k : Nat} {ks : List Nat} (s : SK (k :: ks)) : ∀ w ∈ ks, ord k < ord w := (List.pairwise_cons.mp s.1).1
theorem sk_uniq : ∀ {ks ks' : List Nat}, SK ks → SK ks' → (∀ w, w ∈ ks ↔ w ∈ ks') → ks = ks' := by
  intro ks
  induction ks with
  | nil =>
    intro ks' _ _ h
    cases ks' with
    | nil => rfl
    | cons k ks' => exact absurd ((h k).mpr List.mem_cons_self) List.not_mem_nil
  | cons k ks ih =>
    intro ks' s s' h
    cases ks' with
    | nil => exact absurd ((h k).mp List.mem_cons_self) List.not_mem_nil
    | cons k' ks' =>
      have e : k = k' := by
        rcases List.mem_cons.mp ((h k).mp List.mem_cons_self) with q | q
        · exact q
        · rcases List.mem_cons.mp ((h k').mpr List.mem_cons_self) with r | r
          · exact r.symm
          · have := s'.head k q
            have := s.head k' r
            omega
      subst e
      rw [ih s.tail s'.tail (fun w => ?_)]
      constructor
      · intro hw
        rcases List.mem_cons.mp ((h w).mp (List.mem_cons_of_mem _ hw)) with q | q
        · subst q; have := s.head w hw; omega
        · exact q
      · intro hw
        rcases List.mem_cons.mp ((h w).mpr (List.mem_cons_of_mem _ hw)) with q | q
        · subst q; have := s'.head w hw; omega
        · exact q
theorem pos_le (ks : List Nat) (x : Nat) : pos ks x ≤ ks.length := List.countP_le_length
theorem pos_0 {ks : List Nat} {x : Nat} (h : ∀ w ∈ ks, ¬ ord w < x) : pos ks x = 0 := by
  unfold pos
  rw [List.countP_eq_zero]
  intro w hw
  rw [decide_eq_true_eq]
  exact h w hw
theorem pos_iff : ∀ {ks : List Nat} {x i : Nat}, SK ks → i < ks.length → (ord (ks.getD i 0) < x ↔ i < pos ks x) := by
  intro ks
  induction ks with
  | nil => intro x i _ h; exact absurd h (Nat.not_lt_zero _)
  | cons k ks ih =>
    intro x i s hi
    by_cases c : ord k < x
    · have e : pos (k :: ks) x = pos ks x + 1 := by
        unfold pos
        rw [List.countP_cons_of_pos (by rw [decide_eq_true_eq]; exact c)]
      rw [e]
      cases i with
      | zero => exact ⟨fun _ => Nat.succ_pos _, fun _ => c⟩
      | succ i =>
        have := ih (x := x) (i := i) s.tail (by simpa using hi)
        show ord (ks.getD i 0) < x ↔ _
        rw [this]
        omega
    · have e : pos (k :: ks) x = 0 := pos_0 (fun w hw => by
        rcases List.mem_cons.mp hw with q | q
        · subst q; exact c
        · have := s.head w q; omega)
      rw [e]
      constructor
      · intro q
        exfalso
        have hm : (k :: ks).getD i 0 ∈ k :: ks := mem_getD hi
        rcases List.mem_cons.mp hm with r | r
        · rw [r] at q; exact c q
        · have := s.head _ r; omega
      · intro q; exact absurd q (Nat.not_lt_zero _)
theorem mem_idx {ks : List Nat} {w : Nat} (h : w ∈ ks) : ∃ i, i < ks.length ∧ ks.getD i 0 = w := by
  obtain ⟨i, hi, e⟩ := List.getElem_of_mem h
  exact ⟨i, hi, by rw [List.getD_eq_getElem?_getD, List.getElem?_eq_getElem hi]; exact e⟩
theorem getD_g {ks : List Nat} {i : Nat} (h : i < ks.length) : ks.getD i 0 = ks[i] := by
  rw [List.getD_eq_getElem?_getD, List.getElem?_eq_getElem h]
  rfl
theorem sk_lt {ks : List Nat} (s : SK ks) {i j : Nat} (h : i < j) (hj : j < ks.length) : ord (ks.getD i 0) < ord (ks.getD j 0) := by
  rw [getD_g hj, getD_g (Nat.lt_trans h hj)]
  exact List.pairwise_iff_getElem.mp s.1 _ _ (Nat.lt_trans h hj) hj h
theorem pos_at {ks : List Nat} (s : SK ks) {i : Nat} (hi : i < ks.length) : pos ks (ord (ks.getD i 0)) = i := by
  have h1 : ¬ i < pos ks (ord (ks.getD i 0)) := fun q => Nat.lt_irrefl _ ((pos_iff s hi).mpr q)
  apply Nat.le_antisymm (Nat.le_of_not_lt h1)
  apply Nat.le_of_not_lt
  intro q
  have hq : pos ks (ord (ks.getD i 0)) < ks.length := by omega
  have h2 := (pos_iff (x := ord (ks.getD i 0)) s hq).mp
  by_cases c : ord (ks.getD (pos ks (ord (ks.getD i 0))) 0) < ord (ks.getD i 0)
  · exact Nat.lt_irrefl _ (h2 c)
  · have : pos ks (ord (ks.getD i 0)) < pos ks (ord (ks.getD i 0)) := by
      refine (pos_iff s hq).mp ?_
      exact sk_lt s q hi
    exact Nat.lt_irrefl _ this
theorem pos_has {ks : List Nat} (s : SK ks) {w : Nat} : (pos ks (ord w) < ks.length ∧ ks.getD (pos ks (ord w)) 0 = w) ↔ w ∈ ks := by
  constructor
  · intro ⟨h1, h2⟩
    rw [← h2]
    exact mem_getD h1
  · intro h
    obtain ⟨i, hi, rfl⟩ := mem_idx h
    rw [pos_at s hi]
    exact ⟨hi, rfl⟩
theorem insAt_len {ks : List Nat} {p w : Nat} (h : p ≤ ks.length) : (insAt ks p w).length = ks.length + 1 := by
  unfold insAt
  rw [List.length_append, List.length_take, List.length_cons, List.length_drop]
  omega
theorem getD_take {ks : List Nat} {p i : Nat} (h : i < p) : (ks.take p).getD i 0 = ks.getD i 0 := by
  rw [List.getD_eq_getElem?_getD, List.getD_eq_getElem?_getD, List.getElem?_take_of_lt h]
theorem insAt_getD {ks : List Nat} {p w : Nat} (h : p ≤ ks.length) (i : Nat) : (insAt ks p w).getD i 0 = if i < p then ks.getD i 0 else if i = p then w else ks.getD (i - 1) 0 := by
  unfold insAt
  have hl : (ks.take p).length = p := by rw [List.length_take]; omega
  by_cases c : i < p
  · rw [if_pos c, List.getD_eq_getElem?_getD, List.getElem?_append_left (by omega), ← List.getD_eq_getElem?_getD, getD_take c]
  · rw [if_neg c, List.getD_eq_getElem?_getD, List.getElem?_append_right (by omega), hl]
    by_cases d : i = p
    · rw [if_pos d, d, Nat.sub_self]
      rfl
    · rw [if_neg d, show i - p = (i - 1 - p) + 1 by omega, List.getElem?_cons_succ, List.getElem?_drop, List.getD_eq_getElem?_getD, show p + (i - 1 - p) = i - 1 by omega]
theorem insW_mem {ks : List Nat} {w v : Nat} : v ∈ insW ks w ↔ v = w ∨ v ∈ ks := by
  unfold insW
  by_cases c : w ∈ ks
  · rw [if_pos c]
    constructor
    · exact Or.inr
    · rintro (rfl | q)
      · exact c
      · exact q
  · rw [if_neg c]
    unfold insAt
    rw [List.mem_append, List.mem_cons]
    have : v ∈ ks ↔ v ∈ ks.take (pos ks (ord w)) ∨ v ∈ ks.drop (pos ks (ord w)) := by
      rw [← List.mem_append, List.take_append_drop]
    rw [this]
    constructor
    · rintro (q | q | q)
      · exact Or.inr (Or.inl q)
      · exact Or.inl q
      · exact Or.inr (Or.inr q)
    · rintro (q | q | q)
      · exact Or.inr (Or.inl q)
      · exact Or.inl q
      · exact Or.inr (Or.inr q)
theorem insW_len (ks : List Nat) (w : Nat) : (insW ks w).length ≤ ks.length + 1 := by
  unfold insW
  by_cases c : w ∈ ks
  · rw [if_pos c]; omega
  · rw [if_neg c, insAt_len (pos_le _ _)]; omega
theorem take_mem {ks : List Nat} {p v : Nat} (h : v ∈ ks.take p) : ∃ i, i < p ∧ i < ks.length ∧ ks.getD i 0 = v := by
  obtain ⟨i, hi, e⟩ := mem_idx h
  rw [List.length_take] at hi
  exact ⟨i, by omega, by omega, by rw [← getD_take (p := p) (by omega)]; exact e⟩
theorem drop_mem {ks : List Nat} {p v : Nat} (h : v ∈ ks.drop p) : ∃ i, p ≤ i ∧ i < ks.length ∧ ks.getD i 0 = v := by
  obtain ⟨i, hi, e⟩ := mem_idx h
  rw [List.length_drop] at hi
  refine ⟨p + i, by omega, by omega, ?_⟩
  rw [List.getD_eq_getElem?_getD, ← List.getElem?_drop, ← List.getD_eq_getElem?_getD]
  exact e
theorem SK.ins {ks : List Nat} (s : SK ks) {w : Nat} (hw : vword w = true) : SK (insW ks w) := by
  refine ⟨?_, fun v hv => ?_⟩
  · unfold insW
    by_cases c : w ∈ ks
    · rw [if_pos c]; exact s.1
    · rw [if_neg c]
      unfold insAt
      have a1 : ∀ v ∈ ks.take (pos ks (ord w)), ord v < ord w := fun v hv => by
        obtain ⟨i, h1, h2, rfl⟩ := take_mem hv
        exact (pos_iff s h2).mpr h1
      have a2 : ∀ v ∈ ks.drop (pos ks (ord w)), ord w < ord v := fun v hv => by
        obtain ⟨i, h1, h2, rfl⟩ := drop_mem hv
        have h3 : ¬ ord (ks.getD i 0) < ord w := fun q => by have := (pos_iff s h2).mp q; omega
        have h4 : ord w ≠ ord (ks.getD i 0) := fun q => c (by
          rw [ord_inj hw (s.2 _ (mem_getD h2)) q]
          exact mem_getD h2)
        omega
      rw [List.pairwise_append, List.pairwise_cons]
      refine ⟨s.1.sublist (List.take_sublist _ _), ⟨a2, s.1.sublist (List.drop_sublist _ _)⟩, fun v hv u hu => ?_⟩
      rcases List.mem_cons.mp hu with q | q
      · subst q; exact a1 v hv
      · exact Nat.lt_trans (a1 v hv) (a2 u q)
  · rcases insW_mem.mp hv with q | q
    · subst q; exact hw
    · exact s.2 v q
