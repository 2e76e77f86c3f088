/-! WHAT THE GRAMMAR TAKES of the tape -/
def okPS (bs : List Nat) (s : PS) : Prop := s.1 ≤ bs.length ∧ s.2 ≤ 20
def PFr (bs : List Nat) {α : Type} (S : α → Nat) (s : PS) (r : PR α) : Prop := match r with
  | .inl e => e ≤ bs.length
  | .inr (x, s') => s.1 < s'.1 ∧ s'.1 ≤ bs.length ∧ s.2 < s'.2 ∧ s'.2 ≤ 20 ∧ s.1 + S x ≤ s'.1
def PF (bs : List Nat) {n : Nat} (p : PS → PR (QT n)) : Prop := ∀ s, okPS bs s → PFr bs (sz n) s (p s)
theorem okPS.n {bs : List Nat} {s : PS} (o : okPS bs s) : okPS bs (nT bs s) := ⟨(nT_le o.1).2.1, (nT_2 o.1 o.2).2.1⟩
theorem nT_w {bs : List Nat} {s : PS} (h : kT bs s = 2) : (nT bs s).2 = s.2 + 1 := if_pos h
theorem nT_n {bs : List Nat} {s : PS} (h : kT bs s ≠ 2) : (nT bs s).2 = s.2 := if_neg h
theorem rowP_PF {bs : List Nat} (s0 : PS) : ∀ (f : Nat) (s : PS) (ws : List Nat), okPS bs s → s0.1 < s.1 → (ws ≠ [] → s0.2 < s.2) → s0.2 ≤ s.2 → PFr bs (fun _ => 1) s0 (rowP bs f s ws) := by
  have fin : ∀ (s : PS) (ws : List Nat), okPS bs s → s0.1 < s.1 → (ws ≠ [] → s0.2 < s.2) → PFr bs (fun _ => 1) s0 (if ws = [] ∨ kT bs s ≠ 93 then .inl (aT bs s) else .inr (((3, ws, 0) : L3), nT bs s)) := by
    intro s ws o h1 h2
    by_cases z : ws = [] ∨ kT bs s ≠ 93
    · rw [if_pos z]
      exact (aT_le o.1).2
    · rw [if_neg z]
      have z1 : ws ≠ [] := fun y => z (Or.inl y)
      have z2 : kT bs s = 93 := Classical.byContradiction (fun y => z (Or.inr y))
      have a := nT_le o.1
      have b := o.n
      have e := nT_n (s := s) (bs := bs) (by omega)
      have := h2 z1
      have := a.2.2 (by omega)
      exact ⟨by omega, b.1, by omega, b.2, (show s0.1 + 1 ≤ (nT bs s).1 by omega)⟩
  intro f
  induction f with
  | zero => exact fun s ws o h1 h2 _ => fin s ws o h1 h2
  | succ f ih =>
    intro s ws o h1 h2 h3
    rw [rowP]
    by_cases z : kT bs s = 2
    · rw [if_pos z]
      have a := (nT_le o.1).2.2 (by omega)
      have e := nT_w z
      exact ih (nT bs s) _ o.n (by omega) (fun _ => by omega) (by omega)
    · rw [if_neg z]
      exact fin s ws o h1 h2
theorem simP_PF {bs : List Nat} : PF bs (n := 0) (simP bs) := by
  intro s o
  show PFr bs (fun _ => 1) s (simP bs s)
  unfold simP
  by_cases z : kT bs s = 2
  · rw [if_pos z]
    have o1 := o.n
    have o2 := o1.n
    have o3 := o2.n
    have o4 := o3.n
    have a1 := (nT_le o.1).2.2 (by omega)
    have e1 := nT_w z
    have a2 := (nT_le o1.1).1
    have a2' := (aT_le o1.1).1
    have a3 := (nT_le o2.1).1
    have a3' := (aT_le o2.1).1
    have a4 := (nT_le o3.1).1
    have a4' := (aT_le o3.1).1
    unfold wrdP
    by_cases y1 : kT bs (nT bs s) = 42
    · rw [if_pos y1]
      have e2 := nT_n (s := nT bs s) (bs := bs) (by omega)
      exact ⟨by omega, o2.1, by omega, o2.2, (show s.1 + 1 ≤ (nT bs (nT bs s)).1 by omega)⟩
    · rw [if_neg y1]
      by_cases y2 : kT bs (nT bs s) = 126
      · rw [if_pos y2]
        have e2 := nT_n (s := nT bs s) (bs := bs) (by omega)
        by_cases y3 : kT bs (nT bs (nT bs s)) = 3
        · rw [if_pos y3]
          have e3 := nT_n (s := nT bs (nT bs s)) (bs := bs) (by omega)
          by_cases y4 : kT bs (nT bs (nT bs (nT bs s))) = 2
          · rw [if_pos y4]
            have e4 := nT_w y4
            exact ⟨by omega, o4.1, by omega, o4.2, (show s.1 + 1 ≤ (nT bs (nT bs (nT bs (nT bs s)))).1 by omega)⟩
          · rw [if_neg y4]
            exact (aT_le o3.1).2
        · rw [if_neg y3]
          exact (aT_le o2.1).2
      · rw [if_neg y2]
        exact ⟨a1, o1.1, by omega, o1.2, (show s.1 + 1 ≤ (nT bs s).1 by omega)⟩
  · rw [if_neg z]
    by_cases y : kT bs s = 91
    · rw [if_pos y]
      have a := (nT_le o.1).2.2 (by omega)
      have e := nT_n (s := s) (bs := bs) z
      exact rowP_PF s 20 (nT bs s) [] o.n a (fun q => absurd rfl q) (by omega)
    · rw [if_neg y]
      exact (aT_le o.1).2
/-- a list of parts takes as many bytes, and the signs between -/
def szL {n : Nat} (xs : List (QT n)) : Nat := (xs.map (sz n)).sum + (xs.length - 1)
theorem jnT_PF {bs : List Nat} {n sg : Nat} (hs : 3 < sg) {p : PS → PR (QT n)} (P : PF bs p) (s0 : PS) : ∀ (f : Nat) (s : PS) (xs : List (QT n)), okPS bs s → s0.1 + szL xs ≤ s.1 → s0.1 < s.1 → s0.2 < s.2 → xs ≠ [] → PFr bs szL s0 (jnT bs sg p f s xs) ∧ ∀ ys s', jnT bs sg p f s xs = .inr (ys, s') → ys ≠ [] := by
  intro f
  induction f with
  | zero => exact fun s xs o h1 h2 h3 h4 => ⟨⟨h2, o.1, h3, o.2, h1⟩, fun ys s' q => by cases q; exact h4⟩
  | succ f ih =>
    intro s xs o h1 h2 h3 h4
    unfold jnT
    by_cases z : kT bs s = sg
    · rw [if_pos z]
      have a1 := (nT_le o.1).2.2 (by omega)
      have e1 := nT_n (s := s) (bs := bs) (by omega)
      have r := P (nT bs s) o.n
      cases e : p (nT bs s) with
      | inl v => rw [e] at r; exact ⟨r, fun _ _ q => nomatch q⟩
      | inr v =>
        rw [e] at r
        obtain ⟨r1, r2, r3, r4, r5⟩ := r
        refine ih v.2 (xs ++ [v.1]) ⟨r2, r4⟩ ?_ (by omega) (by omega) (by simp)
        have lp : 0 < xs.length := List.length_pos_iff.mpr h4
        unfold szL at h1 ⊢
        rw [List.map_append, List.sum_append, List.length_append]
        show s0.1 + ((xs.map (sz n)).sum + (sz n v.1 + 0) + (xs.length + 1 - 1)) ≤ v.2.1
        omega
    · rw [if_neg z]
      exact ⟨⟨h2, o.1, h3, o.2, h1⟩, fun ys s' q => by cases q; exact h4⟩
theorem jnP_PF {bs : List Nat} {n sg : Nat} (hs : 3 < sg) {p : PS → PR (QT n)} (P : PF bs p) (f : Nat) (s : PS) (o : okPS bs s) : PFr bs szL s (jnP bs sg p f s) ∧ ∀ xs s', jnP bs sg p f s = .inr (xs, s') → xs ≠ [] := by
  rw [jnP_T]
  have h := P s o
  cases e : p s with
  | inl v => rw [e] at h; exact ⟨h, fun _ _ q => nomatch q⟩
  | inr v =>
    rw [e] at h
    obtain ⟨h1, h2, h3, h4, h5⟩ := h
    exact jnT_PF hs P s f v.2 [v.1] ⟨h2, h4⟩ (by show s.1 + (sz n v.1 + 0 + (1 - 1)) ≤ v.2.1; omega) h1 h3 (List.cons_ne_nil _ _)
theorem mkJ_sz {n kd : Nat} : ∀ {xs : List (QT n)}, xs ≠ [] → sz (n + 1) (mkJ kd n xs) ≤ szL xs
  | [], h => absurd rfl h
  | [x], _ => by
    show sz (n + 1) (lft n x) ≤ sz n x + 0 + (1 - 1)
    rw [lft_sz]; omega
  | x :: y :: r, _ => by
    show ((x :: y :: r).map (sz n)).sum + 1 ≤ ((x :: y :: r).map (sz n)).sum + (r.length + 2 - 1)
    omega
theorem join_PF {bs : List Nat} {n sg kd : Nat} (hs : 3 < sg) {p : PS → PR (QT n)} (P : PF bs p) : PF bs (fun s => mapR (mkJ kd n) (jnP bs sg p 20 s)) := by
  intro s o
  obtain ⟨h, ne⟩ := jnP_PF hs P 20 s o
  show PFr bs (sz (n + 1)) s (mapR (mkJ kd n) (jnP bs sg p 20 s))
  cases e : jnP bs sg p 20 s with
  | inl v => rw [e] at h; exact h
  | inr v =>
    rw [e] at h
    obtain ⟨h1, h2, h3, h4, h5⟩ := h
    have := mkJ_sz (kd := kd) (ne v.1 v.2 e)
    exact ⟨h1, h2, h3, h4, Nat.le_trans (Nat.add_le_add_left this _) h5⟩
theorem bthP_PF {bs : List Nat} {n : Nat} {p : PS → PR (QT n)} (P : PF bs p) : PF bs (bthP bs p) := join_PF (by decide) P
theorem qryP_PF {bs : List Nat} {n : Nat} {p : PS → PR (QT n)} (P : PF bs p) : PF bs (qryP bs p) := join_PF (by decide) (bthP_PF P)
theorem plnP_PF {bs : List Nat} : ∀ k : Nat, PF bs (plnP bs k)
  | 0 => simP_PF
  | k + 1 => by
    intro s o
    show PFr bs (sz (lv k + 2)) s (if kT bs s = 33 then mapR (fun x => lft (lv k + 1) (.inr (4, [x]))) (plnP bs k (nT bs s)) else if kT bs s = 40 then clsP bs (qryP bs (plnP bs k) (nT bs s)) else mapR (fun l => (.inl l : L3 ⊕ (Nat × List (QT (lv k + 1))))) (simP bs s))
    by_cases z : kT bs s = 33
    · rw [if_pos z]
      have a1 := (nT_le o.1).2.2 (by omega)
      have e1 := nT_n (s := s) (bs := bs) (by omega)
      have r := plnP_PF k (nT bs s) o.n
      cases e : plnP bs k (nT bs s) with
      | inl v => rw [e] at r; exact r
      | inr v =>
        rw [e] at r
        obtain ⟨h1, h2, h3, h4, h5⟩ := r
        refine ⟨by omega, h2, by omega, h4, ?_⟩
        refine Nat.le_trans (Nat.add_le_add_left (Nat.le_of_eq (lft_sz (lv k + 1) (.inr (4, [v.1]) : L3 ⊕ (Nat × List (QT (lv k)))))) _) ?_
        show s.1 + (sz (lv k) v.1 + 0 + 1) ≤ v.2.1
        omega
    · rw [if_neg z]
      by_cases y : kT bs s = 40
      · rw [if_pos y]
        have a1 := (nT_le o.1).2.2 (by omega)
        have e1 := nT_n (s := s) (bs := bs) (by omega)
        have r := qryP_PF (plnP_PF k) (nT bs s) o.n
        cases e : qryP bs (plnP bs k) (nT bs s) with
        | inl v => rw [e] at r; exact r
        | inr v =>
          rw [e] at r
          obtain ⟨h1, h2, h3, h4, h5⟩ := r
          show PFr bs (sz (lv k + 2)) s (if kT bs v.2 = 41 then .inr (v.1, nT bs v.2) else .inl (aT bs v.2))
          have o2 : okPS bs v.2 := ⟨h2, h4⟩
          by_cases x : kT bs v.2 = 41
          · rw [if_pos x]
            have a2 := (nT_le o2.1).2.2 (by omega)
            have e2 := nT_n (s := v.2) (bs := bs) (by omega)
            have o3 := o2.n
            exact ⟨by omega, o3.1, by omega, o3.2, by omega⟩
          · rw [if_neg x]
            exact (aT_le o2.1).2
      · rw [if_neg y]
        have r := simP_PF (bs := bs) s o
        cases e : simP bs s with
        | inl v => rw [e] at r; exact r
        | inr v => rw [e] at r; exact r
