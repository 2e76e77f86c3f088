/-! NEGATION: what it makes of a query, and what it does not raise -/
def lf0 : (n : Nat) → L3 → QT n
  | 0, l => l
  | _ + 1, l => .inl l
def ngq : (n : Nat) → QT n → QT n
  | 0, l => l
  | n + 1, q => match (q : L3 ⊕ (Nat × List (QT n))) with
    | .inl l => .inr (4, [lf0 n l])
    | .inr p => if p.1 = 4 then (match p.2 with
      | [] => .inr p
      | c :: _ => lft n c) else .inr (if p.1 = 5 then 6 else 5, p.2.map (ngq n))
/-- no simple part lies at the bottom, but under a ! -/
def gdq : (n : Nat) → QT n → Prop
  | 0, _ => False
  | n + 1, q => match (q : L3 ⊕ (Nat × List (QT n))) with
    | .inl _ => True
    | .inr p => p.1 = 4 ∨ ∀ c ∈ p.2, gdq n c
/-- the nodes, each simple part with a ! on it -/
def msz : (n : Nat) → QT n → Nat
  | 0, _ => 2
  | n + 1, q => match (q : L3 ⊕ (Nat × List (QT n))) with
    | .inl _ => 2
    | .inr p => if p.1 = 4 ∧ p.2.all (fun c => decide (knd n c < 4)) = true then 2 else (p.2.map (msz n)).sum + 1
theorem ngq_4 (n : Nat) (c : QT n) : ngq (n + 1) (.inr (4, [c])) = lft n c := rfl
theorem ngq_j (n : Nat) {k : Nat} (h : k ≠ 4) (cs : List (QT n)) : ngq (n + 1) (.inr (k, cs)) = .inr (if k = 5 then 6 else 5, cs.map (ngq n)) := if_neg h
theorem lft_knd : ∀ (n : Nat) (q : QT n), knd (n + 1) (lft n q) = knd n q
  | 0, _ => rfl
  | _ + 1, .inl _ => rfl
  | _ + 1, .inr _ => rfl
theorem lf0_knd (n : Nat) (l : L3) : knd n (lf0 n l) = l.1 := by cases n <;> rfl
theorem lf0_wsm (n : Nat) (l : L3) : wsm n (lf0 n l) = l.2.1.length := by cases n <;> rfl
theorem lf0_wf {n : Nat} {l : L3} (h : okL3 l) : wfq n (lf0 n l) := by cases n <;> exact h
theorem lf0_QC {h : PH} {D : Nat → Prop} {n : Nat} {l : L3} {a : Nat} (L : LfD h D a l) : QC h D n (lf0 n l) a := by cases n <;> exact L
theorem lft_msz : ∀ (n : Nat) (q : QT n), msz (n + 1) (lft n q) = msz n q
  | 0, _ => rfl
  | _ + 1, .inl _ => rfl
  | n + 1, .inr p => by
    show (if p.1 = 4 ∧ (p.2.map (lft n)).all (fun c => decide (knd (n + 1) c < 4)) = true then 2 else ((p.2.map (lft n)).map (msz (n + 1))).sum + 1) = (if p.1 = 4 ∧ p.2.all (fun c => decide (knd n c < 4)) = true then 2 else (p.2.map (msz n)).sum + 1)
    have e1 : (p.2.map (lft n)).all (fun c => decide (knd (n + 1) c < 4)) = p.2.all (fun c => decide (knd n c < 4)) := by
      rw [List.all_map]
      congr 1
      funext c
      show decide (knd (n + 1) (lft n c) < 4) = _
      rw [lft_knd]
    have e2 : ((p.2.map (lft n)).map (msz (n + 1))).sum = (p.2.map (msz n)).sum := by
      rw [List.map_map]
      congr 1
      exact List.map_congr_left (fun c _ => lft_msz n c)
    rw [e1, e2]
theorem leaf_sz : ∀ (n : Nat) (q : QT n), wfq n q → knd n q < 4 → msz n q = 2 ∧ sz n q = 1
  | 0, _, _, _ => ⟨rfl, rfl⟩
  | _ + 1, .inl _, _, _ => ⟨rfl, rfl⟩
  | _ + 1, .inr p, w, k => by
    exfalso
    have k : p.1 < 4 := k
    rcases w.1 with ⟨r, -⟩ | ⟨r, -⟩ <;> omega
theorem msz_bd : ∀ (n : Nat) (q : QT n), wfq n q → sz n q ≤ msz n q ∧ msz n q ≤ sz n q + wsm n q
  | 0, l, w => by
    have := (okL.len (show okL3 l from w)).1
    show 1 ≤ 2 ∧ 2 ≤ 1 + (l : L3).2.1.length
    omega
  | _ + 1, .inl l, w => by
    have := (okL.len (show okL3 l from w)).1
    show 1 ≤ 2 ∧ 2 ≤ 1 + l.2.1.length
    omega
  | n + 1, .inr p, w => by
    obtain ⟨w1, w2, w3⟩ := w
    have h1 := sum_le (sz n) (msz n) p.2 (fun c hc => (msz_bd n c (w3 c hc)).1)
    have h2 := sum_le (msz n) (fun c => sz n c + wsm n c) p.2 (fun c hc => (msz_bd n c (w3 c hc)).2)
    rw [sum_add] at h2
    show (p.2.map (sz n)).sum + 1 ≤ (if p.1 = 4 ∧ p.2.all (fun c => decide (knd n c < 4)) = true then 2 else (p.2.map (msz n)).sum + 1) ∧ (if p.1 = 4 ∧ p.2.all (fun c => decide (knd n c < 4)) = true then 2 else (p.2.map (msz n)).sum + 1) ≤ (p.2.map (sz n)).sum + 1 + (p.2.map (wsm n)).sum
    by_cases z : p.1 = 4 ∧ p.2.all (fun c => decide (knd n c < 4)) = true
    · rw [if_pos z]
      rcases w1 with ⟨-, l1⟩ | ⟨r, -⟩
      · obtain ⟨c, hc⟩ := List.length_eq_one_iff.mp l1
        have kc : knd n c < 4 := of_decide_eq_true (List.all_eq_true.mp z.2 c (by rw [hc]; exact List.mem_cons_self))
        have := (leaf_sz n c (w3 c (by rw [hc]; exact List.mem_cons_self)) kc).2
        rw [hc]
        show sz n c + 0 + 1 ≤ 2 ∧ 2 ≤ sz n c + 0 + 1 + _
        omega
      · omega
    · rw [if_neg z]
      omega
theorem ngq_msz : ∀ (n : Nat) (q : QT n), wfq n q → msz n (ngq n q) ≤ msz n q
  | 0, _, _ => Nat.le_refl _
  | n + 1, .inl l, w => by
    have w : okL3 l := w
    have kl : knd n (lf0 n l) < 4 := by rw [lf0_knd]; exact w.1
    show (if 4 = 4 ∧ ([lf0 n l] : List (QT n)).all (fun c => decide (knd n c < 4)) = true then 2 else _) ≤ 2
    rw [if_pos ⟨rfl, by rw [List.all_cons, decide_eq_true kl]; rfl⟩]
    exact Nat.le_refl 2
  | n + 1, .inr ⟨k, cs⟩, w => by
    obtain ⟨w1, w2, w3⟩ := w
    by_cases z : k = 4
    · subst z
      rcases w1 with ⟨-, l1⟩ | ⟨r, -⟩
      · obtain ⟨c, hc⟩ := List.length_eq_one_iff.mp l1
        have hc : cs = [c] := hc
        subst hc
        rw [ngq_4, lft_msz]
        show msz n c ≤ (if 4 = 4 ∧ ([c] : List (QT n)).all (fun c => decide (knd n c < 4)) = true then 2 else msz n c + 0 + 1)
        by_cases y : knd n c < 4
        · rw [if_pos ⟨rfl, by rw [List.all_cons, decide_eq_true y]; rfl⟩, (leaf_sz n c (w3 c List.mem_cons_self) y).1]
          exact Nat.le_refl 2
        · rw [if_neg (fun t => y (by
            have := t.2
            rw [List.all_cons, Bool.and_eq_true] at this
            exact of_decide_eq_true this.1))]
          omega
      · exact r.elim (fun r => absurd (show (4 : Nat) = 5 from r) (by decide)) (fun r => absurd (show (4 : Nat) = 6 from r) (by decide))
    · rw [ngq_j n z]
      have z2 : (if k = 5 then 6 else 5 : Nat) ≠ 4 := by split <;> decide
      show (if (if k = 5 then 6 else 5 : Nat) = 4 ∧ (cs.map (ngq n)).all (fun c => decide (knd n c < 4)) = true then 2 else ((cs.map (ngq n)).map (msz n)).sum + 1) ≤ (if k = 4 ∧ cs.all (fun c => decide (knd n c < 4)) = true then 2 else (cs.map (msz n)).sum + 1)
      rw [if_neg (fun t => z2 t.1), if_neg (fun t => z t.1), List.map_map]
      have := sum_le (msz n ∘ ngq n) (msz n) cs (fun c hc => ngq_msz n c (w3 c hc))
      omega
theorem ngq_wf : ∀ (n : Nat) (q : QT n), wfq n q → wfq n (ngq n q)
  | 0, _, w => w
  | n + 1, .inl l, w => ⟨Or.inl ⟨rfl, rfl⟩, (show 1 ≤ 20 by decide), fun c hc => by
    rw [List.mem_singleton.mp (show c ∈ [lf0 n l] from hc)]
    exact lf0_wf w⟩
  | n + 1, .inr ⟨k, cs⟩, w => by
    obtain ⟨w1, w2, w3⟩ := w
    by_cases z : k = 4
    · subst z
      rcases w1 with ⟨-, l1⟩ | ⟨r, -⟩
      · obtain ⟨c, hc⟩ := List.length_eq_one_iff.mp l1
        have hc : cs = [c] := hc
        subst hc
        rw [ngq_4]
        exact lft_wf n c (w3 c List.mem_cons_self)
      · exact r.elim (fun r => absurd (show (4 : Nat) = 5 from r) (by decide)) (fun r => absurd (show (4 : Nat) = 6 from r) (by decide))
    · rw [ngq_j n z]
      have w2 : cs.length ≤ 20 := w2
      have l2 : 2 ≤ cs.length := by
        rcases w1 with ⟨r, -⟩ | ⟨-, r⟩
        · exact absurd r z
        · exact r
      refine ⟨Or.inr ⟨?_, ?_⟩, ?_, fun c hc => ?_⟩
      · show (if k = 5 then 6 else 5 : Nat) = 5 ∨ (if k = 5 then 6 else 5 : Nat) = 6
        by_cases y : k = 5
        · rw [if_pos y]; exact Or.inr rfl
        · rw [if_neg y]; exact Or.inl rfl
      · show 2 ≤ (cs.map (ngq n)).length
        rw [List.length_map]; exact l2
      · show (cs.map (ngq n)).length ≤ 20
        rw [List.length_map]; exact w2
      · obtain ⟨d, hd, rfl⟩ := List.mem_map.mp (show c ∈ cs.map (ngq n) from hc)
        exact ngq_wf n d (w3 d hd)
theorem ngq_wsm : ∀ (n : Nat) (q : QT n), wfq n q → wsm n (ngq n q) = wsm n q
  | 0, _, _ => rfl
  | n + 1, .inl l, w => by
    show wsm n (lf0 n l) + 0 = l.2.1.length
    rw [lf0_wsm]; rfl
  | n + 1, .inr ⟨k, cs⟩, w => by
    obtain ⟨w1, w2, w3⟩ := w
    by_cases z : k = 4
    · subst z
      rcases w1 with ⟨-, l1⟩ | ⟨r, -⟩
      · obtain ⟨c, hc⟩ := List.length_eq_one_iff.mp l1
        have hc : cs = [c] := hc
        subst hc
        rw [ngq_4, lft_wsm]
        rfl
      · exact r.elim (fun r => absurd (show (4 : Nat) = 5 from r) (by decide)) (fun r => absurd (show (4 : Nat) = 6 from r) (by decide))
    · rw [ngq_j n z]
      show ((cs.map (ngq n)).map (wsm n)).sum = (cs.map (wsm n)).sum
      rw [List.map_map]
      congr 1
      exact List.map_congr_left (fun c hc => ngq_wsm n c (w3 c hc))
theorem lft_gdq : ∀ (n : Nat) (q : QT n), gdq (n + 1) (lft n q)
  | 0, _ => trivial
  | _ + 1, .inl _ => trivial
  | n + 1, .inr p => Or.inr (fun c hc => by
    obtain ⟨d, hd, rfl⟩ := List.mem_map.mp (show c ∈ p.2.map (lft n) from hc)
    exact lft_gdq n d)
theorem ngq_gdq : ∀ (n : Nat) (q : QT n), wfq n q → gdq n q → gdq n (ngq n q)
  | 0, _, _, g => g
  | n + 1, .inl l, w, _ => Or.inl rfl
  | n + 1, .inr ⟨k, cs⟩, w, g => by
    obtain ⟨w1, w2, w3⟩ := w
    by_cases z : k = 4
    · subst z
      rcases w1 with ⟨-, l1⟩ | ⟨r, -⟩
      · obtain ⟨c, hc⟩ := List.length_eq_one_iff.mp l1
        have hc : cs = [c] := hc
        subst hc
        rw [ngq_4]
        exact lft_gdq n c
      · exact r.elim (fun r => absurd (show (4 : Nat) = 5 from r) (by decide)) (fun r => absurd (show (4 : Nat) = 6 from r) (by decide))
    · rw [ngq_j n z]
      rcases g with g | g
      · exact absurd g z
      · exact Or.inr (fun c hc => by
          obtain ⟨d, hd, rfl⟩ := List.mem_map.mp (show c ∈ cs.map (ngq n) from hc)
          exact ngq_gdq n d (w3 d hd) (g d hd))
/-- what holds of every kept query -/
def OKK (Q : QT 27) : Prop := wsm 27 Q ≤ 20 ∧ msz 27 Q ≤ 400 ∧ gdq 27 Q
theorem OKK.neg {Q : QT 27} (K : OKK Q) (w : wfq 27 Q) : OKK (ngq 27 Q) := ⟨by rw [ngq_wsm 27 Q w]; exact K.1, Nat.le_trans (ngq_msz 27 Q w) K.2.1, ngq_gdq 27 Q w K.2.2⟩
theorem OKK.szl {Q : QT 27} (K : OKK Q) (w : wfq 27 Q) : sz 27 Q ≤ 400 := Nat.le_trans (msz_bd 27 Q w).1 K.2.1
theorem OKK.prs {bs : List Nat} {Q : QT 27} (e : prsP bs = .inr Q) (w : wfq 27 Q) (h1 : wsm 27 Q ≤ 20) (h2 : sz 27 Q ≤ 300) : OKK Q := by
  have := (msz_bd 27 Q w).2
  refine ⟨h1, by omega, ?_⟩
  unfold prsP at e
  cases r : qryP bs (plnP bs 8) (0, 0) with
  | inl v => rw [r] at e; cases e
  | inr v =>
    rw [r] at e
    have e : (if kT bs v.2 = 0 then (.inr (lftN 9 18 v.1) : Nat ⊕ QT 27) else .inl (aT bs v.2)) = .inr Q := e
    by_cases z : kT bs v.2 = 0
    · rw [if_pos z] at e
      have e : lftN 9 18 v.1 = Q := Sum.inr.inj e
      rw [← e]
      exact lft_gdq 26 (lftN 8 18 v.1)
    · rw [if_neg z] at e; cases e
