/-! QUERIES in the reference's blocks: a tree's nodes lie one behind another, what joins parts behind them -/
def sz : (n : Nat) → QT n → Nat
  | 0, _ => 1
  | n + 1, q => match (q : (Nat × List Nat × Nat) ⊕ (Nat × List (QT n))) with
    | .inl _ => 1
    | .inr p => (p.2.map (sz n)).sum + 1
theorem sz_pos : ∀ (n : Nat) (q : QT n), 0 < sz n q
  | 0, _ => Nat.one_pos
  | _ + 1, .inl _ => Nat.one_pos
  | _ + 1, .inr _ => Nat.succ_pos _
/-- a property of the parts of a node, from lo on -/
def atL {α : Type} (S : α → Nat) (R : α → Nat → Prop) : List α → Nat → Prop
  | [], _ => True
  | c :: cs, lo => R c lo ∧ atL S R cs (lo + S c)
/-- the links of the parts: fr leads to the first one's root -/
def lnk {α : Type} (S : α → Nat) (nx : Nat → Int32) : List α → Nat → Int32 → Prop
  | [], _, fr => fr = -1
  | c :: cs, lo, fr => fr = nI (lo + S c - 1) ∧ lnk S nx cs (lo + S c) (nx (lo + S c - 1))
def LfM3 (h : PH) (q lo : Nat) (l : Nat × List Nat × Nat) : Prop := LfM h q lo l.1 l.2.1 l.2.2 ∧ hI h 20 64 (400 * q + lo) = -1
/-- a query in block q, its first node at lo -/
def QM (h : PH) (q : Nat) : (n : Nat) → QT n → Nat → Prop
  | 0, l, lo => LfM3 h q lo l
  | n + 1, t, lo => match (t : (Nat × List Nat × Nat) ⊕ (Nat × List (QT n))) with
    | .inl l => LfM3 h q lo l
    | .inr p => atL (sz n) (QM h q n) p.2 lo ∧ hI h 20 60 (400 * q + (lo + (p.2.map (sz n)).sum)) = nI p.1 ∧ lnk (sz n) (fun i => hI h 20 65 (400 * q + i)) p.2 lo (hI h 20 64 (400 * q + (lo + (p.2.map (sz n)).sum)))
/-- its simple parts are worked out -/
def LH (T : List Nat) (h : PH) : (n : Nat) → QT n → Nat → Prop
  | 0, l, lo => hI h 21 77 lo = bI (decide (0 < cntL3 T l))
  | n + 1, t, lo => match (t : (Nat × List Nat × Nat) ⊕ (Nat × List (QT n))) with
    | .inl l => hI h 21 77 lo = bI (decide (0 < cntL3 T l))
    | .inr p => atL (sz n) (LH T h n) p.2 lo
theorem atL.imp {α : Type} {S : α → Nat} {R R' : α → Nat → Prop} : ∀ {cs : List α} {lo : Nat}, (∀ c ∈ cs, ∀ l, lo ≤ l → l + S c ≤ lo + (cs.map S).sum → R c l → R' c l) → atL S R cs lo → atL S R' cs lo
  | [], _, _, _ => trivial
  | c :: cs, lo, h, a => by
    refine ⟨h c List.mem_cons_self lo (Nat.le_refl _) ?_ a.1, atL.imp (fun d hd l h1 h2 => h d (List.mem_cons_of_mem _ hd) l (by omega) ?_) a.2⟩
    · rw [List.map_cons, List.sum_cons]; omega
    · rw [List.map_cons, List.sum_cons]; omega
def isHo (c a k : Nat) : Bool := c == 21 && a == 77
theorem isHo77 (k : Nat) : isHo 21 77 k = true := rfl
theorem isHo_scr {c a k : Nat} (e : isHo c a k = true) : isScr c a k = true := by
  unfold isHo at e
  rw [Bool.and_eq_true, beq_iff_eq, beq_iff_eq] at e
  obtain ⟨rfl, rfl⟩ := e
  unfold isScr
  rfl
/-- what a block's queries say of the cells 60 .. 66 alone -/
theorem LfM3.of {h h' : PH} {q lo : Nat} {l : Nat × List Nat × Nat} (L : LfM3 h q lo l) (s : ∀ a k, 60 ≤ a → a ≤ 66 → hI h' 20 a k = hI h 20 a k) : LfM3 h' q lo l := by
  obtain ⟨⟨l1, l2, l3, l4⟩, l5⟩ := L
  refine ⟨⟨(s _ _ (by decide) (by decide)).trans l1, fun k => (s _ _ (by decide) (by decide)).trans (l2 k), fun k => ⟨(s _ _ (by decide) (by decide)).trans (l3 k).1, (s _ _ (by decide) (by decide)).trans (l3 k).2⟩, fun k => ?_⟩, (s _ _ (by decide) (by decide)).trans l5⟩
  obtain ⟨fr, f1, f2, f3, f4⟩ := l4 k
  exact ⟨fr, (s _ _ (by decide) (by decide)).trans f1, (s _ _ (by decide) (by decide)).trans f2, f3, fun i hi => (s _ _ (by decide) (by decide)).trans (f4 i hi)⟩
theorem lnk_of {α : Type} {S : α → Nat} {nx nx' : Nat → Int32} (e : ∀ i, nx' i = nx i) : ∀ {cs : List α} {lo : Nat} {fr : Int32}, lnk S nx cs lo fr → lnk S nx' cs lo fr
  | [], _, _, h => h
  | c :: cs, lo, fr, h => ⟨h.1, by rw [e]; exact lnk_of e h.2⟩
theorem QM.of {h h' : PH} {q : Nat} (s : ∀ a k, 60 ≤ a → a ≤ 66 → hI h' 20 a k = hI h 20 a k) : ∀ (n : Nat) (t : QT n) (lo : Nat), QM h q n t lo → QM h' q n t lo
  | 0, _, _, L => LfM3.of L s
  | _ + 1, .inl l, lo, L => LfM3.of (show LfM3 h q lo l from L) s
  | n + 1, .inr p, lo, L => by
    obtain ⟨h1, h2, h3⟩ := L
    refine ⟨atL.imp (fun c _ l _ _ r => QM.of s n c l r) h1, (s _ _ (by decide) (by decide)).trans h2, ?_⟩
    show lnk (sz n) (fun i => hI h' 20 65 (400 * q + i)) p.2 lo (hI h' 20 64 (400 * q + (lo + (p.2.map (sz n)).sum)))
    rw [s 64 _ (by decide) (by decide)]
    exact lnk_of (fun i => s 65 _ (by decide) (by decide)) h3
theorem LH.of {T : List Nat} {h h' : PH} : ∀ (n : Nat) (t : QT n) (lo : Nat), (∀ k, lo ≤ k → k < lo + sz n t → hI h' 21 77 k = hI h 21 77 k) → LH T h n t lo → LH T h' n t lo
  | 0, _, lo, s, L => (s lo (Nat.le_refl _) (Nat.lt_succ_self _)).trans L
  | _ + 1, .inl l, lo, s, L => (s lo (Nat.le_refl _) (Nat.lt_succ_self _)).trans L
  | n + 1, .inr p, lo, s, L => by
    have L : atL (sz n) (LH T h n) p.2 lo := L
    show atL (sz n) (LH T h' n) p.2 lo
    refine atL.imp (fun c _ l h1 h2 r => LH.of n c l (fun k k1 k2 => s k (by omega) ?_) r) L
    show k < lo + ((p.2.map (sz n)).sum + 1)
    omega
/-- from node a to node b of a loop over the nodes: the heap then, what stands then -/
def goes {ρ : Type} (c : Int32 × PH → Option ((Int32 × PH) ⊕ ρ)) (a b : Nat) (g g' : PH) : Prop := ∀ r, wh c (nI b, g') = some r → wh c (nI a, g) = some r
theorem goes.tr {ρ : Type} {c : Int32 × PH → Option ((Int32 × PH) ⊕ ρ)} {a b d : Nat} {g g' g'' : PH} (x : goes c a b g g') (y : goes c b d g' g'') : goes c a d g g'' := fun r h => x r (y r h)
theorem goes_1 {ρ : Type} {c : Int32 × PH → Option ((Int32 × PH) ⊕ ρ)} {a : Nat} {g g' : PH} (e : c (nI a, g) = some (.inl (nI (a + 1), g'))) : goes c a (a + 1) g g' := fun _ h => wh_step e h
