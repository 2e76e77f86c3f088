/-! THE REFERENCE'S BLOCK of what is asked -/
def oP (F : Nat → Nat → Nat → Prop) (h h' : PH) : Prop := (∀ c a k, ¬ F c a k → hI h' c a k = hI h c a k) ∧ hR h' = hR h ∧ hL h' = hL h ∧ hK h' = hK h ∧ hN h' = hN h ∧ hX h' = hX h ∧ hV h' = hV h
theorem oP.rf (F : Nat → Nat → Nat → Prop) (h : PH) : oP F h h := ⟨fun _ _ _ _ => rfl, rfl, rfl, rfl, rfl, rfl, rfl⟩
theorem oP.tr {F : Nat → Nat → Nat → Prop} {h h' h'' : PH} (a : oP F h h') (b : oP F h' h'') : oP F h h'' := ⟨fun c x k e => (b.1 c x k e).trans (a.1 c x k e), b.2.1.trans a.2.1, b.2.2.1.trans a.2.2.1, b.2.2.2.1.trans a.2.2.2.1, b.2.2.2.2.1.trans a.2.2.2.2.1, b.2.2.2.2.2.1.trans a.2.2.2.2.2.1, b.2.2.2.2.2.2.trans a.2.2.2.2.2.2⟩
theorem oP.mono {F G : Nat → Nat → Nat → Prop} {h h' : PH} (a : oP F h h') (e : ∀ c a k, F c a k → G c a k) : oP G h h' := ⟨fun c x k q => a.1 c x k (fun z => q (e c x k z)), a.2⟩
theorem oP.sI {F : Nat → Nat → Nat → Prop} {h h' : PH} (s : oP F h h') {c a k : Nat} (v : Int32) (e : F c a k) : oP F h (sI h' c a k v) := s.tr ⟨fun c' a' k' n => by
  rw [hI_sI, if_neg (fun z => n (by rw [z.1, z.2.1, z.2.2]; exact e))], rfl, rfl, rfl, rfl, rfl, rfl⟩
theorem oI_oP {F : Nat → Nat → Nat → Bool} {G : Nat → Nat → Nat → Prop} {h h' : PH} (s : onlyI F h h') (e : ∀ c a k, F c a k = true → G c a k) : oP G h h' := ⟨fun c a k n => s.1 c a k (by
  cases z : F c a k with
  | false => rfl
  | true => exact absurd (e c a k z) n), s.2⟩
theorem MSh.oP {F : Nat → Nat → Nat → Prop} {h h' : PH} (c : MSh h) (s : oP F h h') : MSh h' := c.of (fun q _ => by rw [s.2.1]) (fun a _ => by rw [s.2.2.2.1]) (fun a _ => by rw [s.2.2.2.2.1])
/-- a simple part in the block; its words lie in the first L places of the line -/
def LfR (h : PH) (L lo : Nat) (l : L3) : Prop := hI h 20 60 (2400 + lo) = nI l.1 ∧ (l.1 < 3 → hI h 20 61 (2400 + lo) = nI (l.2.1.getD 0 0)) ∧ (l.1 = 2 → hI h 20 62 (2400 + lo) = nI (l.2.1.getD 1 0) ∧ hI h 20 63 (2400 + lo) = nI l.2.2) ∧ (l.1 = 3 → ∃ fr, hI h 20 61 (2400 + lo) = nI fr ∧ hI h 20 62 (2400 + lo) = nI l.2.1.length ∧ fr + l.2.1.length ≤ L ∧ ∀ i, i < l.2.1.length → hI h 20 66 (120 + fr + i) = nI (l.2.1.getD i 0)) ∧ hI h 20 64 (2400 + lo) = -1
def QR (h : PH) (L : Nat) : (n : Nat) → QT n → Nat → Prop
  | 0, l, lo => LfR h L lo l
  | n + 1, t, lo => match (t : L3 ⊕ (Nat × List (QT n))) with
    | .inl l => LfR h L lo l
    | .inr p => atL (sz n) (QR h L n) p.2 lo ∧ hI h 20 60 (2400 + (lo + (p.2.map (sz n)).sum)) = nI p.1 ∧ lnk (sz n) (fun i => hI h 20 65 (2400 + i)) p.2 lo (hI h 20 64 (2400 + (lo + (p.2.map (sz n)).sum)))
theorem LfR.M {h : PH} {L lo : Nat} {l : L3} (hl : L ≤ 20) (R : LfR h L lo l) : LfM3 h 6 lo l := by
  obtain ⟨r1, r2, r3, r4, r5⟩ := R
  refine ⟨⟨r1, r2, r3, fun k => ?_⟩, r5⟩
  obtain ⟨fr, f1, f2, f3, f4⟩ := r4 k
  exact ⟨fr, f1, f2, by omega, f4⟩
theorem QR.M {h : PH} {L : Nat} (hl : L ≤ 20) : ∀ (n : Nat) (t : QT n) (lo : Nat), QR h L n t lo → QM h 6 n t lo
  | 0, _, _, R => LfR.M hl R
  | _ + 1, .inl _, _, R => LfR.M hl R
  | n + 1, .inr _, _, R => ⟨atL.imp (fun c _ l _ _ r => QR.M hl n c l r) R.1, R.2.1, R.2.2⟩
theorem LfR.st {h h' : PH} {L L' lo : Nat} {l : L3} (a : ∀ i, 60 ≤ i → i ≤ 64 → hI h' 20 i (2400 + lo) = hI h 20 i (2400 + lo)) (b : ∀ k, k < L → hI h' 20 66 (120 + k) = hI h 20 66 (120 + k)) (hl : L ≤ L') (R : LfR h L lo l) : LfR h' L' lo l := by
  obtain ⟨r1, r2, r3, r4, r5⟩ := R
  refine ⟨(a 60 (by decide) (by decide)).trans r1, fun k => (a 61 (by decide) (by decide)).trans (r2 k), fun k => ⟨(a 62 (by decide) (by decide)).trans (r3 k).1, (a 63 (by decide) (by decide)).trans (r3 k).2⟩, fun k => ?_, (a 64 (by decide) (by decide)).trans r5⟩
  obtain ⟨fr, f1, f2, f3, f4⟩ := r4 k
  refine ⟨fr, (a 61 (by decide) (by decide)).trans f1, (a 62 (by decide) (by decide)).trans f2, by omega, fun i hi => ?_⟩
  rw [Nat.add_assoc, b (fr + i) (by omega), ← Nat.add_assoc]
  exact f4 i hi
theorem lnk_st {α : Type} {S : α → Nat} {nx nx' : Nat → Int32} : ∀ {cs : List α} {lo : Nat} {fr : Int32}, (∀ c ∈ cs, 0 < S c) → (∀ i, lo ≤ i → i < lo + (cs.map S).sum → nx' i = nx i) → lnk S nx cs lo fr → lnk S nx' cs lo fr
  | [], _, _, _, _, h => h
  | c :: cs, lo, fr, p, e, h => by
    have pc := p c List.mem_cons_self
    rw [List.map_cons, List.sum_cons] at e
    refine ⟨h.1, ?_⟩
    rw [e (lo + S c - 1) (by omega) (by omega)]
    exact lnk_st (fun d hd => p d (List.mem_cons_of_mem _ hd)) (fun i h1 h2 => e i (by omega) (by omega)) h.2
theorem QR.st {h h' : PH} {L L' : Nat} (b : ∀ k, k < L → hI h' 20 66 (120 + k) = hI h 20 66 (120 + k)) (hl : L ≤ L') : ∀ (n : Nat) (t : QT n) (lo : Nat), (∀ i k, 60 ≤ i → i ≤ 65 → lo ≤ k → k < lo + sz n t → (i = 65 → k + 1 ≠ lo + sz n t) → hI h' 20 i (2400 + k) = hI h 20 i (2400 + k)) → QR h L n t lo → QR h' L' n t lo
  | 0, _, lo, a, R => LfR.st (fun i h1 h2 => a i lo h1 (by omega) (Nat.le_refl _) (Nat.lt_succ_self _) (fun z => by omega)) b hl R
  | _ + 1, .inl _, lo, a, R => LfR.st (fun i h1 h2 => a i lo h1 (by omega) (Nat.le_refl _) (Nat.lt_succ_self _) (fun z => by omega)) b hl R
  | n + 1, .inr p, lo, a, R => by
    obtain ⟨r1, r2, r3⟩ := R
    have a : ∀ i k, 60 ≤ i → i ≤ 65 → lo ≤ k → k < lo + ((p.2.map (sz n)).sum + 1) → (i = 65 → k + 1 ≠ lo + ((p.2.map (sz n)).sum + 1)) → hI h' 20 i (2400 + k) = hI h 20 i (2400 + k) := a
    refine ⟨atL.imp (fun c _ l h1 h2 r => QR.st b hl n c l (fun i k i1 i2 k1 k2 _ => a i k i1 i2 (by omega) (by omega) (fun _ => by omega)) r) r1, (a 60 _ (by decide) (by decide) (by omega) (by omega) (fun z => by omega)).trans r2, ?_⟩
    rw [a 64 _ (by decide) (by decide) (by omega) (by omega) (fun z => by omega)]
    exact lnk_st (fun c _ => sz_pos n c) (fun i h1 h2 => a 65 i (by decide) (by decide) h1 (by omega) (fun _ => by omega)) r3
theorem lft_QR {h : PH} {L : Nat} : ∀ (n : Nat) (t : QT n) (lo : Nat), QR h L n t lo → QR h L (n + 1) (lft n t) lo
  | 0, _, _, R => R
  | _ + 1, .inl _, _, R => R
  | n + 1, .inr p, lo, R => by
    obtain ⟨h1, h2, h3⟩ := R
    have es : ((p.2.map (lft n)).map (sz (n + 1))).sum = (p.2.map (sz n)).sum := by
      rw [List.map_map]
      congr 1
      exact List.map_congr_left (fun c _ => lft_sz n c)
    refine ⟨atL_map (fun c _ => lft_sz n c) (fun c _ l r => lft_QR n c l r) h1, ?_, ?_⟩
    · show hI h 20 60 (2400 + (lo + ((p.2.map (lft n)).map (sz (n + 1))).sum)) = nI p.1
      rw [es]; exact h2
    · show lnk (sz (n + 1)) (fun i => hI h 20 65 (2400 + i)) (p.2.map (lft n)) lo (hI h 20 64 (2400 + (lo + ((p.2.map (lft n)).map (sz (n + 1))).sum)))
      rw [es]
      exact lnk_map (fun c _ => lft_sz n c) h3
theorem atL_app {α : Type} {S : α → Nat} {R : α → Nat → Prop} : ∀ {xs ys : List α} {lo : Nat}, atL S R xs lo → atL S R ys (lo + (xs.map S).sum) → atL S R (xs ++ ys) lo
  | [], _, _, _, b => b
  | x :: xs, ys, lo, a, b => ⟨a.1, atL_app a.2 (by
    rw [List.map_cons, List.sum_cons, ← Nat.add_assoc] at b
    exact b)⟩
/-- one more link at the end -/
theorem lnk_app {α : Type} {S : α → Nat} {nx nx' : Nat → Int32} {y : α} : ∀ {xs : List α} {lo : Nat} {fr : Int32}, xs ≠ [] → (∀ c ∈ xs, 0 < S c) → (∀ i, lo ≤ i → i + 1 < lo + (xs.map S).sum → nx' i = nx i) → nx' (lo + (xs.map S).sum - 1) = nI (lo + (xs.map S).sum + S y - 1) → nx' (lo + (xs.map S).sum + S y - 1) = -1 → lnk S nx xs lo fr → lnk S nx' (xs ++ [y]) lo fr
  | [], _, _, ne, _, _, _, _, _ => absurd rfl ne
  | [c], lo, fr, _, p, _, e1, e2, h => by
    have s1 : ([c].map S).sum = S c := by simp
    rw [s1] at e1 e2
    exact ⟨h.1, e1, e2⟩
  | c :: d :: cs, lo, fr, _, p, e, e1, e2, h => by
    have pc := p c List.mem_cons_self
    have pd := p d (List.mem_cons_of_mem _ List.mem_cons_self)
    rw [List.map_cons, List.sum_cons, ← Nat.add_assoc] at e1 e2
    have s2 : ((c :: d :: cs).map S).sum = S c + (S d + (cs.map S).sum) := by simp
    rw [s2] at e
    have r := lnk_app (xs := d :: cs) (nx' := nx') (y := y) (List.cons_ne_nil _ _) (fun z hz => p z (List.mem_cons_of_mem _ hz)) (fun i h1 h2 => e i (by omega) (by
      have s3 : ((d :: cs).map S).sum = S d + (cs.map S).sum := by simp
      rw [s3] at h2
      omega)) e1 e2 h.2
    refine ⟨h.1, ?_⟩
    rw [e (lo + S c - 1) (by omega) (by omega)]
    exact r
/-- a list of parts in the block, from lo on: how many (A), its first (B) and its last (C) stand for the depth d -/
def BL (h : PH) (L A B C d n : Nat) (xs : List (QT n)) (lo : Nat) : Prop := hI h 20 A d = nI xs.length ∧ (xs ≠ [] → atL (sz n) (QR h L n) xs lo ∧ lnk (sz n) (fun i => hI h 20 65 (2400 + i)) xs lo (hI h 20 B d) ∧ hI h 20 C d = nI (lo + (xs.map (sz n)).sum - 1))
theorem BL.st {h h' : PH} {L L' A B C d n : Nat} {xs : List (QT n)} {lo : Nat} (b : ∀ k, k < L → hI h' 20 66 (120 + k) = hI h 20 66 (120 + k)) (hl : L ≤ L') (e : ∀ a, a = A ∨ a = B ∨ a = C → hI h' 20 a d = hI h 20 a d) (a : ∀ i k, 60 ≤ i → i ≤ 65 → lo ≤ k → k < lo + (xs.map (sz n)).sum → hI h' 20 i (2400 + k) = hI h 20 i (2400 + k)) (X : BL h L A B C d n xs lo) : BL h' L' A B C d n xs lo := by
  obtain ⟨x1, x2⟩ := X
  refine ⟨(e A (Or.inl rfl)).trans x1, fun ne => ?_⟩
  obtain ⟨y1, y2, y3⟩ := x2 ne
  refine ⟨atL.imp (fun c _ l h1 h2 r => QR.st b hl n c l (fun i k i1 i2 k1 k2 _ => a i k i1 i2 (by omega) (by omega)) r) y1, ?_, (e C (Or.inr (Or.inr rfl))).trans y3⟩
  rw [e B (Or.inr (Or.inl rfl))]
  exact lnk_st (fun c _ => sz_pos n c) (fun i h1 h2 => a 65 i (by decide) (by decide) h1 h2) y2
/-- the heap with one more -/
noncomputable def addH (h : PH) (A B C d : Nat) (many last r : Nat) : PH := sI (sI (if many = 0 then sI h 20 B d (nI r) else sI h 20 65 (2400 + last) (nI r)) 20 C d (nI r)) 20 A d (nI (many + 1))
theorem getI (h : PH) (a k a' k' : Nat) (v : Int32) : hI (sI h 20 a k v) 20 a' k' = if a' = a ∧ k' = k then v else hI h 20 a' k' := by
  rw [hI_sI]
  by_cases z : a' = a ∧ k' = k
  · rw [if_pos ⟨rfl, z⟩, if_pos z]
  · rw [if_neg (fun y => z y.2), if_neg z]
theorem BL.add {h : PH} {L A B C d n : Nat} {xs : List (QT n)} {y : QT n} {lo : Nat} (hA : 70 ≤ A) (hB : 70 ≤ B) (hC : 70 ≤ C) (ab : A ≠ B) (bc : B ≠ C) (ac : A ≠ C) (X : BL h L A B C d n xs lo) (Y : QR h L n y (lo + (xs.map (sz n)).sum)) (yb : hI h 20 65 (2400 + (lo + (xs.map (sz n)).sum + sz n y - 1)) = -1) : BL (addH h A B C d xs.length (lo + (xs.map (sz n)).sum - 1) (lo + (xs.map (sz n)).sum + sz n y - 1)) L A B C d n (xs ++ [y]) lo := by
  obtain ⟨x1, x2⟩ := X
  have py := sz_pos n y
  have ll : (xs ++ [y]).length = xs.length + 1 := List.length_append ..
  have ls : ((xs ++ [y]).map (sz n)).sum = (xs.map (sz n)).sum + sz n y := by simp
  unfold addH
  generalize hr : lo + (xs.map (sz n)).sum + sz n y - 1 = r at yb ⊢
  -- what stands where
  have gA : ∀ (g : PH) (v : Int32), hI (sI (sI g 20 C d (nI r)) 20 A d v) 20 A d = v := fun g v => by rw [getI, if_pos ⟨rfl, rfl⟩]
  have gC : ∀ (g : PH) (v : Int32), hI (sI (sI g 20 C d (nI r)) 20 A d v) 20 C d = nI r := fun g v => by rw [getI, if_neg (fun z => ac z.1.symm), getI, if_pos ⟨rfl, rfl⟩]
  have gB : ∀ (g : PH) (v : Int32), hI (sI (sI g 20 C d (nI r)) 20 A d v) 20 B d = hI g 20 B d := fun g v => by rw [getI, if_neg (fun z => ab z.1.symm), getI, if_neg (fun z => bc z.1)]
  have gN : ∀ (g : PH) (v : Int32) (i k : Nat), i < 70 → hI (sI (sI g 20 C d (nI r)) 20 A d v) 20 i k = hI g 20 i k := fun g v i k hi => by rw [getI, if_neg (fun z => by omega), getI, if_neg (fun z => by omega)]
  by_cases ne : xs = []
  · subst ne
    have l0 : ([] : List (QT n)).length = 0 := rfl
    rw [l0, if_pos rfl]
    have hr : lo + sz n y - 1 = r := hr
    have Y : QR h L n y lo := Y
    have yb : hI h 20 65 (2400 + r) = -1 := yb
    refine ⟨gA _ _, fun _ => ⟨⟨?_, trivial⟩, ⟨?_, ?_⟩, ?_⟩⟩
    · refine QR.st (L := L) (h := h) (fun k _ => ?_) (Nat.le_refl _) n y lo (fun i k i1 i2 _ _ _ => ?_) Y
      · rw [gN _ _ 66 _ (by decide), getI, if_neg (fun z => by omega)]
      · rw [gN _ _ i _ (by omega), getI, if_neg (fun z => by omega)]
    · rw [gB, getI, if_pos ⟨rfl, rfl⟩, hr]
    · show hI _ 20 65 (2400 + (lo + sz n y - 1)) = -1
      rw [gN _ _ 65 _ (by decide), getI, if_neg (fun z => by omega), hr]
      exact yb
    · rw [gC, ← hr]
      show nI _ = nI (lo + (sz n y + 0) - 1)
      rw [Nat.add_zero]
  · have lp : xs.length ≠ 0 := fun z => ne (List.length_eq_zero_iff.mp z)
    obtain ⟨y1, y2, y3⟩ := x2 ne
    have sp : 0 < (xs.map (sz n)).sum := by have := sz_len xs; omega
    rw [if_neg lp]
    have st : ∀ i k, 60 ≤ i → i ≤ 65 → (i = 65 → k + 1 ≠ lo + (xs.map (sz n)).sum) → hI (sI (sI (sI h 20 65 (2400 + (lo + (xs.map (sz n)).sum - 1)) (nI r)) 20 C d (nI r)) 20 A d (nI (xs.length + 1))) 20 i (2400 + k) = hI h 20 i (2400 + k) := fun i k i1 i2 i3 => by
      rw [gN _ _ i _ (by omega), getI, if_neg (fun z => by have := i3 z.1; omega)]
    have sl : ∀ k, k < L → hI (sI (sI (sI h 20 65 (2400 + (lo + (xs.map (sz n)).sum - 1)) (nI r)) 20 C d (nI r)) 20 A d (nI (xs.length + 1))) 20 66 (120 + k) = hI h 20 66 (120 + k) := fun k _ => by
      rw [gN _ _ 66 _ (by decide), getI, if_neg (fun z => by omega)]
    refine ⟨by rw [ll]; exact gA _ _, fun _ => ⟨atL_app (atL.imp (fun c _ l h1 h2 r => QR.st sl (Nat.le_refl _) n c l (fun i k i1 i2 k1 k2 k3 => st i k i1 i2 (fun z => by have := k3 z; omega)) r) y1) ⟨QR.st sl (Nat.le_refl _) n y _ (fun i k i1 i2 k1 k2 k3 => st i k i1 i2 (fun z => by omega)) Y, trivial⟩, ?_, ?_⟩⟩
    · rw [gB, getI, if_neg (fun z => by omega)]
      refine lnk_app (nx := fun i => hI h 20 65 (2400 + i)) ne (fun c _ => sz_pos n c) (fun i h1 h2 => st 65 i (by decide) (by decide) (fun _ => by omega)) ?_ ?_ y2
      · show hI _ 20 65 (2400 + (lo + (xs.map (sz n)).sum - 1)) = _
        rw [gN _ _ 65 _ (by decide), getI, if_pos ⟨rfl, rfl⟩, hr]
      · rw [hr]
        exact (st 65 _ (by decide) (by decide) (fun _ => by omega)).trans yb
    · rw [gC, ls, ← Nat.add_assoc, hr]
