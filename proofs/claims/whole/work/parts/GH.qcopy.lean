/-! A QUERY in another block -/
theorem LfM3.copy {h h' : PH} {q p lo N : Nat} {l : L3} (e : ∀ i k, 60 ≤ i → i ≤ 65 → k < N → hI h' 20 i (400 * p + k) = hI h 20 i (400 * q + k)) (w : ∀ k, k < 20 → hI h' 20 66 (20 * p + k) = hI h 20 66 (20 * q + k)) (hl : lo < N) (L : LfM3 h q lo l) : LfM3 h' p lo l := by
  obtain ⟨⟨l1, l2, l3, l4⟩, l5⟩ := L
  refine ⟨⟨(e 60 lo (by decide) (by decide) hl).trans l1, fun k => (e 61 lo (by decide) (by decide) hl).trans (l2 k), fun k => ⟨(e 62 lo (by decide) (by decide) hl).trans (l3 k).1, (e 63 lo (by decide) (by decide) hl).trans (l3 k).2⟩, fun k => ?_⟩, (e 64 lo (by decide) (by decide) hl).trans l5⟩
  obtain ⟨fr, f1, f2, f3, f4⟩ := l4 k
  refine ⟨fr, (e 61 lo (by decide) (by decide) hl).trans f1, (e 62 lo (by decide) (by decide) hl).trans f2, f3, fun i hi => ?_⟩
  rw [Nat.add_assoc, w (fr + i) (by omega), ← Nat.add_assoc]
  exact f4 i hi
theorem QM.copy {h h' : PH} {q p N : Nat} (e : ∀ i k, 60 ≤ i → i ≤ 65 → k < N → hI h' 20 i (400 * p + k) = hI h 20 i (400 * q + k)) (w : ∀ k, k < 20 → hI h' 20 66 (20 * p + k) = hI h 20 66 (20 * q + k)) : ∀ (n : Nat) (t : QT n) (lo : Nat), lo + sz n t ≤ N → QM h q n t lo → QM h' p n t lo
  | 0, _, lo, hl, L => LfM3.copy e w (Nat.lt_of_lt_of_le (Nat.lt_succ_self lo) hl) L
  | _ + 1, .inl _, lo, hl, L => LfM3.copy e w (Nat.lt_of_lt_of_le (Nat.lt_succ_self lo) hl) L
  | n + 1, .inr r, lo, hl, L => by
    obtain ⟨h1, h2, h3⟩ := L
    have hl : lo + ((r.2.map (sz n)).sum + 1) ≤ N := hl
    refine ⟨atL.imp (fun c _ l a b x => QM.copy e w n c l (by omega) x) h1, (e 60 _ (by decide) (by decide) (by omega)).trans h2, ?_⟩
    rw [e 64 _ (by decide) (by decide) (by omega)]
    exact lnk_st (fun c _ => sz_pos n c) (fun i a b => e 65 i (by decide) (by decide) (by omega)) h3
/-- the block p says what the block 6 says -/
theorem BM.copy {g g' : PH} {q p : Nat} {Q : QT 27} (B : BM g q 27 Q) (e67 : hI g' 20 67 p = nI (sz 27 Q)) (e69 : hI g' 20 69 p = hI g 20 69 q) (e : ∀ i k, 60 ≤ i → i ≤ 65 → k < sz 27 Q → hI g' 20 i (400 * p + k) = hI g 20 i (400 * q + k)) (w : ∀ k, k < 20 → hI g' 20 66 (20 * p + k) = hI g 20 66 (20 * q + k)) : BM g' p 27 Q := ⟨e67, e69.trans B.2.1, B.2.2.1, QM.copy e w 27 Q 0 (by omega) B.2.2.2.1, B.2.2.2.2⟩
