/-! THE REFERENCE joins its parts -/
theorem joins_eq {g : PH} (m : MSh g) {N L n lo kd : Nat} {xs : List (QT n)} {fr : Int32} (ne : xs ≠ []) (hN0 : N < 400) (e : hI g 20 67 6 = nI N) (hl : lo + (xs.map (sz n)).sum = N) (a : atL (sz n) (QR g L n) xs lo) (l : lnk (sz n) (fun i => hI g 20 65 (2400 + i)) xs lo fr) : ∃ g' N', fX12_joins 45 (nI kd) fr (nI xs.length) g = some (nI (N' - 1), g') ∧ oP (mkF N) g g' ∧ N' = lo + sz (n + 1) (mkJ kd n xs) ∧ QR g' L (n + 1) (mkJ kd n xs) lo ∧ hI g' 20 67 6 = nI N' ∧ hI g' 20 65 (2400 + (N' - 1)) = -1 ∧ N ≤ N' := by
  have sl := sz_len xs
  have hx : xs.length ≤ 400 := by omega
  by_cases z : xs.length = 1
  · obtain ⟨x, rfl⟩ := List.length_eq_one_iff.mp z
    have s1 : ([x].map (sz n)).sum = sz n x := by simp
    rw [s1] at hl
    have px := sz_pos n x
    refine ⟨g, N, ?_, oP.rf _ g, ?_, lft_QR n x lo a.1, e, ?_, Nat.le_refl _⟩
    · unfold fX12_joins
      rw [if_neg (show ¬ ¬ nI ([x] : List (QT n)).length = (1 : Int32) from fun q => q rfl), l.1, hl]
    · show N = lo + sz (n + 1) (lft n x)
      rw [lft_sz]; exact hl.symm
    · rw [← hl]
      exact l.2
  · have lp : 0 < xs.length := List.length_pos_iff.mpr ne
    obtain ⟨g1, f1, f2, f3, f4, f5, f6, f7, f8, f9⟩ := makes_eq m hN0 e (nI kd) 0 0
    have m1 := m.oP f2
    have e24 : (2400 : Int32) + nI N = nI (2400 + N) := nI_add 2400 N
    have ck : Int32.toNatClampNeg (nI (2400 + N)) = 2400 + N := nI_clamp (by omega)
    have ej : mkJ kd n xs = .inr (kd, xs) := mkJ_two (by omega)
    have es : sz (n + 1) (mkJ kd n xs) = (xs.map (sz n)).sum + 1 := by rw [ej]; rfl
    have xo : oP (mkF N) g (sI g1 20 64 (2400 + N) fr) := f2.sI _ ⟨rfl, Or.inl ⟨by decide, by decide, rfl⟩⟩
    have st : ∀ i k, 60 ≤ i → i ≤ 66 → k ≠ N → hI (sI g1 20 64 (2400 + N) fr) 20 i (2400 + k) = hI g 20 i (2400 + k) := fun i k i1 i2 hk => xo.1 _ _ _ (fun z => by have := z.2; omega)
    refine ⟨sI g1 20 64 (2400 + N) fr, N + 1, ?_, xo, by rw [es]; omega, ?_, ?_, ?_, Nat.le_succ _⟩
    · unfold fX12_joins
      rw [if_pos (show ¬ nI xs.length = (1 : Int32) from fun q => z ((nI_eq (b := 1) (by omega) (by decide)).mp q)), gd_t (k_45 m), f1, bd_t, gd_t (k_45 m1), r12_45_29 m1, gs_t, e24, gd_t ⟨k_64 m1, by rw [n_64 m1]; exact inbI (by omega) (by decide)⟩, lt_t]
      simp only [ck]
      rfl
    · rw [ej]
      refine ⟨atL.imp (fun c _ l' h1 h2 r => QR.st (h := g) (fun k _ => xo.1 _ _ _ (fun z => by have := z.2; omega)) (Nat.le_refl _) n c l' (fun i k i1 i2 k1 k2 _ => st i k i1 (by omega) (by have h2 : l' + sz n c ≤ lo + (xs.map (sz n)).sum := h2; omega)) r) a, ?_, ?_⟩
      · show hI _ 20 60 (2400 + (lo + (xs.map (sz n)).sum)) = nI kd
        rw [hl, getI, if_neg (by simp)]
        exact f3
      · show lnk (sz n) _ xs lo (hI _ 20 64 (2400 + (lo + (xs.map (sz n)).sum)))
        rw [hl, getI, if_pos ⟨rfl, rfl⟩]
        exact lnk_st (fun c _ => sz_pos n c) (fun i h1 h2 => st 65 i (by decide) (by decide) (by omega)) l
    · rw [getI, if_neg (by simp)]; exact f9
    · rw [Nat.add_sub_cancel, getI, if_neg (by simp)]; exact f8
def RW (a d L c i k : Nat) : Prop := RQ a d L c i k ∨ (c = 20 ∧ 73 ≤ i ∧ i ≤ 75 ∧ k = d)
theorem mkF_RQ {a d L N : Nat} (h : a ≤ N) (h2 : N < 400) : ∀ c i k, mkF N c i k → RQ a d L c i k := fun c i k z => by
  unfold mkF at z
  unfold RQ
  omega
theorem b78_eq {u : PH} (m : MSh u) {d many : Nat} {v : Int32} (hd : d ≤ 8) (e42 : hI u 12 45 42 = nI d) (e75 : hI u 20 75 d = nI many) : fX12_endsAnd_b78 45 v u = some (sI (sI u 20 74 d v) 20 75 d (nI (many + 1))) := by
  have cd : Int32.toNatClampNeg (nI d) = d := nI_clamp (by omega)
  have id : ∀ a, hN u a = 9 → inb (nI d) (hN u a) := fun a e => by rw [e]; exact inbI (by omega) (by decide)
  unfold fX12_endsAnd_b78
  rw [gd_t (k_45 m), r12_45_39 m, gs_t, e42, gd_t ⟨k_74 m, id _ (n_74 m)⟩, lt_t]
  simp only [cd]
  have m1 : MSh (sI u 20 74 d v) := m.oP ((oP.rf (fun _ _ _ => True) u).sI _ trivial)
  have e1 : hI (sI u 20 74 d v) 12 45 42 = nI d := by rw [hI_sI, if_neg (fun q => absurd q.1 (by decide))]; exact e42
  have e2 : hI (sI u 20 74 d v) 20 75 d = nI many := by rw [getI, if_neg (by simp)]; exact e75
  have ii : inb (nI d) (hN (sI u 20 74 d v) 75) := id 75 (n_75 m)
  rw [r12_45_40 m1, gs_t, e1, gd_t ⟨k_75 m1, ii⟩, gd_t ii]
  simp only [cd]
  rw [e2, nI_1, lt_t]
theorem endsAnd_eq {g : PH} (m : MSh g) {N L n d lo la o nt : Nat} {xs : List (QT n)} {ys : List (QT (n + 1))} (hd : d ≤ 8) (ne : xs ≠ []) (hN0 : N < 400) (S : RSt g o d nt N L) (A : BL g L 72 70 71 d n xs la) (O : BL g L 75 73 74 d (n + 1) ys lo) (h1 : lo + (ys.map (sz (n + 1))).sum = la) (h2 : la + (xs.map (sz n)).sum = N) : ∃ g' N', fX12_endsAnd 45 g = some g' ∧ oP (RW lo d L) g g' ∧ N' = la + sz (n + 1) (mkJ 5 n xs) ∧ BL g' L 75 73 74 d (n + 1) (ys ++ [mkJ 5 n xs]) lo ∧ hI g' 20 72 d = nI 0 ∧ RSt g' o d nt N' L ∧ N ≤ N' ∧ (∀ k, hI g' 12 45 k = hI g 12 45 k) := by
  obtain ⟨s1, s2, s3, s4, s5⟩ := S
  obtain ⟨a1, a2⟩ := A
  obtain ⟨b1, b2, b3⟩ := a2 ne
  have cd : Int32.toNatClampNeg (nI d) = d := nI_clamp (by omega)
  have id : ∀ (u : PH) a, hN u a = 9 → inb (nI d) (hN u a) := fun u a e => by rw [e]; exact inbI (by omega) (by decide)
  obtain ⟨g1, N', f1, f2, f3, f4, f5, f6, f7⟩ := joins_eq (kd := 5) m ne hN0 s4 h2 b1 b2
  have m1 := m.oP f2
  have py := sz_pos (n + 1) (mkJ 5 n xs)
  have e12 : ∀ k, hI g1 12 45 k = hI g 12 45 k := fun k => f2.1 12 45 k (fun z => absurd z.1 (by decide))
  have e70 : ∀ i k, 68 ≤ i → hI g1 20 i k = hI g 20 i k := fun i k hi => f2.1 20 i k (fun z => by have := z.2; omega)
  -- the and-list is empty again
  have x2 : oP (RW lo d L) g (sI g1 20 72 d (nI 0)) := (f2.mono (fun c i k z => Or.inl (mkF_RQ (by omega) hN0 c i k z))).sI _ (Or.inl (by unfold RQ; omega))
  have m2 : MSh (sI g1 20 72 d (nI 0)) := m.oP x2
  have r12 : ∀ k, hI (sI g1 20 72 d (nI 0)) 12 45 k = hI g 12 45 k := fun k => by rw [hI_sI, if_neg (fun q => absurd q.1 (by decide))]; exact e12 k
  have r20 : ∀ i k, i ≠ 72 → hI (sI g1 20 72 d (nI 0)) 20 i k = hI g1 20 i k := fun i k hi => by rw [getI, if_neg (fun z => hi z.1)]
  have O2 : BL (sI g1 20 72 d (nI 0)) L 75 73 74 d (n + 1) ys lo := by
    refine BL.st (h := g) (fun k _ => ?_) (Nat.le_refl _) (fun a ha => ?_) (fun i k i1 i2 k1 k2 => ?_) O
    · rw [r20 _ _ (by decide)]; exact f2.1 _ _ _ (fun z => by have := z.2; omega)
    · rw [r20 _ _ (by omega)]; exact e70 _ _ (by omega)
    · rw [r20 _ _ (by omega)]; exact f2.1 _ _ _ (fun z => by have := z.2; omega)
  have Y2 : QR (sI g1 20 72 d (nI 0)) L (n + 1) (mkJ 5 n xs) (lo + (ys.map (sz (n + 1))).sum) := by
    rw [h1]
    exact QR.st (h := g1) (fun k _ => r20 _ _ (by decide)) (Nat.le_refl _) _ _ _ (fun i k _ _ _ _ _ => r20 _ _ (by omega)) f4
  have yb : hI (sI g1 20 72 d (nI 0)) 20 65 (2400 + (lo + (ys.map (sz (n + 1))).sum + sz (n + 1) (mkJ 5 n xs) - 1)) = -1 := by
    rw [r20 _ _ (by decide), h1, ← f3]; exact f6
  have Z := BL.add (A := 75) (B := 73) (C := 74) (by decide) (by decide) (by decide) (by decide) (by decide) (by decide) O2 Y2 yb
  rw [h1, ← f3] at Z
  have hm := O2.1
  have sy := sz_len ys
  refine ⟨addH (sI g1 20 72 d (nI 0)) 75 73 74 d ys.length (la - 1) (N' - 1), N', ?_, ?_, f3, Z, ?_, ⟨?_, ?_, ?_, ?_, ?_⟩, f7, ?_⟩
  · unfold fX12_endsAnd
    rw [gd_t (k_45 m), r12_45_35 m, gs_t, s2, gd_t ⟨k_70 m, id _ _ (n_70 m)⟩, r12_45_37 m, gs_t, gd_t ⟨k_72 m, id _ _ (n_72 m)⟩]
    simp only [cd]
    rw [a1, show fX12_joins 45 (5 : Int32) (hI g 20 70 d) (nI xs.length) g = some (nI (N' - 1), g1) from f1, bd_t]
    rw [gd_t (k_45 m1), r12_45_37 m1, gs_t, (e12 42).trans s2, gd_t ⟨k_72 m1, id _ _ (n_72 m1)⟩, lt_t]
    simp only [cd]
    show gs (hR (sI g1 20 72 d (nI 0)) 12 45 40) _ = _
    rw [r12_45_40 m2, gs_t]
    show gd (hK (sI g1 20 72 d (nI 0)) 75 = 20 ∧ inb (hI (sI g1 20 72 d (nI 0)) 12 45 42) (hN (sI g1 20 72 d (nI 0)) 75)) _ = _
    rw [gd_t ⟨k_75 m2, by rw [(r12 42).trans s2]; exact id _ _ (n_75 m2)⟩]
    show (if ¬ hI (sI g1 20 72 d (nI 0)) 20 75 (Int32.toNatClampNeg (hI (sI g1 20 72 d (nI 0)) 12 45 42)) = 0 then _ else _) = _
    rw [(r12 42).trans s2, cd, hm]
    unfold addH
    by_cases z : ys.length = 0
    · rw [z, if_neg (show ¬ ¬ nI 0 = 0 from fun q => q rfl), if_pos rfl]
      refine gs_i (r12_45_38 m2) (gd_i ⟨k_73 m2, by show inb (hI (sI g1 20 72 d (nI 0)) 12 45 42) (hN (sI g1 20 72 d (nI 0)) 73); rw [(r12 42).trans s2]; exact id _ _ (n_73 m2)⟩ ?_)
      show fX12_endsAnd_b78 45 (nI (N' - 1)) (sI (sI g1 20 72 d (nI 0)) 20 73 (Int32.toNatClampNeg (hI (sI g1 20 72 d (nI 0)) 12 45 42)) (nI (N' - 1))) = _
      rw [(r12 42).trans s2, cd]
      have m3 : MSh (sI (sI g1 20 72 d (nI 0)) 20 73 d (nI (N' - 1))) := m2.oP ((oP.rf (fun _ _ _ => True) _).sI _ trivial)
      exact b78_eq m3 hd (by rw [hI_sI, if_neg (fun q => absurd q.1 (by decide))]; exact (r12 42).trans s2) (many := 0) (by rw [getI, if_neg (by simp), hm, z])
    · obtain ⟨y1, y2, y3⟩ := O2.2 (fun q => z (by rw [q]; rfl))
      rw [h1] at y3
      have e24 : (2400 : Int32) + nI (la - 1) = nI (2400 + (la - 1)) := nI_add 2400 (la - 1)
      have ck : Int32.toNatClampNeg (nI (2400 + (la - 1))) = 2400 + (la - 1) := nI_clamp (by omega)
      rw [if_pos (show ¬ nI ys.length = 0 from fun q => z ((nI_eq (b := 0) (by omega) (by decide)).mp q)), if_neg z]
      refine gs_i (r12_45_39 m2) (gd_i ⟨k_74 m2, by show inb (hI (sI g1 20 72 d (nI 0)) 12 45 42) (hN (sI g1 20 72 d (nI 0)) 74); rw [(r12 42).trans s2]; exact id _ _ (n_74 m2)⟩ (gs_i (r12_45_30 m2) (gd_i ⟨k_65 m2, ?_⟩ ?_)))
      · show inb (2400 + hI (sI g1 20 72 d (nI 0)) 20 74 (Int32.toNatClampNeg (hI (sI g1 20 72 d (nI 0)) 12 45 42))) (hN (sI g1 20 72 d (nI 0)) 65)
        rw [(r12 42).trans s2, cd, y3, e24, n_65 m2]; exact inbI (by omega) (by decide)
      · show fX12_endsAnd_b78 45 (nI (N' - 1)) (sI (sI g1 20 72 d (nI 0)) 20 65 (Int32.toNatClampNeg (2400 + hI (sI g1 20 72 d (nI 0)) 20 74 (Int32.toNatClampNeg (hI (sI g1 20 72 d (nI 0)) 12 45 42)))) (nI (N' - 1))) = _
        rw [(r12 42).trans s2, cd, y3, e24, ck]
        have m3 : MSh (sI (sI g1 20 72 d (nI 0)) 20 65 (2400 + (la - 1)) (nI (N' - 1))) := m2.oP ((oP.rf (fun _ _ _ => True) _).sI _ trivial)
        exact b78_eq m3 hd (by rw [hI_sI, if_neg (fun q => absurd q.1 (by decide))]; exact (r12 42).trans s2) (many := ys.length) (by rw [getI, if_neg (by simp), hm])
  · have a0 : ∀ i, 73 ≤ i ∧ i ≤ 75 → RW lo d L 20 i d := fun i z => Or.inr ⟨rfl, z.1, z.2, rfl⟩
    unfold addH
    by_cases z : ys.length = 0
    · rw [if_pos z]
      exact ((x2.sI _ (a0 73 (by omega))).sI _ (a0 74 (by omega))).sI _ (a0 75 (by omega))
    · rw [if_neg z]
      exact ((x2.sI _ (Or.inl (by unfold RQ; omega))).sI _ (a0 74 (by omega))).sI _ (a0 75 (by omega))
  · unfold addH
    rw [getI, if_neg (by simp), getI, if_neg (by simp)]
    split
    · rw [getI, if_neg (by simp), getI, if_pos ⟨rfl, rfl⟩]
    · rw [getI, if_neg (by simp), getI, if_pos ⟨rfl, rfl⟩]
  all_goals
    unfold addH
    try rw [hI_sI, if_neg (fun q => absurd q.1 (by decide)), hI_sI, if_neg (fun q => absurd q.1 (by decide))]
  · split <;> (rw [hI_sI, if_neg (fun q => absurd q.1 (by decide))]; exact (r12 43).trans s1)
  · split <;> (rw [hI_sI, if_neg (fun q => absurd q.1 (by decide))]; exact (r12 42).trans s2)
  · split <;> (rw [hI_sI, if_neg (fun q => absurd q.1 (by decide))]; exact (r12 44).trans s3)
  · rw [getI, if_neg (by simp), getI, if_neg (by simp)]
    split <;> (rw [getI, if_neg (by simp), r20 _ _ (by decide)]; exact f5)
  · rw [getI, if_neg (by simp), getI, if_neg (by simp)]
    split <;> (rw [getI, if_neg (by simp), r20 _ _ (by decide)]; exact (e70 68 6 (by decide)).trans s5)
  · intro k
    rw [hI_sI, if_neg (fun q => absurd q.1 (by decide)), hI_sI, if_neg (fun q => absurd q.1 (by decide))]
    split <;> (rw [hI_sI, if_neg (fun q => absurd q.1 (by decide))]; exact r12 k)
theorem endsOr_eq {g : PH} (m : MSh g) {N L n d lo la o nt : Nat} {xs : List (QT n)} {ys : List (QT (n + 1))} (hd : d ≤ 8) (ne : xs ≠ []) (hN0 : N + 1 < 400) (S : RSt g o d nt N L) (A : BL g L 72 70 71 d n xs la) (O : BL g L 75 73 74 d (n + 1) ys lo) (h1 : lo + (ys.map (sz (n + 1))).sum = la) (h2 : la + (xs.map (sz n)).sum = N) : ∃ g' N', fX12_endsOr 45 g = some (nI (N' - 1), g') ∧ oP (RW lo d L) g g' ∧ N' = lo + sz (n + 2) (mkJ 6 (n + 1) (ys ++ [mkJ 5 n xs])) ∧ QR g' L (n + 2) (mkJ 6 (n + 1) (ys ++ [mkJ 5 n xs])) lo ∧ hI g' 20 65 (2400 + (N' - 1)) = -1 ∧ RSt g' o d nt N' L ∧ (∀ k, hI g' 12 45 k = hI g 12 45 k) := by
  obtain ⟨g1, N1, f1, f2, f3, f4, f5, f6, f7, f8⟩ := endsAnd_eq m hd ne (by omega) S A O h1 h2
  obtain ⟨s1, s2, s3, s4, s5⟩ := f6
  have m1 := m.oP f2
  have cd : Int32.toNatClampNeg (nI d) = d := nI_clamp (by omega)
  have id : ∀ (u : PH) a, hN u a = 9 → inb (nI d) (hN u a) := fun u a e => by rw [e]; exact inbI (by omega) (by decide)
  have ne2 : ys ++ [mkJ 5 n xs] ≠ [] := by simp
  obtain ⟨b1, b2, b3⟩ := f4.2 ne2
  have ls : ((ys ++ [mkJ 5 n xs]).map (sz (n + 1))).sum = (ys.map (sz (n + 1))).sum + sz (n + 1) (mkJ 5 n xs) := by simp
  have hj : sz (n + 1) (mkJ 5 n xs) ≤ (xs.map (sz n)).sum + 1 := by
    rcases Nat.lt_or_ge xs.length 2 with z | z
    · obtain ⟨x, rfl⟩ := List.length_eq_one_iff.mp (show xs.length = 1 by have := List.length_pos_iff.mpr ne; omega)
      show sz (n + 1) (lft n x) ≤ _
      rw [lft_sz]
      simp
    · rw [mkJ_two z]
      exact Nat.le_refl _
  obtain ⟨g2, N2, p1, p2, p3, p4, p5, p6, p7⟩ := joins_eq (kd := 6) m1 ne2 (show N1 < 400 by omega) s4 (by rw [ls]; omega) b1 b2
  have e12 : ∀ k, hI g2 12 45 k = hI g1 12 45 k := fun k => p2.1 12 45 k (fun z => absurd z.1 (by decide))
  refine ⟨g2, N2, ?_, f2.tr (p2.mono (fun c i k z => Or.inl (mkF_RQ (by omega) (by omega) c i k z))), p3, p4, p6, ⟨(e12 _).trans s1, (e12 _).trans s2, (e12 _).trans s3, p5, (p2.1 20 68 6 (fun z => by have := z.2; omega)).trans s5⟩, fun k => (e12 k).trans (f8 k)⟩
  unfold fX12_endsOr
  rw [gd_t (k_45 m), f1, bd_t, gd_t (k_45 m1), r12_45_38 m1, gs_t, s2, gd_t ⟨k_73 m1, id _ _ (n_73 m1)⟩, r12_45_40 m1, gs_t, gd_t ⟨k_75 m1, id _ _ (n_75 m1)⟩]
  simp only [cd]
  rw [f4.1, show fX12_joins 45 (6 : Int32) (hI g1 20 73 d) (nI (ys ++ [mkJ 5 n xs]).length) g1 = some (nI (N2 - 1), g2) from p1, bd_t]
