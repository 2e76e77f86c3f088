/-! THE REFERENCE lays a part -/
theorem gd_i {α : Type} {p : Prop} [Decidable p] {x y : Option α} (hp : p) (e : x = y) : gd p x = y := (gd_t hp).trans e
theorem gs_i {α : Type} {r : Option Nat} {k : Nat → Option α} {y : Option α} {a : Nat} (e : r = some a) (h : k a = y) : gs r k = y := by subst e; exact h
def mkF (N c i k : Nat) : Prop := c = 20 ∧ (60 ≤ i ∧ i ≤ 65 ∧ k = 2400 + N ∨ i = 67 ∧ k = 6)
theorem makes_eq {g : PH} (m : MSh g) {N : Nat} (hN0 : N < 400) (e : hI g 20 67 6 = nI N) (kd a b : Int32) : ∃ g', fX12_makes 45 6 kd a b g = some (nI N, g') ∧ oP (mkF N) g g' ∧ hI g' 20 60 (2400 + N) = kd ∧ hI g' 20 61 (2400 + N) = a ∧ hI g' 20 62 (2400 + N) = b ∧ hI g' 20 63 (2400 + N) = 0 ∧ hI g' 20 64 (2400 + N) = -1 ∧ hI g' 20 65 (2400 + N) = -1 ∧ hI g' 20 67 6 = nI (N + 1) := by
  have c6 : Int32.toNatClampNeg (6 : Int32) = 6 := rfl
  have e24 : ((400 : Int32) * (6 : Int32)) + nI N = nI (2400 + N) := i400 6 N
  have ck : Int32.toNatClampNeg (nI (2400 + N)) = 2400 + N := nI_clamp (by omega)
  have i6 : inb (6 : Int32) (hN g 67) := by rw [n_67 m]; decide
  have iN : ∀ a, hN g a = 3200 → inb (nI (2400 + N)) (hN g a) := fun a e => by rw [e]; exact inbI (by omega) (by decide)
  unfold fX12_makes
  rw [gd_t (k_45 m), r12_45_32 m, gs_t, gd_t ⟨k_67 m, i6⟩, gs_t, gd_t ⟨k_67 m, i6⟩, gd_t i6]
  simp only [c6, e, e24, ck]
  refine ⟨_, gs_i (r12_45_25 m) (gd_i ⟨k_60 m, iN _ (n_60 m)⟩ (gs_i (r12_45_26 m) (gd_i ⟨k_61 m, iN _ (n_61 m)⟩ (gs_i (r12_45_27 m) (gd_i ⟨k_62 m, iN _ (n_62 m)⟩ (gs_i (r12_45_28 m) (gd_i ⟨k_63 m, iN _ (n_63 m)⟩ (gs_i (r12_45_29 m) (gd_i ⟨k_64 m, iN _ (n_64 m)⟩ (gs_i (r12_45_30 m) (gd_i ⟨k_65 m, iN _ (n_65 m)⟩ rfl))))))))))), (((((((oP.rf _ g).sI _ ⟨rfl, Or.inr ⟨rfl, rfl⟩⟩).sI _ ⟨rfl, Or.inl ⟨by decide, by decide, rfl⟩⟩).sI _ ⟨rfl, Or.inl ⟨by decide, by decide, rfl⟩⟩).sI _ ⟨rfl, Or.inl ⟨by decide, by decide, rfl⟩⟩).sI _ ⟨rfl, Or.inl ⟨by decide, by decide, rfl⟩⟩).sI _ ⟨rfl, Or.inl ⟨by decide, by decide, rfl⟩⟩).sI _ ⟨rfl, Or.inl ⟨by decide, by decide, rfl⟩⟩, ?_, ?_, ?_, ?_, ?_, ?_, ?_⟩
  · simp [getI]
  · simp [getI]
  · simp [getI]
  · simp [getI]
  · simp [getI]
  · simp [getI]
  · rw [getI, if_neg (by simp), getI, if_neg (by simp), getI, if_neg (by simp), getI, if_neg (by simp), getI, if_neg (by simp), getI, if_neg (by simp), getI, if_pos ⟨rfl, rfl⟩, nI_1]
def ngF (N c i k : Nat) : Prop := mkF N c i k ∨ (c = 20 ∧ i = 65 ∧ k = 2400 + (N - 1))
theorem negates_eq {g : PH} (m : MSh g) {N L n lo : Nat} {y : QT n} (hN0 : N < 400) (e : hI g 20 67 6 = nI N) (hl : lo + sz n y = N) (Y : QR g L n y lo) : ∃ g', fX12_negates 45 6 (nI (N - 1)) g = some (nI N, g') ∧ oP (ngF N) g g' ∧ QR g' L (n + 1) (.inr (4, [y])) lo ∧ hI g' 20 65 (2400 + N) = -1 ∧ hI g' 20 67 6 = nI (N + 1) := by
  have py := sz_pos n y
  obtain ⟨g1, f1, f2, f3, f4, f5, f6, f7, f8, f9⟩ := makes_eq m hN0 e 4 0 0
  have m1 := m.oP f2
  have e24 : ((400 : Int32) * (6 : Int32)) + nI N = nI (2400 + N) := i400 6 N
  have e25 : ((400 : Int32) * (6 : Int32)) + nI (N - 1) = nI (2400 + (N - 1)) := i400 6 (N - 1)
  have ck : Int32.toNatClampNeg (nI (2400 + N)) = 2400 + N := nI_clamp (by omega)
  have cl : Int32.toNatClampNeg (nI (2400 + (N - 1))) = 2400 + (N - 1) := nI_clamp (by omega)
  have i64 : inb (nI (2400 + N)) (hN g1 64) := by rw [n_64 m1]; exact inbI (by omega) (by decide)
  have i65 : inb (nI (2400 + (N - 1))) (hN g1 65) := by rw [n_65 m1]; exact inbI (by omega) (by decide)
  unfold fX12_negates
  rw [gd_t (k_45 m), f1, bd_t, gd_t (k_45 m1), r12_45_29 m1, gs_t]
  simp only [e24, e25, ck, cl]
  refine ⟨_, gd_i ⟨k_64 m1, i64⟩ (gs_i (r12_45_30 m1) (gd_i ⟨k_65 m1, i65⟩ rfl)), ((f2.mono (fun _ _ _ z => Or.inl z)).sI _ (Or.inl ⟨rfl, Or.inl ⟨by decide, by decide, rfl⟩⟩)).sI _ (Or.inr ⟨rfl, rfl, rfl⟩), ⟨⟨?_, trivial⟩, ?_, ?_, ?_⟩, ?_, ?_⟩
  · refine QR.st (L := L) (h := g) (fun k _ => ?_) (Nat.le_refl _) n y lo (fun i k i1 i2 k1 k2 k3 => ?_) Y
    · rw [getI, if_neg (by simp), getI, if_neg (by simp)]
      exact f2.1 _ _ _ (fun z => by have := z.2; omega)
    · rw [getI, if_neg (fun z => by have := k3 z.1; omega), getI, if_neg (fun z => by omega)]
      exact f2.1 _ _ _ (fun z => by have := z.2; omega)
  · show hI _ 20 60 (2400 + (lo + (sz n y + 0))) = nI 4
    rw [Nat.add_zero, hl, getI, if_neg (by simp), getI, if_neg (by simp)]
    exact f3
  · show hI _ 20 64 (2400 + (lo + (sz n y + 0))) = nI (lo + sz n y - 1)
    rw [Nat.add_zero, hl, getI, if_neg (by simp), getI, if_pos ⟨rfl, rfl⟩]
  · show hI _ 20 65 (2400 + (lo + sz n y - 1)) = -1
    rw [hl, getI, if_pos ⟨rfl, rfl⟩]
  · rw [getI, if_neg (fun z => by omega), getI, if_neg (by simp)]
    exact f8
  · rw [getI, if_neg (by simp), getI, if_neg (by simp)]
    exact f9
abbrev SQ : Type := (n : Nat) × QT n
def notS (i : SQ) : SQ := ⟨i.1 + 2, lft (i.1 + 1) (.inr (4, [i.2]))⟩
def notN : Nat → SQ → SQ
  | 0, i => i
  | k + 1, i => notN k (notS i)
theorem notS_sz (i : SQ) : sz (notS i).1 (notS i).2 = sz i.1 i.2 + 1 := by
  refine (lft_sz (i.1 + 1) (.inr (4, [i.2]) : L3 ⊕ (Nat × List (QT i.1)))).trans ?_
  show sz i.1 i.2 + 0 + 1 = _
  omega
theorem notN_sz : ∀ (k : Nat) (i : SQ), sz (notN k i).1 (notN k i).2 = sz i.1 i.2 + k
  | 0, _ => rfl
  | k + 1, i => by
    show sz (notN k (notS i)).1 (notN k (notS i)).2 = _
    rw [notN_sz k (notS i), notS_sz]
    omega
/-- what reading changes: nodes from a on, lists from the depth d on, the line from L on -/
def RQ (a d L c i k : Nat) : Prop := (c = 12 ∧ i = 45 ∧ (21 ≤ k ∧ k ≤ 24 ∨ 42 ≤ k ∧ k ≤ 45)) ∨ (c = 20 ∧ (60 ≤ i ∧ i ≤ 65 ∧ 2400 + a ≤ k ∧ k < 2800 ∨ i = 66 ∧ 120 + L ≤ k ∧ k < 140 ∨ (i = 67 ∨ i = 68) ∧ k = 6 ∨ 70 ≤ i ∧ i ≤ 72 ∧ d ≤ k ∨ 73 ≤ i ∧ i ≤ 76 ∧ d < k))
theorem RQ.mono {a a' d d' L L' : Nat} (h1 : a' ≤ a) (h2 : d' ≤ d) (h3 : L' ≤ L) : ∀ c i k, RQ a d L c i k → RQ a' d' L' c i k := fun c i k z => by
  unfold RQ at z ⊢
  omega
/-- the state between two parts -/
def RSt (g : PH) (o d nt N L : Nat) : Prop := hI g 12 45 43 = nI o ∧ hI g 12 45 42 = nI d ∧ hI g 12 45 44 = nI nt ∧ hI g 20 67 6 = nI N ∧ hI g 20 68 6 = nI L
theorem b84_eq {u : PH} (m : MSh u) {d many : Nat} {v : Int32} (hd : d ≤ 8) (e42 : hI u 12 45 42 = nI d) (e72 : hI u 20 72 d = nI many) : fX12_hasPart_b84 45 v u = some (sI (sI u 20 71 d v) 20 72 d (nI (many + 1))) := by
  have cd : Int32.toNatClampNeg (nI d) = d := nI_clamp (by omega)
  have id : ∀ a, hN u a = 9 → inb (nI d) (hN u a) := fun a e => by rw [e]; exact inbI (by omega) (by decide)
  unfold fX12_hasPart_b84
  rw [gd_t (k_45 m), r12_45_36 m, gs_t, e42, gd_t ⟨k_71 m, id _ (n_71 m)⟩, lt_t]
  simp only [cd]
  have m1 : MSh (sI u 20 71 d v) := m.oP ((oP.rf (fun _ _ _ => True) u).sI _ trivial)
  have e1 : hI (sI u 20 71 d v) 12 45 42 = nI d := by rw [hI_sI, if_neg (fun q => absurd q.1 (by decide))]; exact e42
  have e2 : hI (sI u 20 71 d v) 20 72 d = nI many := by rw [getI, if_neg (by simp)]; exact e72
  have ii : inb (nI d) (hN (sI u 20 71 d v) 72) := id 72 (n_72 m)
  rw [r12_45_37 m1, gs_t, e1, gd_t ⟨k_72 m1, ii⟩, gd_t ii]
  simp only [cd]
  rw [e2, nI_1, lt_t]
theorem hasPart_eq {L d la : Nat} (hd : d ≤ 8) {K : Nat} {xs : List (QT K)} : ∀ (nt : Nat) {g : PH} (_ : MSh g) {N o n lo : Nat} {y : QT n} {y' : QT K}, N + nt ≤ 400 → nt ≤ o → o ≤ 8 → RSt g o d nt N L → lo + sz n y = N → QR g L n y lo → hI g 20 65 (2400 + (N - 1)) = -1 → BL g L 72 70 71 d K xs la → la + (xs.map (sz K)).sum = lo → notN nt ⟨n, y⟩ = ⟨K, y'⟩ → ∃ g', fX12_hasPart_l2 45 (nI (N - 1)) g = some g' ∧ oP (RQ la d L) g g' ∧ BL g' L 72 70 71 d K (xs ++ [y']) la ∧ RSt g' (o - nt) d 0 (N + nt) L ∧ (∀ k, 21 ≤ k → k ≤ 24 ∨ k = 45 → hI g' 12 45 k = hI g 12 45 k) := by
  intro nt
  induction nt with
  | zero =>
    intro g m N o n lo y y' h1 h2 h3 ⟨s1, s2, s3, s4, s5⟩ hl Y yb B hb hy
    have hy : (⟨n, y⟩ : SQ) = ⟨K, y'⟩ := hy
    have py := sz_pos n y
    cases hy
    have cd : Int32.toNatClampNeg (nI d) = d := nI_clamp (by omega)
    have id : ∀ a, hN g a = 9 → inb (nI d) (hN g a) := fun a e => by rw [e]; exact inbI (by omega) (by decide)
    have Z := BL.add (A := 72) (B := 70) (C := 71) (by decide) (by decide) (by decide) (by decide) (by decide) (by decide) B (by rw [hb]; exact Y) (by rw [hb, hl]; exact yb)
    rw [hb, hl] at Z
    have hm := B.1
    have hmd : xs.length ≤ 400 := by have := sz_len xs; omega
    have st : fX12_hasPart_c2 45 (nI (N - 1)) g = some (.inr (addH g 72 70 71 d xs.length (lo - 1) (N - 1))) := by
      unfold fX12_hasPart_c2 addH
      rw [gd_t (k_45 m), s3, if_pos (show nI 0 ≤ 0 from Int32.le_refl _), s2, r12_45_37 m, gs_t, gd_t ⟨k_72 m, id _ (n_72 m)⟩]
      simp only [cd]
      rw [hm]
      by_cases z : xs.length = 0
      · rw [z, if_neg (show ¬ ¬ nI 0 = 0 from fun q => q rfl), if_pos rfl, r12_45_35 m, gs_t, gd_t ⟨k_70 m, id _ (n_70 m)⟩, lt_t]
        have m1 : MSh (sI g 20 70 d (nI (N - 1))) := m.oP ((oP.rf (fun _ _ _ => True) g).sI _ trivial)
        rw [b84_eq m1 hd (by rw [hI_sI, if_neg (fun q => absurd q.1 (by decide))]; exact s2) (many := 0) (by rw [getI, if_neg (by simp), hm, z]), mr_t]
      · obtain ⟨y1, y2, y3⟩ := B.2 (fun q => z (by rw [q]; rfl))
        have sp := sz_len xs
        have e24 : (2400 : Int32) + nI (lo - 1) = nI (2400 + (lo - 1)) := nI_add 2400 (lo - 1)
        have ck : Int32.toNatClampNeg (nI (2400 + (lo - 1))) = 2400 + (lo - 1) := nI_clamp (by omega)
        rw [if_pos (show ¬ nI xs.length = 0 from fun q => z ((nI_eq (b := 0) (by omega) (by decide)).mp q)), if_neg z, r12_45_36 m, gs_t, gd_t ⟨k_71 m, id _ (n_71 m)⟩, y3, hb, e24, r12_45_30 m, gs_t, gd_t ⟨k_65 m, by rw [n_65 m]; exact inbI (by omega) (by decide)⟩, lt_t]
        simp only [ck]
        have m1 : MSh (sI g 20 65 (2400 + (lo - 1)) (nI (N - 1))) := m.oP ((oP.rf (fun _ _ _ => True) g).sI _ trivial)
        rw [b84_eq m1 hd (by rw [hI_sI, if_neg (fun q => absurd q.1 (by decide))]; exact s2) (many := xs.length) (by rw [getI, if_neg (by simp), hm]), mr_t]
    have och : oP (RQ la d L) g (addH g 72 70 71 d xs.length (lo - 1) (N - 1)) := by
      have a0 : ∀ i k, 70 ≤ i ∧ i ≤ 72 ∧ d ≤ k → RQ la d L 20 i k := fun i k z => by unfold RQ; omega
      unfold addH
      by_cases z : xs.length = 0
      · rw [if_pos z]
        exact (((oP.rf _ g).sI _ (a0 70 d (by omega))).sI _ (a0 71 d (by omega))).sI _ (a0 72 d (by omega))
      · rw [if_neg z]
        have sp := sz_len xs
        exact (((oP.rf _ g).sI _ (by unfold RQ; omega)).sI _ (a0 71 d (by omega))).sI _ (a0 72 d (by omega))
    have e12 : ∀ k, hI (addH g 72 70 71 d xs.length (lo - 1) (N - 1)) 12 45 k = hI g 12 45 k := fun k => by
      unfold addH
      rw [hI_sI, if_neg (fun q => absurd q.1 (by decide)), hI_sI, if_neg (fun q => absurd q.1 (by decide))]
      split <;> rw [hI_sI, if_neg (fun q => absurd q.1 (by decide))]
    have e20 : ∀ i k, 67 ≤ i → i ≤ 68 → hI (addH g 72 70 71 d xs.length (lo - 1) (N - 1)) 20 i k = hI g 20 i k := fun i k i1 i2 => by
      unfold addH
      rw [getI, if_neg (fun q => by omega), getI, if_neg (fun q => by omega)]
      split <;> rw [getI, if_neg (fun q => by omega)]
    exact ⟨_, wh_done st, och, Z, ⟨(e12 43).trans s1, (e12 42).trans s2, (e12 44).trans s3, (e20 67 6 (by decide) (by decide)).trans s4, (e20 68 6 (by decide) (by decide)).trans s5⟩, fun k _ _ => e12 k⟩
  | succ nt ih =>
    intro g m N o n lo y y' h1 h2 h3 ⟨s1, s2, s3, s4, s5⟩ hl Y yb B hb hy
    have py := sz_pos n y
    obtain ⟨g1, f1, f2, f3, f4, f5⟩ := negates_eq m (by omega) s4 hl Y
    have m1 := m.oP f2
    have e12 : ∀ k, hI g1 12 45 k = hI g 12 45 k := fun k => f2.1 12 45 k (fun z => z.elim (fun q => absurd q.1 (by decide)) (fun q => absurd q.1 (by decide)))
    have x2 : oP (fun c i k => ngF N c i k ∨ c = 12 ∧ i = 45 ∧ (k = 43 ∨ k = 44)) g (sI (sI g1 12 45 44 (nI nt)) 12 45 43 (nI (o - 1))) := ((f2.mono (fun _ _ _ z => Or.inl z)).sI _ (Or.inr ⟨rfl, rfl, Or.inr rfl⟩)).sI _ (Or.inr ⟨rfl, rfl, Or.inl rfl⟩)
    have r20 : ∀ i k, hI (sI (sI g1 12 45 44 (nI nt)) 12 45 43 (nI (o - 1))) 20 i k = hI g1 20 i k := fun i k => by rw [hI_sI, if_neg (fun q => absurd q.1 (by decide)), hI_sI, if_neg (fun q => absurd q.1 (by decide))]
    have r12 : ∀ k, k ≠ 43 → k ≠ 44 → hI (sI (sI g1 12 45 44 (nI nt)) 12 45 43 (nI (o - 1))) 12 45 k = hI g 12 45 k := fun k k1 k2 => by rw [rd12, if_neg k1, rd12, if_neg k2]; exact e12 k
    have st : fX12_hasPart_c2 45 (nI (N - 1)) g = some (.inl (nI N, sI (sI g1 12 45 44 (nI nt)) 12 45 43 (nI (o - 1)))) := by
      unfold fX12_hasPart_c2
      rw [gd_t (k_45 m), s3, if_neg (show ¬ nI (nt + 1) ≤ 0 from nI_ge (b := nt + 1) (a := 0) (by omega) (by omega)), f1, bd_t, gd_t (k_45 m1), lt_t, e12, s3, rd12, if_neg (by decide), e12, s1, lt_t]
      rw [show nI (nt + 1) - 1 = nI nt from (pk_sub (a := nt + 1) (b := 1) (by omega)).trans (by rw [Nat.add_sub_cancel]), show nI o - 1 = nI (o - 1) from pk_sub (a := o) (b := 1) (by omega)]
    have sq := notS_sz ⟨n, y⟩
    have Y2 : QR (sI (sI g1 12 45 44 (nI nt)) 12 45 43 (nI (o - 1))) L (notS ⟨n, y⟩).1 (notS ⟨n, y⟩).2 lo := by
      refine QR.st (h := g1) (fun k _ => r20 _ _) (Nat.le_refl _) _ _ lo (fun i k _ _ _ _ _ => r20 _ _) ?_
      exact lft_QR (n + 1) (.inr (4, [y]) : L3 ⊕ (Nat × List (QT n))) lo f3
    have B2 : BL (sI (sI g1 12 45 44 (nI nt)) 12 45 43 (nI (o - 1))) L 72 70 71 d K xs la := by
      refine BL.st (h := g) (fun k _ => ?_) (Nat.le_refl _) (fun a ha => ?_) (fun i k i1 i2 k1 k2 => ?_) B
      · rw [r20]; exact f2.1 _ _ _ (fun z => by unfold ngF mkF at z; omega)
      · rw [r20]; exact f2.1 _ _ _ (fun z => by unfold ngF mkF at z; omega)
      · rw [r20]; exact f2.1 _ _ _ (fun z => by unfold ngF mkF at z; omega)
    obtain ⟨g', p1, p2, p3, p4, p5⟩ := ih (g := sI (sI g1 12 45 44 (nI nt)) 12 45 43 (nI (o - 1))) (m.oP x2) (N := N + 1) (o := o - 1) (y := (notS ⟨n, y⟩).2) (y' := y') (by omega) (by omega) (by omega) ⟨by rw [rd12, if_pos rfl], (r12 42 (by decide) (by decide)).trans s2, by rw [rd12, if_neg (by decide), rd12, if_pos rfl], (r20 67 6).trans f5, (r20 68 6).trans ((f2.1 20 68 6 (fun z => by unfold ngF mkF at z; omega)).trans s5)⟩ (by rw [sq]; show lo + (sz n y + 1) = N + 1; omega) Y2 ((r20 65 _).trans (by rw [Nat.add_sub_cancel]; exact f4)) B2 hb hy
    rw [Nat.add_sub_cancel] at p1
    refine ⟨g', wh_step st p1, (x2.mono (fun c i k z => ?_)).tr p2, p3, ?_, fun k k1 k2 => (p5 k k1 k2).trans (r12 k (by omega) (by omega))⟩
    · unfold ngF mkF at z
      unfold RQ
      omega
    · rw [show o - (nt + 1) = o - 1 - nt by omega, show N + (nt + 1) = N + 1 + nt by omega]
      exact p4
