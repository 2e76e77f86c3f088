/-! WHAT STANDS while a query is taken -/
theorem FK_a {c a k : Nat} (z : FK c a k) : a = 11 ∨ a = 13 ∨ a = 14 := by
  rcases z with z | z
  · have := FQ_a z; omega
  · exact Or.inl z.2.1
def xK (h h' : PH) : Prop := chg FK G3a (fun _ => False) h h'
theorem IXB.take {tx : TX} {ks : List Nat} {e : Nat} {wa wb : Nat → Nat} {h h' : PH} (c : CSh h) (X : IXB tx ks e wa wb h) (b : 89 ≤ hX h) (x : xK h h') : IXB tx ks e wa wb h' := by
  have nF : ∀ c a k, a ≠ 11 → a ≠ 13 → a ≠ 14 → ¬ FK c a k := fun c a k h1 h2 h3 z => by have := FK_a z; omega
  by_cases z : e = 3
  · subst z
    obtain ⟨⟨k1, k2, k3, k4, k5, k6, k7, k8, k9, k10⟩, i1, i2, i3, i4, i5, i6⟩ := X
    have l0 : ks.length = 0 := by have := n_3 c; omega
    have k0 : ks = [] := List.length_eq_zero_iff.mp l0
    subst k0
    have he := x.2.2.2.2 3 i1
    exact ⟨⟨k1, k2, (x.2.1 14 17 2 (by omega) (nF _ _ _ (by decide) (by decide) (by decide))).trans k3, (x.2.2.1 14 17 1 (by omega) (fun z => absurd z.1 (by decide))).trans k4, he.1.trans k5, by rw [he.2]; exact k6, fun i hi => absurd hi (Nat.not_lt_zero _), fun w hw => absurd hw List.not_mem_nil, k9, k10⟩, Nat.lt_of_lt_of_le i1 x.1, i2, fun w hw => absurd hw List.not_mem_nil, by rw [he.2]; exact i4, by rw [he.2]; exact i5, i6⟩
  · exact X.chg b x (nF _ _ _ (by decide) (by decide) (by decide)) (fun a k ha => nF _ _ _ (by omega) (by omega) (by omega)) (fun z => absurd z.1 (by decide)) (fun k y => z y.2) (fun _ _ y => absurd y.1 (by decide)) (fun _ _ y => y)
theorem CI.take {tx : TX} {ks : List Nat} {e : Nat} {wa wb : Nat → Nat} {D : Nat → Prop} {kq : Nat → Option (QT 27)} {E : EVT} {R : PST} {h h' : PH} (C : CI tx ks e wa wb D kq E R h) (x : xK h h') : CI tx ks e wa wb D kq E R h' := by
  obtain ⟨c, o, B, X, K, Y, V, W, n⟩ := C
  have b := B.1
  have n28 : ∀ q ∈ sCR, ¬ (q.1 = 28) := by decide
  have nF : ∀ c a k, a ≠ 11 → a ≠ 13 → a ≠ 14 → ¬ FK c a k := fun c a k h1 h2 h3 z => by have := FK_a z; omega
  have f89 : ∀ c a k, 89 ≤ a → ¬ FK c a k := fun c a k ha => nF c a k (by omega) (by omega) (by omega)
  refine ⟨c.chg b x (fun q hq z => n28 q hq z.1), o, B.chg x (fun _ z => absurd z.1 (by decide)) (fun _ _ z => absurd z.1 (by decide)) (fun a ha => f89 _ _ _ ha) (fun b k hb => f89 _ _ _ hb), IXB.take c X b x, K.chg b x (fun c y k dy => f89 _ _ _ (K.1 y dy).1) (fun c y k dy z => by have := (K.1 y dy).1; have := z.2; omega) (fun _ _ z => absurd z.1 (by decide)) (fun a k h1 h2 h3 => nF _ _ _ (by omega) (by omega) (by omega)) (fun k hk => nF _ _ _ (by decide) (by decide) (by decide)) (fun p hp => ⟨nF _ _ _ (by decide) (by decide) (by decide), nF _ _ _ (by decide) (by decide) (by decide)⟩), Y.chg b x (fun _ _ z => z), V.chg b x (fun c a k q z => ?_), W.chg b x ⟨nF _ _ _ (by decide) (by decide) (by decide), nF _ _ _ (by decide) (by decide) (by decide)⟩ (fun k => nF _ _ _ (by decide) (by decide) (by decide)) (fun _ z => absurd z.1 (by decide)) (fun a ha => f89 _ _ _ ha) (fun _ _ z => absurd z.1 (by decide)) (fun b k hb => f89 _ _ _ hb), n⟩
  have := FK_a z
  simp [isEC] at q
  omega
theorem MI.take {tx : TX} {E : EVT} {R : PST} {h h' : PH} (I : MI tx E R h) (b : 89 ≤ hX h) (x : xK h h') : MI tx E R h' := I.C b x (fun c a k z => by have := FK_a z; omega) (fun c a k z => Or.inr (Or.inl z.1))
theorem RF_mc : ∀ c i k, RF c i k → FM' c i k := fun c i k z => by
  have mc : ∀ k, [0, 2, 3, 8, 14, 18].contains k = true → FM' 12 45 k := fun k hk => by
    show isMc 12 45 k = true
    unfold isMc
    rw [hk]
    rfl
  have sc : ∀ c i k, isScr c i k = true → FM' c i k := fun c i k hk => mc_scr hk
  rcases z with ⟨rfl, rfl, z⟩ | ⟨rfl, z⟩
  · rcases z with z | z | z | z
    · exact mc k (by rw [z]; rfl)
    · exact mc k (by rw [z]; rfl)
    · apply sc
      have : k = 21 ∨ k = 22 ∨ k = 23 ∨ k = 24 := by omega
      rcases this with rfl | rfl | rfl | rfl <;> rfl
    · apply sc
      have : k = 42 ∨ k = 43 ∨ k = 44 ∨ k = 45 := by omega
      rcases this with rfl | rfl | rfl | rfl <;> rfl
  · apply sc
    rcases z with ⟨h1, h2, h3, h4⟩ | ⟨h1, h2, h3⟩ | ⟨h1, h2, h3⟩ | ⟨h1, h2⟩
    · have : i = 60 ∨ i = 61 ∨ i = 62 ∨ i = 63 ∨ i = 64 ∨ i = 65 := by omega
      rcases this with rfl | rfl | rfl | rfl | rfl | rfl <;> simp [isScr, h3]
    · subst h1
      simp [isScr, h2]
    · have : i = 67 ∨ i = 68 ∨ i = 69 := by omega
      rcases this with rfl | rfl | rfl <;> simp [isScr, h3]
    · have : i = 70 ∨ i = 71 ∨ i = 72 ∨ i = 73 ∨ i = 74 ∨ i = 75 ∨ i = 76 := by omega
      rcases this with rfl | rfl | rfl | rfl | rfl | rfl | rfl <;> simp [isScr]
theorem oP_chg {F : Nat → Nat → Nat → Prop} {G : Nat → Nat → Nat → Prop} {L : Nat → Prop} {h h' : PH} (x : oP F h h') : chg F G L h h' := ⟨Nat.le_of_eq x.2.2.2.2.2.1.symm, fun c a k _ n => x.1 c a k n, fun c a k _ _ => by rw [x.2.1], fun c a k _ _ => by rw [x.2.2.1], fun a _ => ⟨by rw [x.2.2.2.1], by rw [x.2.2.2.2.1]⟩⟩
theorem CI.read {tx : TX} {ks : List Nat} {e : Nat} {wa wb : Nat → Nat} {D : Nat → Prop} {kq : Nat → Option (QT 27)} {E : EVT} {R : PST} {h h' : PH} (C : CI tx ks e wa wb D kq E R h) (x : oP RF h h') : CI tx ks e wa wb D kq E R h' := C.M (oP_chg (x.mono RF_mc))
/-- the reference's half: the texts, the events, what is past -/
theorem MI.read {tx : TX} {E : EVT} {R : PST} {h h' : PH} (I : MI tx E R h) (x : oP RF h h') : MI tx E R h' := by
  obtain ⟨m, X, V, W⟩ := I
  have n : ∀ c a k, 46 ≤ a → a < 60 → hI h' c a k = hI h c a k := fun c a k h1 h2 => x.1 c a k (fun z => by unfold RF at z; omega)
  have n45 : ∀ k, k = 14 ∨ k = 18 → hI h' 12 45 k = hI h 12 45 k := fun k hk => x.1 12 45 k (fun z => by unfold RF at z; omega)
  refine ⟨m.oP x, fun i hi => ?_, ⟨(n45 18 (Or.inr rfl)).trans V.1, fun i hi => ?_⟩, ⟨(n45 14 (Or.inl rfl)).trans W.1, fun i hi => ?_⟩⟩
  · have := X i hi
    cases q : tx i with
    | none => rw [q] at this; show hI h' 21 47 i = 0; rw [n _ _ _ (by decide) (by decide)]; exact this
    | some ws =>
      rw [q] at this
      obtain ⟨y1, y2, y3⟩ := this
      exact ⟨by rw [n _ _ _ (by decide) (by decide)]; exact y1, by rw [n _ _ _ (by decide) (by decide)]; exact y2, fun i hi => by rw [n _ _ _ (by decide) (by decide)]; exact y3 i hi⟩
  · rw [n 20 56 i (by decide) (by decide), n 20 57 i (by decide) (by decide), n 20 58 i (by decide) (by decide)]
    exact V.2 i hi
  · have := W.2 i hi
    exact ⟨(n 20 51 i (by decide) (by decide)).trans this.1, this.2.to (Or.inr (n 21 54 i (by decide) (by decide))) (n 20 52 i (by decide) (by decide)) (fun r _ => n 20 53 _ (by decide) (by decide))⟩
