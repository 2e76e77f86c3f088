/-! WHAT STANDS while found texts are noted -/
def FFd (c a k : Nat) : Prop := isScr c a k = true ∨ isFd c a k = true
theorem nFd {c a k : Nat} (e1 : isScr c a k = false) (e2 : isFd c a k = false) : ¬ FFd c a k := fun z => by
  rcases z with z | z
  · rw [e1] at z; cases z
  · rw [e2] at z; cases z
theorem fd_chg {h h' : PH} (s : scrF isFd h h') : chg FFd GM LM h h' := ⟨s.2.2.2.2.2, fun c a k _ n => s.1 c a k (by
  cases z : isScr c a k with
  | false => rfl
  | true => exact absurd (Or.inl z) n) (by
  cases z : isFd c a k with
  | false => rfl
  | true => exact absurd (Or.inr z) n), fun c a k _ _ => by rw [s.2.1], fun c a k _ n => s.2.2.1 c a k (Or.inr n), fun a _ => ⟨by rw [s.2.2.2.1], by rw [s.2.2.2.2.1]⟩⟩
theorem fd_lt {c a k : Nat} (z : isFd c a k = true) : (34 ≤ a ∧ a ≤ 37) ∨ a = 45 ∨ (79 ≤ a ∧ a ≤ 81) := by
  simp [isFd, isFC, isFM] at z
  omega
theorem CI.fd {tx : TX} {ks : List Nat} {e : Nat} {wa wb : Nat → Nat} {D : Nat → Prop} {kq : Nat → Option (QT 27)} {E : EVT} {R : PST} {h h' : PH} (C : CI tx ks e wa wb D kq E R h) (x : chg FFd GM LM h h') : CI tx ks e wa wb D kq E R h' := by
  obtain ⟨c, o, B, X, K, Y, V, W, n⟩ := C
  have b := B.1
  have f89 : ∀ c a k, 89 ≤ a → ¬ FFd c a k := fun c a k ha z => by
    rcases z with z | z
    · rw [isScr_89 ha] at z; cases z
    · have := fd_lt z; omega
  have f60 : ∀ a k, 60 ≤ a → a ≤ 69 → isScr 20 a k = false → ¬ FFd 20 a k := fun a k h1 h2 h3 z => by
    rcases z with z | z
    · rw [h3] at z; cases z
    · have := fd_lt z; omega
  refine ⟨c.chg b x (fun _ _ z => z), o, B.chg x (fun _ z => z) (fun _ _ z => z) (fun a ha => f89 _ _ _ ha) (fun b k hb => f89 _ _ _ hb), X.chg b x (nFd rfl rfl) (fun a k ha => f89 _ _ _ ha) (fun z => z) (fun _ z => z) (fun _ _ z => z) (fun w hw z => ?_), K.chg b x (fun c y k dy => f89 _ _ _ (K.1 y dy).1) (fun _ _ _ _ z => z) (fun _ _ z => z) (fun a k h1 h2 h3 => f60 a k h1 (by omega) (scr60 a h1 h2 k h3)) (fun k hk => f60 66 k (by decide) (by decide) (scr66 hk)) (fun p hp => ⟨f60 67 p (by decide) (by decide) (scr67 hp).1, f60 69 p (by decide) (by decide) (scr67 hp).2⟩), Y.chg b x (fun p hp z => ?_), V.chg b x (fun c a k q z => ?_), W.chg b x ⟨nFd rfl rfl, nFd rfl rfl⟩ (fun k => nFd rfl rfl) (fun _ z => z) (fun a ha => f89 _ _ _ ha) (fun _ _ z => z) (fun b k hb => f89 _ _ _ hb), n⟩
  · have z : wb w = 87 := z
    have := (X.ge hw).2
    omega
  · have z : 24 + p = 87 := z
    omega
  · rcases z with z | z
    · exact ec_mc q (mc_scr z)
    · have l := ec_lt q
      have := fd_lt z
      simp [isEC] at q
      omega
theorem MI.fd {tx : TX} {E : EVT} {R : PST} {h h' : PH} (I : MI tx E R h) (s : scrF isFd h h') : MI tx E R h' := by
  obtain ⟨m, X, V, W⟩ := I
  have m' : MSh h' := m.of (fun q _ => by rw [s.2.1]) (fun a _ => by rw [s.2.2.2.1]) (fun a _ => by rw [s.2.2.2.2.1])
  refine ⟨m', fun i hi => ?_, ⟨(s.1 12 45 18 rfl rfl).trans V.1, fun i hi => ?_⟩, ⟨(s.1 12 45 14 rfl rfl).trans W.1, fun i hi => ?_⟩⟩
  · have := X i hi
    cases q : tx i with
    | none => rw [q] at this; show hI h' 21 47 i = 0; rw [s.1 21 47 i rfl rfl]; exact this
    | some ws =>
      rw [q] at this
      obtain ⟨y1, y2, y3⟩ := this
      exact ⟨by rw [s.1 21 47 i rfl rfl]; exact y1, by rw [s.1 20 49 i rfl rfl]; exact y2, fun j hj => by rw [s.1 20 48 _ rfl rfl]; exact y3 j hj⟩
  · rw [s.1 20 56 i rfl rfl, s.1 20 57 i rfl rfl, s.1 20 58 i rfl rfl]
    exact V.2 i hi
  · have := W.2 i hi
    exact ⟨(s.1 20 51 i rfl rfl).trans this.1, this.2.to (Or.inr (s.1 21 54 i rfl rfl)) (s.1 20 52 i rfl rfl) (fun r _ => s.1 20 53 _ rfl rfl)⟩
theorem TP.fd {bs : List Nat} {er : Int32} {h h' : PH} (T : TP bs er h) (s : scrF isFd h h') : TP bs er h' := ⟨⟨(s.1 7 11 1 rfl rfl).trans T.1.1, fun i hi => (s.1 20 12 i rfl rfl).trans (T.1.2 i hi)⟩, ⟨(s.1 12 45 2 rfl rfl).trans T.2.1.1, fun i hi => (s.1 20 46 i rfl rfl).trans (T.2.1.2 i hi)⟩, T.2.2.1, T.2.2.2.1, (s.1 7 11 2 rfl rfl).trans T.2.2.2.2.1, (s.1 12 45 3 rfl rfl).trans T.2.2.2.2.2⟩
theorem INV1.fd {tx : TX} {bs : List Nat} {er : Int32} {ks : List Nat} {e : Nat} {wa wb : Nat → Nat} {D : Nat → Prop} {kq : Nat → Option (QT 27)} {E : EVT} {R : PST} {h h' : PH} (I : INV1 tx bs er ks e wa wb D kq E R h) (s : scrF isFd h h') : INV1 tx bs er ks e wa wb D kq E R h' := ⟨I.1.fd (fd_chg s), I.2.1.fd s, I.2.2.fd s⟩
