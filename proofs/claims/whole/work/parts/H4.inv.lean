/-! WHAT HOLDS BETWEEN THE CALLS, whole; each call keeps it -/
/-- the class's half under a change of cells that are not its own -/
theorem CI.gen {F G : Nat → Nat → Nat → Prop} {L : Nat → Prop} {tx : TX} {ks : List Nat} {e : Nat} {wa wb : Nat → Nat} {D : Nat → Prop} {kq : Nat → Option (QT 27)} {E : EVT} {R : PST} {kq' : Nat → Option (QT 27)} {h h' : PH} (C : CI tx ks e wa wb D kq E R h) (x : chg F G L h h') (f89 : ∀ c a k, 89 ≤ a → ¬ F c a k) (f1 : ¬ F 14 17 2) (fe : ∀ c a k, isEC c a k = true → ¬ F c a k) (fp : ¬ F 5 19 2 ∧ ¬ F 5 19 3) (f20 : ∀ k, ¬ F 20 20 k) (g : ∀ c a k, G c a k → c = 25) (l : ∀ a, L a → a = 87) (K' : KP D kq' h') (sub : ∀ p, p < 6 → ∀ Q, kq' p = some Q → kq p = some Q) : CI tx ks e wa wb D kq' E R h' := by
  obtain ⟨c, o, B, X, K, Y, V, W, ne⟩ := C
  have b := B.1
  have s25 : ∀ q ∈ sCR, ¬ (q.1 = 25) := by decide
  have Y' : KF tx kq h' := Y.chg b x (fun p hp z => by have := l _ z; omega)
  exact ⟨c.chg b x (fun q hq z => s25 q hq (g _ _ _ z)), o, B.chg x (fun k z => absurd (g _ _ _ z) (by decide)) (fun a _ z => absurd (g _ _ _ z) (by decide)) (fun a ha => f89 _ _ _ ha) (fun b k hb => f89 _ _ _ hb), X.chg b x f1 (fun a k ha => f89 _ _ _ ha) (fun z => absurd (g _ _ _ z) (by decide)) (fun k z => absurd (g _ _ _ z) (by decide)) (fun a _ z => absurd (g _ _ _ z) (by decide)) (fun w hw z => by have := (X.ge hw).2; have := l _ z; omega), K', fun p hp Q eq => Y' p hp Q (sub p hp Q eq), V.chg b x fe, W.chg b x fp f20 (fun k z => absurd (g _ _ _ z) (by decide)) (fun a ha => f89 _ _ _ ha) (fun a _ z => absurd (g _ _ _ z) (by decide)) (fun b k hb => f89 _ _ _ hb), ne⟩
theorem scr_ec {c a k : Nat} (q : isEC c a k = true) (z : isScr c a k = true) : False := by
  have l := ec_lt q
  simp [isEC] at q
  simp [isScr] at z
  omega
/-- scratch cells, room besides: the class's half and the reference's -/
theorem INV1.scx {tx : TX} {bs : List Nat} {er : Int32} {ks : List Nat} {e : Nat} {wa wb : Nat → Nat} {D : Nat → Prop} {kq : Nat → Option (QT 27)} {E : EVT} {R : PST} {h h' : PH} (I : INV1 tx bs er ks e wa wb D kq E R h) (x : scx h h') : INV1 tx bs er ks e wa wb D kq E R h' := by
  have b := I.1.2.2.1.1
  refine ⟨I.1.M (x.mono (fun c a k _ z => mc_scr z) (fun _ _ _ _ z => z) (fun _ _ z => z)), I.2.1.mv b x ⟨fun c a k h1 h2 h3 h4 h5 z => ?_, fun z => (by cases z), fun z => (by cases z)⟩ (fun q hq z => z), I.2.2.chg b x ⟨fun z => (by cases z), fun z => (by cases z), fun z => (by cases z), fun z => (by cases z), fun i => ⟨fun z => (by cases z), fun z => (by cases z)⟩⟩⟩
  simp [isScr] at z
  omega
theorem F_chg {F : Nat → Nat → Nat → Bool} {h h' : PH} (s : scrF F h h') : chg (fun c a k => isScr c a k = true ∨ F c a k = true) GM LM h h' := ⟨s.2.2.2.2.2, fun c a k _ n => s.1 c a k (by
  cases z : isScr c a k with
  | false => rfl
  | true => exact absurd (Or.inl z) n) (by
  cases z : F c a k with
  | false => rfl
  | true => exact absurd (Or.inr z) n), fun c a k _ _ => by rw [s.2.1], fun c a k _ n => s.2.2.1 c a k (Or.inr n), fun a _ => ⟨by rw [s.2.2.2.1], by rw [s.2.2.2.2.1]⟩⟩
theorem tp_r {c a k : Nat} (z : isTp c a k = true) : (c = 7 ∧ a = 11) ∨ (c = 20 ∧ a = 12) ∨ (c = 12 ∧ a = 45 ∧ (k = 2 ∨ k = 3)) ∨ (c = 20 ∧ a = 46) := by
  simp [isTp, isTC, isTM] at z
  omega
theorem MI.tp {tx : TX} {E : EVT} {R : PST} {h h' : PH} (I : MI tx E R h) (s : scrF isTp h h') : MI tx E R h' := by
  obtain ⟨m, X, V, W⟩ := I
  have m' : MSh h' := m.of (fun q _ => by rw [s.2.1]) (fun a _ => by rw [s.2.2.2.1]) (fun a _ => by rw [s.2.2.2.2.1])
  refine ⟨m', fun i hi => ?_, ⟨(s.1 12 45 18 rfl rfl).trans V.1, fun i hi => ?_⟩, ⟨(s.1 12 45 14 rfl rfl).trans W.1, fun i hi => ?_⟩⟩
  · have := X i hi
    cases q : tx i with
    | none => rw [q] at this; show hI h' 21 47 i = 0; rw [s.1 21 47 i rfl rfl]; exact this
    | some ws =>
      rw [q] at this
      obtain ⟨y1, y2, y3⟩ := this
      exact ⟨by rw [s.1 21 47 i rfl rfl]; exact y1, by rw [s.1 20 49 i rfl rfl]; exact y2, fun j hj => by rw [s.1 20 48 _ rfl rfl]; exact y3 j hj⟩
  · rw [s.1 20 56 i rfl rfl, s.1 20 57 i rfl rfl, s.1 20 58 i rfl rfl]
    exact V.2 i hi
  · have := W.2 i hi
    exact ⟨(s.1 20 51 i rfl rfl).trans this.1, this.2.to (Or.inr (s.1 21 54 i rfl rfl)) (s.1 20 52 i rfl rfl) (fun r _ => s.1 20 53 _ rfl rfl)⟩
theorem INV1.tp {tx : TX} {bs : List Nat} {er : Int32} {ks : List Nat} {e : Nat} {wa wb : Nat → Nat} {D : Nat → Prop} {kq : Nat → Option (QT 27)} {E : EVT} {R : PST} {bs' : List Nat} {er' : Int32} {h h' : PH} (I : INV1 tx bs er ks e wa wb D kq E R h) (s : scrF isTp h h') (T : TP bs' er' h') : INV1 tx bs' er' ks e wa wb D kq E R h' := by
  have b := I.1.2.2.1.1
  have x := F_chg s
  have K := I.1.2.2.2.2.1
  have no : ∀ c a k, isScr c a k = false → (60 ≤ a ∨ a < 11 ∨ (13 ≤ a ∧ a < 45)) → ¬ (isScr c a k = true ∨ isTp c a k = true) := fun c a k h1 h2 z => by
    rcases z with z | z
    · rw [h1] at z; cases z
    · have := tp_r z; omega
  refine ⟨I.1.gen x (fun c a k ha => no c a k (isScr_89 ha) (Or.inl (by omega))) (no _ _ _ rfl (by decide)) (fun c a k q z => ?_) ⟨no _ _ _ rfl (by decide), no _ _ _ rfl (by decide)⟩ (fun k => no _ _ _ rfl (by decide)) (fun c a k z => z.elim) (fun a z => z) (K.chg b x (fun c y k dy => no c y k (isScr_89 (K.1 y dy).1) (Or.inl (by have := (K.1 y dy).1; omega))) (fun _ _ _ _ z => z) (fun _ _ z => z) (fun a k h1 h2 h3 => no _ _ _ (scr60 a h1 h2 k h3) (Or.inl h1)) (fun k hk => no _ _ _ (scr66 hk) (by decide)) (fun p hp => ⟨no _ _ _ (scr67 hp).1 (by decide), no _ _ _ (scr67 hp).2 (by decide)⟩)) (fun _ _ _ q => q), I.2.1.tp s, T⟩
  rcases z with z | z
  · exact scr_ec q z
  · have := tp_r z
    simp [isEC] at q
    omega
/-- what holds between the calls -/
def INVA (h : PH) : Prop := ∃ (tx : TX) (bs : List Nat) (er : Int32) (ks : List Nat) (e : Nat) (wa wb : Nat → Nat) (D : Nat → Prop) (kq : Nat → Option (QT 27)) (E : EVT) (R : PST) (n0 : Nat) (f0 r0 s0 : Nat → Int32) (dn : Option Nat) (df : Nat → Int32) (cs : List Nat) (v : Nat), INV1 tx bs er ks e wa wb D kq E R h ∧ (∀ i, i < 6 → ∀ Q, kq i = some Q → OKK Q) ∧ FDn n0 f0 r0 s0 h ∧ DFn dn df h ∧ WRn D cs v h
theorem fd_out {c a k : Nat} (z : isFd c a k = true) : a < 89 ∧ isOut c a k = true := by
  simp [isFd, isFC, isFM] at z
  simp [isOut]
  omega
theorem d4_out {c a k : Nat} (z : FD4 c a k) : a < 89 ∧ isOut c a k = true := by
  unfold FD4 at z
  simp [isOut]
  omega
theorem FDn.x {F G : Nat → Nat → Nat → Prop} {L : Nat → Prop} {n : Nat} {f r s : Nat → Int32} {h h' : PH} (Z : FDn n f r s h) (b : 89 ≤ hX h) (x : chg F G L h h') (q : ∀ c a k, isFd c a k = true → ¬ F c a k) : FDn n f r s h' := FDn_eq Z (fun c a k z => x.2.1 c a k (by have := (fd_out z).1; omega) (q c a k z))
theorem DFn.x {F G : Nat → Nat → Nat → Prop} {L : Nat → Prop} {n : Option Nat} {f : Nat → Int32} {h h' : PH} (Z : DFn n f h) (b : 89 ≤ hX h) (x : chg F G L h h') (f4 : ∀ c a k, FD4 c a k → ¬ F c a k) : DFn n f h' := by
  have q : ∀ c a k, FD4 c a k → hI h' c a k = hI h c a k := fun c a k z => x.2.1 c a k (by have := (d4_out z).1; omega) (f4 c a k z)
  obtain ⟨z1, z2, z3, z4⟩ := Z
  exact ⟨z1, (q 0 38 4 (Or.inl ⟨rfl, rfl, rfl⟩)).trans z2, (q 12 45 59 (Or.inr (Or.inr (Or.inl ⟨rfl, rfl, rfl⟩)))).trans z3, fun k hk i hi => ⟨(q 20 42 i (Or.inr (Or.inl ⟨rfl, rfl⟩))).trans (z4 k hk i hi).1, (q 20 86 i (Or.inr (Or.inr (Or.inr ⟨rfl, rfl⟩)))).trans (z4 k hk i hi).2⟩⟩
theorem wrn_x {F G : Nat → Nat → Nat → Prop} {L : Nat → Prop} {D D' : Nat → Prop} {h h' : PH} {cs : List Nat} {v : Nat} (W : WRn D cs v h) (b : 89 ≤ hX h) (x : chg F G L h h') (dd : ∀ x, D' x → D x ∨ hX h ≤ x) (f : ∀ c a k, F c a k → ((c = 13 ∧ a = 43) ∨ (c = 22 ∧ a = v) ∨ (c = 12 ∧ a = 45 ∧ k = 56) ∨ (c = 20 ∧ a = 84)) → False) (g : ∀ c a k, G c a k → c ≠ 13) : WRn D' cs v h' := by
  have lv : v < hX h := W.1.2.2.2.2.2.1
  have nD := W.2.1
  refine W.chg b x (fun z => ?_) (fun k z => f _ _ _ z (Or.inl ⟨rfl, rfl⟩)) (fun k z => f _ _ _ z (Or.inr (Or.inl ⟨rfl, rfl⟩))) (fun z => g _ _ _ z rfl) (fun z => f _ _ _ z (Or.inr (Or.inr (Or.inl ⟨rfl, rfl, rfl⟩)))) (fun k z => f _ _ _ z (Or.inr (Or.inr (Or.inr ⟨rfl, rfl⟩))))
  rcases dd v z with y | y
  · exact nD y
  · omega
theorem wr_o {D : Nat → Prop} {h : PH} {cs : List Nat} {v : Nat} (W : WRn D cs v h) {c a k : Nat} (y : (c = 13 ∧ a = 43) ∨ (c = 22 ∧ a = v) ∨ (c = 12 ∧ a = 45 ∧ k = 56) ∨ (c = 20 ∧ a = 84)) : (isOut c a k = true ∨ (89 ≤ a ∧ c = 22)) ∧ isFd c a k = false ∧ isScr c a k = false ∧ ¬ FD4 c a k := by
  have hv : v = 44 ∨ 89 ≤ v := W.1.2.2.2.2.2.2.1
  rcases y with ⟨rfl, rfl⟩ | ⟨rfl, rfl⟩ | ⟨rfl, rfl, rfl⟩ | ⟨rfl, rfl⟩
  · exact ⟨Or.inl rfl, rfl, rfl, fun z => by unfold FD4 at z; omega⟩
  · refine ⟨?_, rfl, scr22, fun z => by unfold FD4 at z; omega⟩
    rcases hv with rfl | hv
    · exact Or.inl rfl
    · exact Or.inr ⟨hv, rfl⟩
  · exact ⟨Or.inl rfl, rfl, rfl, fun z => by unfold FD4 at z; omega⟩
  · exact ⟨Or.inl rfl, rfl, rfl, fun z => by unfold FD4 at z; omega⟩
theorem FR_nout {c a k : Nat} (z : FR c a k) (y : isOut c a k = true) : False := by
  have := z.2
  rw [y] at this
  cases this
theorem inva_rest {tx : TX} {bs : List Nat} {er : Int32} {ks : List Nat} {e : Nat} {wa wb : Nat → Nat} {D : Nat → Prop} {kq : Nat → Option (QT 27)} {E : EVT} {R : PST} {n0 : Nat} {f0 r0 s0 : Nat → Int32} {dn : Option Nat} {df : Nat → Int32} {cs : List Nat} {v : Nat} {tx' : TX} {bs' : List Nat} {er' : Int32} {ks' : List Nat} {e' : Nat} {wa' wb' : Nat → Nat} {D' : Nat → Prop} {kq' : Nat → Option (QT 27)} {E' : EVT} {R' : PST} {h h' : PH} (I : INV1 tx bs er ks e wa wb D kq E R h) (Z : FDn n0 f0 r0 s0 h) (Y : DFn dn df h) (W : WRn D cs v h) (J : INV1 tx' bs' er' ks' e' wa' wb' D' kq' E' R' h') (OK : ∀ i, i < 6 → ∀ Q, kq' i = some Q → OKK Q) (dd : ∀ x, D' x → D x ∨ hX h ≤ x) (x : rest h h') : INVA h' := by
  have b := I.1.2.2.1.1
  refine ⟨_, _, _, _, _, _, _, _, _, _, _, _, _, _, _, _, _, _, _, J, OK, Z.x b x (fun c a k z y => FR_nout y (fd_out z).2), Y.x b x (fun c a k z y => FR_nout y (d4_out z).2), wrn_x W b x dd (fun c a k z y => ?_) (fun c a k z => z)⟩
  rcases (wr_o W y).1 with u | u
  · exact FR_nout z u
  · have := z.1; omega
theorem inva_restF {tx : TX} {bs : List Nat} {er : Int32} {ks : List Nat} {e : Nat} {wa wb : Nat → Nat} {D : Nat → Prop} {kq : Nat → Option (QT 27)} {E : EVT} {R : PST} {dn : Option Nat} {df : Nat → Int32} {cs : List Nat} {v : Nat} {tx' : TX} {bs' : List Nat} {er' : Int32} {ks' : List Nat} {e' : Nat} {wa' wb' : Nat → Nat} {kq' : Nat → Option (QT 27)} {E' : EVT} {R' : PST} {n1 : Nat} {f1 r1 s1 : Nat → Int32} {h h' : PH} (I : INV1 tx bs er ks e wa wb D kq E R h) (Y : DFn dn df h) (W : WRn D cs v h) (J : INV1 tx' bs' er' ks' e' wa' wb' D kq' E' R' h') (OK : ∀ i, i < 6 → ∀ Q, kq' i = some Q → OKK Q) (Z : FDn n1 f1 r1 s1 h') (x : restF h h') : INVA h' := by
  have b := I.1.2.2.1.1
  have nd : ∀ c a k, FD4 c a k → isFd c a k = false := fun c a k z => by
    unfold FD4 at z
    rcases z with ⟨rfl, rfl, rfl⟩ | ⟨rfl, rfl⟩ | ⟨rfl, rfl, rfl⟩ | ⟨rfl, rfl⟩ <;> rfl
  refine ⟨_, _, _, _, _, _, _, _, _, _, _, _, _, _, _, _, _, _, _, J, OK, Z, Y.x b x (fun c a k z y => ?_), wrn_x W b x (fun _ z => Or.inl z) (fun c a k z y => ?_) (fun c a k z => z)⟩
  · rcases y with y | y
    · exact FR_nout y (d4_out z).2
    · rw [nd c a k z] at y; cases y
  · obtain ⟨w1, w2, -, -⟩ := wr_o W y
    rcases z with z | z
    · rcases w1 with u | u
      · exact FR_nout z u
      · have := z.1; omega
    · rw [w2] at z; cases z
theorem tp_rest {h h' : PH} (s : scrF isTp h h') : rest h h' := (F_chg s).mono (fun c a k _ z => by
  rcases z with z | z
  · exact ⟨Nat.lt_of_not_le (fun y => by rw [isScr_89 y] at z; cases z), mc_out (mc_scr z)⟩
  · have y := tp_r z
    refine ⟨by omega, ?_⟩
    cases u : isOut c a k with
    | false => rfl
    | true =>
      simp [isOut] at u
      omega) (fun _ _ _ _ z => z.elim) (fun _ _ _ => trivial)
theorem inva_scr {tx : TX} {bs : List Nat} {er : Int32} {ks : List Nat} {e : Nat} {wa wb : Nat → Nat} {D : Nat → Prop} {kq : Nat → Option (QT 27)} {E : EVT} {R : PST} {n0 : Nat} {f0 r0 s0 : Nat → Int32} {dn : Option Nat} {df : Nat → Int32} {cs : List Nat} {v : Nat} {h h' : PH} (I : INV1 tx bs er ks e wa wb D kq E R h) (OK : ∀ i, i < 6 → ∀ Q, kq i = some Q → OKK Q) (Z : FDn n0 f0 r0 s0 h) (Y : DFn dn df h) (W : WRn D cs v h) (s : scr h h') : INVA h' := inva_rest I Z Y W (I.scr s) OK (fun _ z => Or.inl z) (mc_rest (scr_mc s))
theorem inva_scx {tx : TX} {bs : List Nat} {er : Int32} {ks : List Nat} {e : Nat} {wa wb : Nat → Nat} {D : Nat → Prop} {kq : Nat → Option (QT 27)} {E : EVT} {R : PST} {n0 : Nat} {f0 r0 s0 : Nat → Int32} {dn : Option Nat} {df : Nat → Int32} {cs : List Nat} {v : Nat} {h h' : PH} (I : INV1 tx bs er ks e wa wb D kq E R h) (OK : ∀ i, i < 6 → ∀ Q, kq i = some Q → OKK Q) (Z : FDn n0 f0 r0 s0 h) (Y : DFn dn df h) (W : WRn D cs v h) (s : scx h h') : INVA h' := inva_rest I Z Y W (I.scx s) OK (fun _ z => Or.inl z) (mc_rest (s.mono (fun c a k _ z => mc_scr z) (fun _ _ _ _ z => z) (fun _ _ z => z)))
theorem inva_tp {tx : TX} {bs : List Nat} {er : Int32} {ks : List Nat} {e : Nat} {wa wb : Nat → Nat} {D : Nat → Prop} {kq : Nat → Option (QT 27)} {E : EVT} {R : PST} {n0 : Nat} {f0 r0 s0 : Nat → Int32} {dn : Option Nat} {df : Nat → Int32} {cs : List Nat} {v : Nat} {bs' : List Nat} {er' : Int32} {h h' : PH} (I : INV1 tx bs er ks e wa wb D kq E R h) (OK : ∀ i, i < 6 → ∀ Q, kq i = some Q → OKK Q) (Z : FDn n0 f0 r0 s0 h) (Y : DFn dn df h) (W : WRn D cs v h) (s : scrF isTp h h') (T : TP bs' er' h') : INVA h' := inva_rest I Z Y W (I.tp s T) OK (fun _ z => Or.inl z) (tp_rest s)
theorem fd_restF {h h' : PH} (s : scrF isFd h h') : restF h h' := (fd_chg s).mono (fun c a k _ z => by
  rcases z with z | z
  · exact Or.inl ⟨Nat.lt_of_not_le (fun y => by rw [isScr_89 y] at z; cases z), mc_out (mc_scr z)⟩
  · exact Or.inr z) (fun _ _ _ _ z => z.elim) (fun _ _ _ => trivial)
theorem inva_drop {tx : TX} {bs : List Nat} {er : Int32} {ks : List Nat} {e : Nat} {wa wb : Nat → Nat} {D : Nat → Prop} {kq : Nat → Option (QT 27)} {E : EVT} {R : PST} {n0 : Nat} {f0 r0 s0 : Nat → Int32} {dn : Option Nat} {df : Nat → Int32} {cs : List Nat} {v : Nat} {h h' : PH} (I : INV1 tx bs er ks e wa wb D kq E R h) (OK : ∀ i, i < 6 → ∀ Q, kq i = some Q → OKK Q) (Z : FDn n0 f0 r0 s0 h) (Y : DFn dn df h) (W : WRn D cs v h) {p : Nat} (hp : p < 6) (x : chg (fun c a k => isScr c a k = true ∨ (c = 20 ∧ a = 69 ∧ k = p)) (fun c a k => c = 25 ∧ a = 22 ∧ k = p) (fun a => a = 87) h h') (K' : KP D (fun i => if i = p then none else kq i) h') : INVA h' := by
  have b := I.1.2.2.1.1
  have sub : ∀ i Q, (fun i => if i = p then none else kq i) i = some Q → kq i = some Q := fun i Q eq => by
    have eq : (if i = p then none else kq i) = some Q := eq
    by_cases d : i = p
    · rw [if_pos d] at eq; cases eq
    · rw [if_neg d] at eq; exact eq
  have no : ∀ c a k, isScr c a k = false → a ≠ 69 → ¬ (isScr c a k = true ∨ (c = 20 ∧ a = 69 ∧ k = p)) := fun c a k h1 h2 z => by
    rcases z with z | z
    · rw [h1] at z; cases z
    · exact h2 z.2.1
  have s25 : ∀ q ∈ sMR, ¬ (q.1 = 25) := by decide
  have C' : CI tx ks e wa wb D (fun i => if i = p then none else kq i) E R h' := I.1.gen x (fun c a k ha => no c a k (isScr_89 ha) (by omega)) (no _ _ _ rfl (by decide)) (fun c a k q z => by
    rcases z with z | z
    · exact scr_ec q z
    · have := ec_lt q; omega) ⟨no _ _ _ rfl (by decide), no _ _ _ rfl (by decide)⟩ (fun k => no _ _ _ rfl (by decide)) (fun c a k z => z.1) (fun a z => z) K' (fun i _ Q eq => sub i Q eq)
  have M' : MI tx E R h' := I.2.1.mv b x ⟨fun c a k h1 h2 h3 h4 h5 z => by
    rcases z with z | z
    · simp [isScr] at z; omega
    · omega, no _ _ _ rfl (by decide), no _ _ _ rfl (by decide)⟩ (fun q hq z => s25 q hq z.1)
  have T' : TP bs er h' := I.2.2.chg b x ⟨no _ _ _ rfl (by decide), no _ _ _ rfl (by decide), no _ _ _ rfl (by decide), no _ _ _ rfl (by decide), fun i => ⟨no _ _ _ rfl (by decide), no _ _ _ rfl (by decide)⟩⟩
  refine inva_rest I Z Y W ⟨C', M', T'⟩ (fun i hi Q eq => OK i hi Q (sub i Q eq)) (fun _ z => Or.inl z) (x.mono (fun c a k _ z => ?_) (fun c a k _ z => show c ≠ 13 by rw [z.1]; decide) (fun _ _ _ => trivial))
  rcases z with z | ⟨rfl, rfl, rfl⟩
  · exact ⟨Nat.lt_of_not_le (fun y => by rw [isScr_89 y] at z; cases z), mc_out (mc_scr z)⟩
  · exact ⟨by decide, rfl⟩
theorem inva_wr {tx : TX} {bs : List Nat} {er : Int32} {ks : List Nat} {e : Nat} {wa wb : Nat → Nat} {D : Nat → Prop} {kq : Nat → Option (QT 27)} {E : EVT} {R : PST} {n0 : Nat} {f0 r0 s0 : Nat → Int32} {dn : Option Nat} {df : Nat → Int32} {v : Nat} {cs' : List Nat} {v' : Nat} {h h' : PH} (I : INV1 tx bs er ks e wa wb D kq E R h) (OK : ∀ i, i < 6 → ∀ Q, kq i = some Q → OKK Q) (Z : FDn n0 f0 r0 s0 h) (Y : DFn dn df h) (J : INV1 tx bs er ks e wa wb D kq E R h') (W' : WRn D cs' v' h') (x : chg (FWW v) GSb (fun a => a = 87) h h') (hv : v = 44 ∨ 89 ≤ v) : INVA h' := by
  have b := I.1.2.2.1.1
  refine ⟨_, _, _, _, _, _, _, _, _, _, _, _, _, _, _, _, _, _, _, J, OK, Z.x b x (fun c a k z y => ?_), Y.x b x (fun c a k z y => ?_), W'⟩
  · have z' := z
    simp [isFd, isFC, isFM] at z
    rcases y with y | y | y | y | y
    · simp [isScr] at y; omega
    · omega
    · omega
    · omega
    · omega
  · have z' := z
    unfold FD4 at z
    rcases y with y | y | y | y | y
    · rcases z with ⟨rfl, rfl, rfl⟩ | ⟨rfl, rfl⟩ | ⟨rfl, rfl, rfl⟩ | ⟨rfl, rfl⟩ <;> cases y
    · omega
    · omega
    · omega
    · omega
theorem inva_cm {tx : TX} {bs : List Nat} {er : Int32} {ks : List Nat} {e : Nat} {wa wb : Nat → Nat} {D : Nat → Prop} {kq : Nat → Option (QT 27)} {E : EVT} {R : PST} {n0 : Nat} {f0 r0 s0 : Nat → Int32} {cs : List Nat} {v : Nat} {dn' : Option Nat} {df' : Nat → Int32} {h h' : PH} (I : INV1 tx bs er ks e wa wb D kq E R h) (OK : ∀ i, i < 6 → ∀ Q, kq i = some Q → OKK Q) (Z : FDn n0 f0 r0 s0 h) (W : WRn D cs v h) (J : INV1 tx bs er ks e wa wb D kq E R h') (Y' : DFn dn' df' h') (x : cmC h h') : INVA h' := by
  have b := I.1.2.2.1.1
  refine ⟨_, _, _, _, _, _, _, _, _, _, _, _, _, _, _, _, _, _, _, J, OK, Z.x b x (fun c a k z y => ?_), Y', wrn_x W b x (fun _ z => Or.inl z) (fun c a k z y => ?_) (fun c a k z => by rw [z.1]; decide)⟩
  · simp [isFd, isFC, isFM] at z
    rcases y with y | y
    · simp [isScr] at y; omega
    · unfold FD4 at y; omega
  · obtain ⟨-, -, w3, w4⟩ := wr_o W y
    rcases z with z | z
    · rw [w3] at z; cases z
    · exact w4 z
/-- every call keeps what holds between the calls -/
theorem all_calls {h : PH} (A : INVA h) (a1 a2 a3 a4 a5 : Int32) : LSall 10 45 87 88 a1 a2 a3 a4 a5 h INVA := by
  obtain ⟨tx, bs, er, ks, e, wa, wb, D, kq, E, R, n0, f0, r0, s0, dn, df, cs, v, I, OK, Z, Y, W⟩ := A
  obtain ⟨C, M, T⟩ := id I
  obtain ⟨c, o, B, X, K, KFk, V, U, ne⟩ := id C
  obtain ⟨m, X2, V2, U2⟩ := id M
  have b := B.1
  have Ix := X.1
  have P0 : ∀ h', scr h h' → INVA h' := fun h' s => inva_scr I OK Z Y W s
  have Pr : ∀ h', INVX D kq h' → rest h h' → INVA h' := fun h' J x => by
    obtain ⟨_, _, _, _, _, _, _, _, _, J⟩ := J
    exact inva_rest I Z Y W J OK (fun _ z => Or.inl z) x
  have Pt : ∀ h' bs', scrF isTp h h' → TP bs' er h' → INVA h' := fun h' bs' s T => inva_tp I OK Z Y W s T
  have Pk : ∀ h' bs' v' D' kq', INV1 tx bs' v' ks e wa wb D' kq' E R h' → (∀ x, D' x → D x ∨ hX h ≤ x) → okN kq kq' → rest h h' → INVA h' := fun h' bs' v' D' kq' J dd ok x => inva_rest I Z Y W J (fun i hi Q eq => (ok i hi Q eq).elim (OK i hi Q) id) dd x
  have Ev := EVn.one V V2
  have Ps := PSn.of U U2
  have hv := W.1.2.2.2.2.2.2.1
  exact ⟨ls_append c m T a1 a2 a3 a4 a5 Pt,
    ls_clearTape c m T a1 a2 a3 a4 a5 Pt,
    ls_errorPosition c m T a1 a2 a3 a4 a5 P0,
    ls_addText I a1 a2 a3 a4 a5 Pr,
    ls_replaceText I a1 a2 a3 a4 a5 Pr,
    ls_removeText I a1 a2 a3 a4 a5 Pr,
    ls_putWord I a1 a2 a3 a4 a5 Pr,
    ls_takeWord I a1 a2 a3 a4 a5 Pr,
    ls_setWord I a1 a2 a3 a4 a5 Pr,
    ls_undo I a1 a2 a3 a4 a5 Pr,
    ls_undoable c m Ps a1 a2 a3 a4 a5 P0,
    ls_texts c m B.CT X2 a1 a2 a3 a4 a5 P0,
    ls_nextText c m B.CT X2 a1 a2 a3 a4 a5 P0,
    ls_length c m B.CT X2 a1 a2 a3 a4 a5 P0,
    ls_wordAt c m o B.CT X2 a1 a2 a3 a4 a5 P0,
    ls_letterAt c m o B.CT X2 a1 a2 a3 a4 a5 P0,
    ls_words c m o X2 Ix a1 a2 a3 a4 a5 P0,
    ls_indexWord c m o X2 Ix a1 a2 a3 a4 a5 P0,
    ls_firstWord c m o X2 Ix a1 a2 a3 a4 a5 P0,
    ls_lastWord c m o X2 Ix a1 a2 a3 a4 a5 P0,
    ls_beside c m o X2 Ix a1 a2 a3 a4 a5 P0,
    ls_between c m o X2 Ix a1 a2 a3 a4 a5 P0,
    ls_beginning c m o X2 Ix a1 a2 a3 a4 a5 P0,
    ls_textsWith c m o X2 Ix a1 a2 a3 a4 a5 P0,
    ls_isIn c m o X2 Ix a1 a2 a3 a4 a5 P0,
    ls_nextWith c m o X2 Ix a1 a2 a3 a4 a5 P0,
    ls_places c m o B.CT X2 a1 a2 a3 a4 a5 P0,
    ls_placeIn c m o B.CT X2 a1 a2 a3 a4 a5 P0,
    ls_frequent c m o X2 Ix a1 a2 a3 a4 a5 P0,
    ls_together c m o X2 Ix a1 a2 a3 a4 a5 P0,
    ls_companion c m o X2 Ix a1 a2 a3 a4 a5 P0,
    ls_neighbours c m o X2 Ix a1 a2 a3 a4 a5 P0,
    ls_neighbourAt c m o X2 Ix a1 a2 a3 a4 a5 P0,
    ls_ask I Z a1 a2 a3 a4 a5 (fun h' v n f r s J F x => inva_restF I Y W J OK F x),
    ls_askKept c m o B X2 K Z a1 a2 a3 a4 a5 (fun h' n f r s q F => inva_restF I Y W (I.fd q) OK F (fd_restF q)),
    ls_foundAt c m Z a1 a2 a3 a4 a5 P0,
    ls_rankAt c m Z a1 a2 a3 a4 a5 P0,
    ls_scoreAt c m Z a1 a2 a3 a4 a5 P0,
    ls_keep I a1 a2 a3 a4 a5 Pk,
    ls_keepNot I OK a1 a2 a3 a4 a5 Pk,
    ls_drop c m b K a1 a2 a3 a4 a5 P0 (fun h' p hp x K' => inva_drop I OK Z Y W hp x K'),
    ls_parts I a1 a2 a3 a4 a5 Pr,
    ls_partFound I a1 a2 a3 a4 a5 Pr,
    ls_write I OK W a1 a2 a3 a4 a5 P0 (fun h' cs' v' J W' x => inva_wr I OK Z Y J W' x hv),
    ls_writtenAt c m b W a1 a2 a3 a4 a5 P0,
    ls_events c m Ev a1 a2 a3 a4 a5 P0,
    ls_eventOf c m Ev a1 a2 a3 a4 a5 P0,
    ls_compare I Y a1 a2 a3 a4 a5 (fun h' n f J Y' x => inva_cm I OK Z W J Y' x),
    ls_differAt c m Y a1 a2 a3 a4 a5 P0,
    ls_unlike c m o B.CT X2 a1 a2 a3 a4 a5 P0,
    ls_common c m o B.CT X2 a1 a2 a3 a4 a5 P0,
    ls_nearest c m o B.CT X2 a1 a2 a3 a4 a5 P0,
    ls_meanLength c m o B.CT X2 a1 a2 a3 a4 a5 P0,
    ls_share c m o B.CT X2 Ix a1 a2 a3 a4 a5 P0,
    ls_errors c m o B X K KFk a1 a2 a3 a4 a5 (fun h' s => inva_scx I OK Z Y W s),
    tx, bs, er, ks, e, wa, wb, D, kq, E, R, n0, f0, r0, s0, dn, df, cs, v, I, OK, Z, Y, W⟩
