/-! WHAT STANDS while a text changes; the ends of the calls that change a text -/
def isOut (_c a k : Nat) : Bool := decide (34 ≤ a ∧ a ≤ 37) || (a == 38 && k == 4) || a == 42 || a == 43 || a == 44 || (a == 45 && (k == 51 || k == 56 || k == 59)) || decide (79 ≤ a ∧ a ≤ 81) || a == 84 || a == 86
def FR (c a k : Nat) : Prop := a < 89 ∧ isOut c a k = false
def GRx (c _a _k : Nat) : Prop := c ≠ 13
def LR (_ : Nat) : Prop := True
def rest (h h' : PH) : Prop := chg FR GRx LR h h'
theorem out_34 {c a k : Nat} (h : a < 34) : isOut c a k = false := by
  cases e : isOut c a k with
  | false => rfl
  | true =>
    simp [isOut] at e
    omega
theorem mc_out {c a k : Nat} (h : isMc c a k = true) : isOut c a k = false := by
  cases e : isOut c a k with
  | false => rfl
  | true =>
    exfalso
    simp [isOut] at e
    simp [isMc, isScr] at h
    omega
theorem mc_rest {h h' : PH} (x : chg FM' GM LM h h') : rest h h' := x.mono (fun c a k _ z => ⟨by
  rcases Nat.lt_or_ge a 89 with y | y
  · exact y
  · exact absurd z (nM (mc_89 y)), mc_out z⟩) (fun _ _ _ _ z => z.elim) (fun _ _ _ => trivial)
theorem FW_34 {c a k : Nat} (z : FW c a k) : a < 34 := by
  rcases z with z | z | z
  · have := z.2.1; omega
  · have := ec_lt z; omega
  · rcases z with z | z <;> omega
theorem GW_c {e c a k : Nat} (z : GW e c a k) : c = 14 ∨ c = 28 ∨ c = 26 := by
  rcases z with (z | z) | z
  · exact Or.inl z.1
  · exact Or.inr (Or.inl z.1)
  · exact Or.inr (Or.inr z.1)
theorem FW_rest {e : Nat} {h h' : PH} (x : chg FW (GW e) LW h h') : rest h h' := x.mono (fun c a k _ z => ⟨by have := FW_34 z; omega, out_34 (FW_34 z)⟩) (fun c a k _ z y => by rw [y] at z; have := GW_c z; omega) (fun _ _ _ => trivial)
theorem scr_mc {h h' : PH} (s : scr h h') : chg FM' GM LM h h' := s.chg (fun _ _ _ z => mc_scr z) rfl
theorem MI.scr {tx : TX} {E : EVT} {R : PST} {h h' : PH} (I : MI tx E R h) (s : scr h h') : MI tx E R h' := by
  obtain ⟨m, X, V, W⟩ := I
  refine ⟨m.scr s, X.scr s, ⟨(s.1 12 45 18 rfl).trans V.1, fun i hi => ?_⟩, ⟨(s.1 12 45 14 rfl).trans W.1, fun i hi => ?_⟩⟩
  · rw [s.1 20 56 i rfl, s.1 20 57 i rfl, s.1 20 58 i rfl]
    exact V.2 i hi
  · have := W.2 i hi
    exact ⟨(s.1 20 51 i rfl).trans this.1, this.2.to (Or.inr (s.1 21 54 i rfl)) (s.1 20 52 i rfl) (fun r _ => s.1 20 53 _ rfl)⟩
theorem TP.scr {bs : List Nat} {er : Int32} {h h' : PH} (T : TP bs er h) (s : scr h h') : TP bs er h' := ⟨T.1.scr s, T.2.1.scr s, T.2.2.1, T.2.2.2.1, (s.1 7 11 2 rfl).trans T.2.2.2.2.1, (s.1 12 45 3 rfl).trans T.2.2.2.2.2⟩
theorem INV1.scr {tx : TX} {bs : List Nat} {er : Int32} {ks : List Nat} {e : Nat} {wa wb : Nat → Nat} {D : Nat → Prop} {kq : Nat → Option (QT 27)} {E : EVT} {R : PST} {h h' : PH} (I : INV1 tx bs er ks e wa wb D kq E R h) (s : scr h h') : INV1 tx bs er ks e wa wb D kq E R h' := ⟨I.1.M (scr_mc s), I.2.1.scr s, I.2.2.scr s⟩
def INVX (D : Nat → Prop) (kq : Nat → Option (QT 27)) (h : PH) : Prop := ∃ tx bs er ks e wa wb E R, INV1 tx bs er ks e wa wb D kq E R h
theorem INV1.X {tx : TX} {bs : List Nat} {er : Int32} {ks : List Nat} {e : Nat} {wa wb : Nat → Nat} {D : Nat → Prop} {kq : Nat → Option (QT 27)} {E : EVT} {R : PST} {h : PH} (I : INV1 tx bs er ks e wa wb D kq E R h) : INVX D kq h := ⟨_, _, _, _, _, _, _, _, _, I⟩
theorem TP.chg {F G : Nat → Nat → Nat → Prop} {L : Nat → Prop} {bs : List Nat} {er : Int32} {h h' : PH} (T : TP bs er h) (b : 89 ≤ hX h) (x : chg F G L h h') (f : ¬ F 7 11 1 ∧ ¬ F 7 11 2 ∧ ¬ F 12 45 2 ∧ ¬ F 12 45 3 ∧ ∀ i, ¬ F 20 12 i ∧ ¬ F 20 46 i) : TP bs er h' := ⟨⟨(x.2.1 7 11 1 (by omega) f.1).trans T.1.1, fun i hi => (x.2.1 20 12 i (by omega) (f.2.2.2.2 i).1).trans (T.1.2 i hi)⟩, ⟨(x.2.1 12 45 2 (by omega) f.2.2.1).trans T.2.1.1, fun i hi => (x.2.1 20 46 i (by omega) (f.2.2.2.2 i).2).trans (T.2.1.2 i hi)⟩, T.2.2.1, T.2.2.2.1, (x.2.1 7 11 2 (by omega) f.2.1).trans T.2.2.2.2.1, (x.2.1 12 45 3 (by omega) f.2.2.2.1).trans T.2.2.2.2.2⟩
def xW (e : Nat) (h h' : PH) : Prop := chg FW (GW e) LW h h'
theorem TP.W {e : Nat} {bs : List Nat} {er : Int32} {h h' : PH} (T : TP bs er h) (b : 89 ≤ hX h) (x : xW e h h') : TP bs er h' := by
  have n : ∀ c a k, 34 ≤ a → ¬ FW c a k := fun c a k ha z => by have := FW_34 z; omega
  have n1 : ∀ c k, ¬ FW c 11 k := fun c k z => by
    rcases z with z | z | z
    · have := z.2.1; omega
    · have := ec_lt z; omega
    · rcases z with z | z <;> omega
  have n2 : ∀ c k, ¬ FW c 12 k := fun c k z => by
    rcases z with z | z | z
    · have := z.2.1; omega
    · have := ec_lt z; omega
    · rcases z with z | z <;> omega
  exact T.chg b x ⟨n1 7 1, n1 7 2, n _ _ _ (by decide), n _ _ _ (by decide), fun i => ⟨n2 20 i, n _ _ _ (by decide)⟩⟩
theorem TP.oI {F : Nat → Nat → Nat → Bool} {bs : List Nat} {er : Int32} {h h' : PH} (T : TP bs er h) (s : onlyI F h h') (f : F 7 11 1 = false ∧ F 7 11 2 = false ∧ F 12 45 2 = false ∧ F 12 45 3 = false ∧ ∀ i, F 20 12 i = false ∧ F 20 46 i = false) : TP bs er h' := ⟨⟨(s.1 7 11 1 f.1).trans T.1.1, fun i hi => (s.1 20 12 i (f.2.2.2.2 i).1).trans (T.1.2 i hi)⟩, ⟨(s.1 12 45 2 f.2.2.1).trans T.2.1.1, fun i hi => (s.1 20 46 i (f.2.2.2.2 i).2).trans (T.2.1.2 i hi)⟩, T.2.2.1, T.2.2.2.1, (s.1 7 11 2 f.2.1).trans T.2.2.2.2.1, (s.1 12 45 3 f.2.2.2.1).trans T.2.2.2.2.2⟩
theorem demandB {h : PH} (c : CSh h) {tx : TX} (B : CB tx h) (x : Int32) : (txI tx x = none ∧ fX11_demandText 10 x h = some (.inr (2, h))) ∨ ∃ (t : Nat) (ws : List Nat) (a b : Nat), t < 100 ∧ x = nI t ∧ tx t = some ws ∧ txI tx x = some ws ∧ 89 ≤ a ∧ 89 ≤ b ∧ a < hX h ∧ b < hX h ∧ TextAt h a b ws ∧ fX11_demandText 10 x h = some (.inl (some a, h)) := by
  rcases demandText_eq c B.CT x with e | ⟨t, ws, a, b, ht, rfl, q, e, h1, h2, h3, h4, f⟩
  · exact Or.inl e
  · obtain ⟨a', b', r1, r2, r3, r4, r5, r6⟩ := B.s ht q
    rw [h1] at r1
    cases r1
    exact Or.inr ⟨t, ws, a, b', ht, rfl, q, e, r2, r3, r4, r5, r6, f⟩
theorem TextAt.W {e : Nat} {h h' : PH} {a b : Nat} {ws : List Nat} (T : TextAt h a b ws) (ha : a < hX h) (hb : b < hX h) (la : 89 ≤ a) (lb : 89 ≤ b) (x : xW e h h') : TextAt h' a b ws := T.chg ha hb x (fun z => by have := FW_34 z; omega) (fun z => by have := GW_c z; omega) (fun k z => by have := FW_34 z; omega)
/-- the reference's start: after the class's half -/
theorem ref_start {tx tx' : TX} {ks : List Nat} {e : Nat} {wa wb : Nat → Nat} {D : Nat → Prop} {kq : Nat → Option (QT 27)} {E E' : EVT} {R R' : PST} {h1 u : PH} (I : MI tx E R h1) (C : CI tx' ks e wa wb D kq E' R' h1) (su : scr h1 u) : MI tx E R (sI u 12 45 0 0) ∧ KM kq (sI u 12 45 0 0) ∧ CI tx' ks e wa wb D kq E' R' (sI u 12 45 0 0) ∧ hI (sI u 12 45 0 0) 12 45 0 = 0 := by
  have s := su.tr (scr_thr u 0)
  have C' := C.M (scr_mc s)
  exact ⟨I.scr s, C'.2.2.2.2.1.KM, C', thr0 u⟩
/-- the end of a change: begins, the change itself, tells -/
theorem change_end {tx tx' : TX} {ks : List Nat} {e : Nat} {wa wb : Nat → Nat} {D : Nat → Prop} {kq : Nat → Option (QT 27)} {E : EVT} {R : PST} {t : Nat} {g w1 w2 : PH} (C : CI tx' ks e wa wb D kq (evF (kb tx kq t) (kb tx' kq t) (nI t) E 6) R g) (I : MI tx E R w1) (K : KM kq w1) (N : ∀ p, p < 6 → hI w1 21 55 p = bI (kb tx kq t p)) (hE : E.1 ≤ 100) (ht : t < 100) (o1 : onlyI isMc g w1) (o2 : onlyI isTw w1 w2) (X : MT tx' w2) : ∃ w3, fX12_tells 45 (nI t) w2 = some w3 ∧ MSh w2 ∧ MSh w3 ∧ onlyI isTe w2 w3 ∧ onlyI isMc g w3 ∧ CI tx' ks e wa wb D kq (evF (kb tx kq t) (kb tx' kq t) (nI t) E 6) R w3 ∧ MI tx' (evF (kb tx kq t) (kb tx' kq t) (nI t) E 6) R w3 := by
  obtain ⟨m, X0, V, W⟩ := I
  have m2 := m.oI o2
  have t60 : ∀ a k, 60 ≤ a → a ≤ 69 → isTw 20 a k = false := fun a k h1 h2 => by
    have e : ∀ m, m < 60 → (a == m) = false := fun m hm => by simp; omega
    simp [isTw, e]
  obtain ⟨w3, f1, f2, f3⟩ := tail_eq m2 C.2.1 X (V.oI o2 ⟨rfl, fun _ => ⟨rfl, rfl, rfl⟩⟩) hE (W.oI o2 ⟨rfl, fun _ => ⟨rfl, rfl, rfl, rfl⟩⟩) (K.oI o2 t60) ht (fun p hp => (o2.1 21 55 p rfl).trans (N p hp))
  have o3 := (o1.tr (o2.mono (fun _ _ _ => tw_mc))).tr (f2.mono (fun _ _ _ => te_mc))
  exact ⟨w3, f1, m2, f3.1, f2, o3, C.M (chg_I o3 (fun _ _ _ z => z)), f3⟩
