/-! WHAT HOLDS BETWEEN THE CALLS, first part: the texts, the index, the kept queries, the events, what can be undone, the tape -/
def isMc (c a k : Nat) : Bool := (c == 12 && a == 45 && [0, 2, 3, 8, 14, 18].contains k) || (decide (46 ≤ a) && decide (a < 60)) || isScr c a k
def FM' (c a k : Nat) : Prop := isMc c a k = true
def GM (_ _ _ : Nat) : Prop := False
def LM (a : Nat) : Prop := a = 87
def CI (tx : TX) (ks : List Nat) (e : Nat) (wa wb : Nat → Nat) (D : Nat → Prop) (kq : Nat → Option (QT 27)) (E : EVT) (R : PST) (h : PH) : Prop := CSh h ∧ okX tx ∧ CB tx h ∧ IXB tx ks e wa wb h ∧ KP D kq h ∧ KF tx kq h ∧ EVC E h ∧ PSC R h ∧ ¬ D e
def MI (tx : TX) (E : EVT) (R : PST) (h : PH) : Prop := MSh h ∧ MT tx h ∧ EVM E h ∧ PSM R h
def INV1 (tx : TX) (bs : List Nat) (er : Int32) (ks : List Nat) (e : Nat) (wa wb : Nat → Nat) (D : Nat → Prop) (kq : Nat → Option (QT 27)) (E : EVT) (R : PST) (h : PH) : Prop := CI tx ks e wa wb D kq E R h ∧ MI tx E R h ∧ TP bs er h
theorem mc_r {c a k : Nat} (h : isMc c a k = true) : (45 ≤ a ∧ a < 60) ∨ isScr c a k = true := by
  unfold isMc at h
  rw [Bool.or_eq_true, Bool.or_eq_true] at h
  rcases h with (h | h) | h
  · left
    simp only [Bool.and_eq_true, beq_iff_eq] at h
    omega
  · left
    simp only [Bool.and_eq_true, decide_eq_true_eq] at h
    omega
  · exact Or.inr h
theorem mc_89 {c a k : Nat} (h : 89 ≤ a) : isMc c a k = false := by
  cases e : isMc c a k with
  | false => rfl
  | true =>
    rcases mc_r e with z | z
    · omega
    · rw [isScr_89 h] at z; cases z
theorem mc_scr {c a k : Nat} (h : isScr c a k = true) : isMc c a k = true := by unfold isMc; rw [h, Bool.or_true]
theorem mc_46 {c a k : Nat} (h1 : 46 ≤ a) (h2 : a < 60) : isMc c a k = true := by
  unfold isMc
  rw [decide_eq_true h1, decide_eq_true h2, Bool.and_true, Bool.or_true, Bool.true_or]
theorem ec_mc {c a k : Nat} (h : isEC c a k = true) : ¬ FM' c a k := fun z => by
  have l := ec_lt h
  rcases mc_r z with y | y
  · omega
  · simp [isEC] at h
    simp [isScr] at y
    omega
theorem nM {c a k : Nat} (h : isMc c a k = false) : ¬ FM' c a k := fun z => by
  rw [show isMc c a k = true from z] at h
  cases h
theorem mc60 {a k : Nat} (h1 : 60 ≤ a) (h2 : a ≤ 65) (h3 : k < 2400) : ¬ FM' 20 a k := fun z => by
  rcases mc_r z with y | y
  · omega
  · rw [scr60 a h1 h2 k h3] at y; cases y
theorem mc66 {k : Nat} (h : k < 120) : ¬ FM' 20 66 k := fun z => by
  rcases mc_r z with y | y
  · omega
  · rw [scr66 h] at y; cases y
theorem mc67 {p : Nat} (h : p < 6) : ¬ FM' 20 67 p ∧ ¬ FM' 20 69 p := by
  refine ⟨fun z => ?_, fun z => ?_⟩
  · rcases mc_r z with y | y
    · omega
    · rw [(scr67 h).1] at y; cases y
  · rcases mc_r z with y | y
    · omega
    · rw [(scr67 h).2] at y; cases y
/-- the class's half stands while only the reference's cells change -/
theorem CI.M {tx : TX} {ks : List Nat} {e : Nat} {wa wb : Nat → Nat} {D : Nat → Prop} {kq : Nat → Option (QT 27)} {E : EVT} {R : PST} {h h' : PH} (C : CI tx ks e wa wb D kq E R h) (x : chg FM' GM LM h h') : CI tx ks e wa wb D kq E R h' := by
  obtain ⟨c, o, B, X, K, Y, V, W, n⟩ := C
  have b := B.1
  have f89 : ∀ c a k, 89 ≤ a → ¬ FM' c a k := fun c a k ha => nM (mc_89 ha)
  refine ⟨c.chg b x (fun _ _ z => z), o, B.chg x (fun _ z => z) (fun _ _ z => z) (fun a ha => f89 _ _ _ ha) (fun b k hb => f89 _ _ _ hb), X.chg b x (nM rfl) (fun a k ha => f89 _ _ _ ha) (fun z => z) (fun _ z => z) (fun _ _ z => z) (fun w hw z => ?_), K.chg b x (fun c y k dy => f89 _ _ _ (K.1 y dy).1) (fun _ _ _ _ z => z) (fun _ _ z => z) (fun a k h1 h2 h3 => mc60 h1 h2 h3) (fun k hk => mc66 hk) (fun p hp => mc67 hp), Y.chg b x (fun p hp z => ?_), V.chg b x (fun c a k q => ec_mc q), W.chg b x ⟨nM rfl, nM rfl⟩ (fun k => nM rfl) (fun _ z => z) (fun a ha => f89 _ _ _ ha) (fun _ _ z => z) (fun b k hb => f89 _ _ _ hb), n⟩
  · have z : wb w = 87 := z
    have := (X.ge hw).2
    omega
  · have z : 24 + p = 87 := z
    omega
/-- the reference's half stands while its cells stand -/
theorem MI.C {F G : Nat → Nat → Nat → Prop} {L : Nat → Prop} {tx : TX} {E : EVT} {R : PST} {h h' : PH} (I : MI tx E R h) (b : 89 ≤ hX h) (x : chg F G L h h') (f : ∀ c a k, F c a k → a < 45 ∨ 87 ≤ a) (g : ∀ c a k, G c a k → c = 14 ∨ c = 28 ∨ c = 26) : MI tx E R h' := by
  obtain ⟨m, X, V, W⟩ := I
  have e : ∀ c a k, 45 ≤ a → a < 87 → hI h' c a k = hI h c a k := fun c a k h1 h2 => x.2.1 c a k (by omega) (fun z => by have := f c a k z; omega)
  have nG : ∀ q ∈ sMR, ¬ (q.1 = 14 ∨ q.1 = 28 ∨ q.1 = 26) := by decide
  refine ⟨m.chg b x (fun q hq z => nG q hq (g _ _ _ z)), fun i hi => ?_, ⟨(e 12 45 18 (by decide) (by decide)).trans V.1, fun i hi => ?_⟩, ⟨(e 12 45 14 (by decide) (by decide)).trans W.1, fun i hi => ?_⟩⟩
  · have := X i hi
    cases q : tx i with
    | none => rw [q] at this; exact (e 21 47 i (by decide) (by decide)).trans this
    | some ws => rw [q] at this; exact ⟨(e 21 47 i (by decide) (by decide)).trans this.1, (e 20 49 i (by decide) (by decide)).trans this.2.1, fun j hj => (e 20 48 _ (by decide) (by decide)).trans (this.2.2 j hj)⟩
  · rw [e 20 56 i (by decide) (by decide), e 20 57 i (by decide) (by decide), e 20 58 i (by decide) (by decide)]
    exact V.2 i hi
  · have := W.2 i hi
    exact ⟨(e 20 51 i (by decide) (by decide)).trans this.1, this.2.to (Or.inr (e 21 54 i (by decide) (by decide))) (e 20 52 i (by decide) (by decide)) (fun r _ => e 20 53 _ (by decide) (by decide))⟩
theorem EVM.oI {F : Nat → Nat → Nat → Bool} {E : EVT} {h h' : PH} (V : EVM E h) (s : onlyI F h h') (f : F 12 45 18 = false ∧ ∀ i, F 20 56 i = false ∧ F 20 57 i = false ∧ F 20 58 i = false) : EVM E h' := ⟨(s.1 12 45 18 f.1).trans V.1, fun i hi => ⟨(s.1 20 56 i (f.2 i).1).trans (V.2 i hi).1, (s.1 20 57 i (f.2 i).2.1).trans (V.2 i hi).2.1, (s.1 20 58 i (f.2 i).2.2).trans (V.2 i hi).2.2⟩⟩
theorem PSM.oI {F : Nat → Nat → Nat → Bool} {R : PST} {h h' : PH} (W : PSM R h) (s : onlyI F h h') (f : F 12 45 14 = false ∧ ∀ i, F 20 51 i = false ∧ F 20 52 i = false ∧ F 20 53 i = false ∧ F 21 54 i = false) : PSM R h' := ⟨(s.1 12 45 14 f.1).trans W.1, fun i hi => ⟨(s.1 20 51 i (f.2 i).1).trans (W.2 i hi).1, (W.2 i hi).2.to (Or.inr (s.1 21 54 i (f.2 i).2.2.2)) (s.1 20 52 i (f.2 i).2.1) (fun r _ => s.1 20 53 _ (f.2 _).2.2.1)⟩⟩
def isBg (c a k : Nat) : Bool := isNt c a k || isPM c a k
theorem bg_1 {c a k : Nat} (e : isNt c a k = true) : isBg c a k = true := by unfold isBg; rw [e]; rfl
theorem bg_2 {c a k : Nat} (e : isPM c a k = true) : isBg c a k = true := by unfold isBg; rw [e, Bool.or_true]
theorem begins_eq {u : PH} {tx : TX} {E : EVT} {R : PST} (I : MI tx E R u) (o : okX tx) {kq : Nat → Option (QT 27)} (K : KM kq u) (hn : R.1 ≤ 20) {t : Nat} (ht : t < 100) : ∃ w, fX12_begins 45 (nI t) u = some w ∧ onlyI isBg u w ∧ MI tx E (pushR R t (tx t)) w ∧ KM kq w ∧ ∀ p, p < 6 → hI w 21 55 p = bI (kb tx kq t p) := by
  obtain ⟨m, X, V, W⟩ := I
  obtain ⟨g, f1, f2, f3⟩ := notes_eq m o X K ht
  have mg := m.oI f2
  have Xg := X.oI f2 (fun i => ⟨rfl, rfl, rfl⟩)
  have Kg := K.oI f2 nt60
  have Wg := W.oI f2 ⟨rfl, fun i => ⟨rfl, rfl, rfl, rfl⟩⟩
  obtain ⟨w, g1, g2, g3⟩ := keeps_eq mg Wg hn ht o Xg
  refine ⟨w, ?_, (f2.mono (fun _ _ _ => bg_1)).tr (g3.mono (fun _ _ _ => bg_2)), ⟨mg.oI g3, Xg.oI g3 (fun i => ⟨rfl, rfl, rfl⟩), (V.oI f2 ⟨rfl, fun i => ⟨rfl, rfl, rfl⟩⟩).oI g3 ⟨rfl, fun i => ⟨rfl, rfl, rfl⟩⟩, g2⟩, Kg.oI g3 (fun a k h1 h2 => ?_), fun p hp => (g3.1 21 55 p rfl).trans (f3 p hp)⟩
  · unfold fX12_begins
    rw [gd_t (k_45 m), f1, bd_t, gd_t (k_45 mg), g1, bd_t]
  · have e : ∀ m, m < 60 → (a == m) = false := fun m hm => by simp; omega
    simp [isPM, e]
theorem tail_eq {g : PH} {tx tx' : TX} {E : EVT} {R : PST} (m : MSh g) (o : okX tx') (X : MT tx' g) (V : EVM E g) (hE : E.1 ≤ 100) (W : PSM R g) {kq : Nat → Option (QT 27)} (K : KM kq g) {t : Nat} (ht : t < 100) (w : ∀ p, p < 6 → hI g 21 55 p = bI (kb tx kq t p)) : ∃ h', fX12_tells 45 (nI t) g = some h' ∧ onlyI isTe g h' ∧ MI tx' (evF (kb tx kq t) (kb tx' kq t) (nI t) E 6) R h' := by
  obtain ⟨h', f1, f2, f3⟩ := tells_eq m o X K ht V hE w
  exact ⟨h', f1, f3, m.oI f3, X.oI f3 (fun i => ⟨rfl, rfl, rfl⟩), f2, W.oI f3 ⟨rfl, fun i => ⟨rfl, rfl, rfl, rfl⟩⟩⟩
theorem ho_mc {c a k : Nat} (e : isHo c a k = true) : isMc c a k = true := by
  simp only [isHo, Bool.and_eq_true, beq_iff_eq] at e
  obtain ⟨rfl, rfl⟩ := e
  exact mc_scr rfl
theorem bg_mc {c a k : Nat} (e : isBg c a k = true) : isMc c a k = true := by
  unfold isBg isNt at e
  rw [Bool.or_eq_true, Bool.or_eq_true] at e
  rcases e with (e | e) | e
  · exact ho_mc e
  · simp only [Bool.and_eq_true, beq_iff_eq] at e
    exact mc_46 (by omega) (by omega)
  · simp only [isPM, Bool.or_eq_true, Bool.and_eq_true, beq_iff_eq] at e
    rcases e with (e | e) | e
    · obtain ⟨⟨rfl, rfl⟩, rfl⟩ := e; rfl
    · exact mc_46 (by omega) (by omega)
    · exact mc_46 (by omega) (by omega)
theorem te_mc {c a k : Nat} (e : isTe c a k = true) : isMc c a k = true := by
  unfold isTe at e
  rw [Bool.or_eq_true] at e
  rcases e with e | e
  · exact ho_mc e
  · simp only [isEM, Bool.or_eq_true, Bool.and_eq_true, beq_iff_eq] at e
    rcases e with e | e
    · obtain ⟨⟨rfl, rfl⟩, rfl⟩ := e; rfl
    · exact mc_46 (by omega) (by omega)
theorem tw_mc {c a k : Nat} (e : isTw c a k = true) : isMc c a k = true := by
  simp only [isTw, Bool.or_eq_true, Bool.and_eq_true, beq_iff_eq] at e
  exact mc_46 (by omega) (by omega)
theorem rd_mc {c a k : Nat} (e : isRd c a k = true) : isMc c a k = true := by
  simp only [isRd, Bool.or_eq_true, Bool.and_eq_true, beq_iff_eq] at e
  rcases e with ⟨⟨rfl, rfl⟩, (rfl | rfl) | rfl⟩ | e
  · rfl
  · rfl
  · rfl
  · exact mc_46 (by omega) (by omega)
