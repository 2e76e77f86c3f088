/-! WHAT CAN BE UNDONE: the class's ring of 20, the reference's row of 20 -/
abbrev PST : Type := Nat × Nat × (Nat → Nat) × (Nat → Option (List Nat))
def PSC (R : PST) (h : PH) : Prop := R.1 ≤ 20 ∧ R.2.1 < 20 ∧ hI h 5 19 2 = nI R.2.1 ∧ hI h 5 19 3 = nI R.1 ∧ ∀ i, i < R.1 → R.2.2.1 i < 100 ∧ hI h 20 20 ((R.2.1 + i) % 20) = nI (R.2.2.1 i) ∧ TxA h (hR h 26 21 ((R.2.1 + i) % 20)) (R.2.2.2 i)
def OM (o : Option (List Nat)) (i : Nat) (h : PH) : Prop := match o with
  | none => hI h 21 54 i = 0
  | some ws => ws.length ≤ 40 ∧ hI h 21 54 i = 1 ∧ hI h 20 52 i = nI ws.length ∧ ∀ k, k < ws.length → hI h 20 53 (40 * i + k) = nI (ws.getD k 0)
def PSM (R : PST) (h : PH) : Prop := hI h 12 45 14 = nI R.1 ∧ ∀ i, i < R.1 → hI h 20 51 i = nI (R.2.2.1 i) ∧ OM (R.2.2.2 i) i h
theorem PSn.of {R : PST} {h : PH} (a : PSC R h) (b : PSM R h) : PSn R.1 R.2.1 R.2.2.1 R.2.2.2 h := ⟨a.1, a.2.1, a.2.2.1, a.2.2.2.1, b.1, fun i hi => by
  obtain ⟨a1, a2, a3⟩ := a.2.2.2.2 i hi
  obtain ⟨b1, b2⟩ := b.2 i hi
  refine ⟨a1, a2, b1, ?_⟩
  cases e : R.2.2.2 i with
  | none => rw [e] at a3 b2; exact ⟨a3.n, b2⟩
  | some ws =>
    rw [e] at a3 b2
    obtain ⟨o, x, y, h1, h2, h3, h4, h5, h6⟩ := a3.s
    exact ⟨o, ⟨x, y, h1, h2, h3, h6⟩, b2.2.1, b2.2.2.1, b2.2.2.2⟩⟩
def dropR (R : PST) : PST := (19, (R.2.1 + 1) % 20, fun i => R.2.2.1 (i + 1), fun i => R.2.2.2 (i + 1))
def addR (R : PST) (t : Nat) (o : Option (List Nat)) : PST := (R.1 + 1, R.2.1, fun i => if i = R.1 then t else R.2.2.1 i, fun i => if i = R.1 then o else R.2.2.2 i)
def pushR (R : PST) (t : Nat) (o : Option (List Nat)) : PST := addR (if R.1 = 20 then dropR R else R) t o
def FP (c a k : Nat) : Prop := (c = 5 ∧ a = 19 ∧ (k = 2 ∨ k = 3)) ∨ (c = 20 ∧ a = 20)
def GP (c a _k : Nat) : Prop := c = 26 ∧ a = 21
def LPn (_ : Nat) : Prop := False
def xP (h h' : PH) : Prop := chg FP GP LPn h h'
theorem TxA.P {h h' : PH} {y : Option Nat} {o : Option (List Nat)} (A : TxA h y o) (x : xP h h') : TxA h' y o := A.chg x (fun a _ z => by rcases z with z | z <;> omega) (fun a _ z => by have := z.1; omega) (fun b k hb z => by rcases z with z | z <;> omega)
theorem sCR_26 : ∀ q ∈ sCR, ¬ (q.1 = 26) := by decide
theorem sMR_26 : ∀ q ∈ sMR, ¬ (q.1 = 26) := by decide
theorem CSh.P {h h' : PH} (c : CSh h) (b : 89 ≤ hX h) (x : xP h h') : CSh h' := c.chg b x (fun q hq z => sCR_26 q hq z.1)
theorem TxA.q {h : PH} {y : Option Nat} {o : Option (List Nat)} (A : TxA h y o) : okq h 8 y = true := by
  cases o with
  | none => rw [A.n]; rfl
  | some ws =>
    obtain ⟨o, x, y, h1, h2, h3, h4, h5, h6⟩ := A.s
    rw [h1]
    show (hK h x == 8) = true
    rw [h6.1]
    rfl
theorem slot_eq {h : PH} (c : CSh h) {q n : Nat} (hq : q < 20) (hn : n < 20) (e2 : hI h 5 19 2 = nI q) (e3 : hI h 5 19 3 = nI (n + 1)) : fX5_latestSlot 19 h = some (nI ((q + n) % 20)) := by
  have s1 : nI q + nI (n + 1) - 1 = nI q + nI n := by rw [← nI_1, ← Int32.add_assoc, Int32.add_sub_cancel]
  unfold fX5_latestSlot
  rw [gd_t (k_19 c), e2, e3, if_neg (show ¬ nI (n + 1) < (1 : Int32) from Int32.not_lt.mpr (show nI 1 ≤ nI (n + 1) from nI_le (by omega) (by omega))), s1, show (nI q + nI n) - (nI q + nI n) / (20 : Int32) * (20 : Int32) = nI ((q + n) % 20) from ring (k := 20) (by decide) (by decide) (by omega)]
theorem remember_add {g : PH} (c : CSh g) (b : 89 ≤ hX g) {R : PST} (V : PSC R g) (hn : R.1 < 20) {t : Nat} (ht : t < 100) {y : Option Nat} {o : Option (List Nat)} (A : TxA g y o) : ∃ h', fX5_remember_b32 19 (nI t) y g = some h' ∧ PSC (addR R t o) h' ∧ chg FP GP LPn g h' ∧ hX h' = hX g ∧ hV h' = hV g := by
  obtain ⟨n, q, f0, f1⟩ := R
  obtain ⟨v1, v2, v3, v4, v5⟩ := V
  have hn : n < 20 := hn
  have v2 : q < 20 := v2
  have v3 : hI g 5 19 2 = nI q := v3
  have v4 : hI g 5 19 3 = nI n := v4
  have hs : (q + n) % 20 < 20 := Nat.mod_lt _ (by decide)
  have ck : Int32.toNatClampNeg (nI ((q + n) % 20)) = (q + n) % 20 := nI_clamp (by omega)
  have x1 : chg FP GP LPn g (sI g 5 19 3 (nI (n + 1))) := chg_sI _ _ (fun _ => Or.inl ⟨rfl, rfl, Or.inr rfl⟩)
  have c1 := c.P b x1
  have e2 : hI (sI g 5 19 3 (nI (n + 1))) 5 19 2 = nI q := by rw [hI_sI, if_neg (by simp)]; exact v3
  have e3 : hI (sI g 5 19 3 (nI (n + 1))) 5 19 3 = nI (n + 1) := by rw [hI_sI, if_pos ⟨rfl, rfl, rfl⟩]
  have x2 : chg FP GP LPn g (sI (sI g 5 19 3 (nI (n + 1))) 20 20 ((q + n) % 20) (nI t)) := x1.aI _ (fun _ => Or.inr ⟨rfl, rfl⟩)
  have c2 := c.P b x2
  have e22 : hI (sI (sI g 5 19 3 (nI (n + 1))) 20 20 ((q + n) % 20) (nI t)) 5 19 2 = nI q := by rw [c20 _ _ _ _ (by decide)]; exact e2
  have e23 : hI (sI (sI g 5 19 3 (nI (n + 1))) 20 20 ((q + n) % 20) (nI t)) 5 19 3 = nI (n + 1) := by rw [c20 _ _ _ _ (by decide)]; exact e3
  have x3 : chg FP GP LPn g (sR (sI (sI g 5 19 3 (nI (n + 1))) 20 20 ((q + n) % 20) (nI t)) 26 21 ((q + n) % 20) y) := x2.aR _ (fun _ => ⟨rfl, rfl⟩)
  refine ⟨_, ?_, ⟨?_, v2, ?_, ?_, fun i hi => ?_⟩, x3, rfl, rfl⟩
  · unfold fX5_remember_b32
    rw [gd_t (k_19 c), lt_t, v4, nI_1, slot_eq c1 v2 hn e2 e3, bd_t, r5_19_0 c1, gs_t, gd_t ⟨k_20 c1, by rw [n_20 c1]; exact inbI hs (by decide)⟩, lt_t]
    simp only [ck]
    rw [slot_eq c2 v2 hn e22 e23, bd_t, r5_19_1 c2, gs_t, gd_t ⟨k_21 c2, by rw [n_21 c2]; exact inbI hs (by decide)⟩, gd_t (A.P x2).q, lt_t]
    simp only [ck]
  · show n + 1 ≤ 20
    omega
  · rw [hI_sR]
    exact e22
  · rw [hI_sR]
    exact e23
  · have hi : i < n + 1 := hi
    have rI : hI (sR (sI (sI g 5 19 3 (nI (n + 1))) 20 20 ((q + n) % 20) (nI t)) 26 21 ((q + n) % 20) y) 20 20 ((q + i) % 20) = if (q + i) % 20 = (q + n) % 20 then nI t else hI g 20 20 ((q + i) % 20) := by rw [hI_sR, rdA, n20 _ _ (by decide)]
    have rR : hR (sR (sI (sI g 5 19 3 (nI (n + 1))) 20 20 ((q + n) % 20) (nI t)) 26 21 ((q + n) % 20) y) 26 21 ((q + i) % 20) = if (q + i) % 20 = (q + n) % 20 then y else hR g 26 21 ((q + i) % 20) := by
      rw [hR_sR]
      by_cases d : (q + i) % 20 = (q + n) % 20
      · rw [if_pos ⟨rfl, rfl, d⟩, if_pos d]
      · rw [if_neg (fun z => d z.2.2), if_neg d, hR_sI, hR_sI]
    show (if i = n then t else f0 i) < 100 ∧ hI (sR (sI (sI g 5 19 3 (nI (n + 1))) 20 20 ((q + n) % 20) (nI t)) 26 21 ((q + n) % 20) y) 20 20 ((q + i) % 20) = nI (if i = n then t else f0 i) ∧ TxA (sR (sI (sI g 5 19 3 (nI (n + 1))) 20 20 ((q + n) % 20) (nI t)) 26 21 ((q + n) % 20) y) (hR (sR (sI (sI g 5 19 3 (nI (n + 1))) 20 20 ((q + n) % 20) (nI t)) 26 21 ((q + n) % 20) y) 26 21 ((q + i) % 20)) (if i = n then o else f1 i)
    rw [rI, rR]
    by_cases d : i = n
    · subst d
      rw [if_pos rfl, if_pos rfl, if_pos rfl, if_pos rfl]
      exact ⟨ht, rfl, A.P x3⟩
    · have hne : ¬ (q + i) % 20 = (q + n) % 20 := by omega
      rw [if_neg d, if_neg hne, if_neg hne, if_neg d]
      have := v5 i (by show i < n; omega)
      exact ⟨this.1, this.2.1, this.2.2.P x3⟩
theorem remember_c {h : PH} (c : CSh h) (b : 89 ≤ hX h) {R : PST} (V : PSC R h) {t : Nat} (ht : t < 100) {y : Option Nat} {o : Option (List Nat)} (A : TxA h y o) : ∃ h', fX5_remember 19 (nI t) y h = some h' ∧ PSC (pushR R t o) h' ∧ chg FP GP LPn h h' ∧ hX h' = hX h ∧ hV h' = hV h := by
  have v1 := V.1
  have v2 := V.2.1
  unfold fX5_remember pushR
  rw [gd_t (k_19 c), V.2.2.2.1]
  by_cases d : R.1 = 20
  · rw [if_pos d, d, if_neg (fun z => z rfl), lt_t, V.2.2.1, show nI R.2.1 + 1 - (nI R.2.1 + 1) / 20 * 20 = nI ((R.2.1 + 1) % 20) from ring (i := 1) (k := 20) (by decide) (by decide) (by omega), lt_t]
    have x1 : chg FP GP LPn h (sI h 5 19 2 (nI ((R.2.1 + 1) % 20))) := chg_sI _ _ (fun _ => Or.inl ⟨rfl, rfl, Or.inl rfl⟩)
    have x2 : chg FP GP LPn h (sI (sI h 5 19 2 (nI ((R.2.1 + 1) % 20))) 5 19 3 (nI 19)) := x1.aI _ (fun _ => Or.inl ⟨rfl, rfl, Or.inr rfl⟩)
    have e4 : hI (sI h 5 19 2 (nI ((R.2.1 + 1) % 20))) 5 19 3 - 1 = nI 19 := by
      rw [hI_sI, if_neg (by simp), V.2.2.2.1, d]
      rfl
    rw [e4]
    obtain ⟨h', f1, f2, f3, f4⟩ := remember_add (c.P b x2) b (R := dropR R) ⟨by show 19 ≤ 20; decide, Nat.mod_lt _ (by decide), by rw [hI_sI, if_neg (by simp), hI_sI, if_pos ⟨rfl, rfl, rfl⟩]; rfl, by rw [hI_sI, if_pos ⟨rfl, rfl, rfl⟩]; rfl, fun i hi => by
      have hi : i < 19 := hi
      have := V.2.2.2.2 (i + 1) (by omega)
      rw [n20 _ _ (by decide), n20 _ _ (by decide), hR_sI, hR_sI, show ((dropR R).2.1 + i) % 20 = (R.2.1 + (i + 1)) % 20 by show ((R.2.1 + 1) % 20 + i) % 20 = _; omega]
      exact ⟨this.1, this.2.1, this.2.2.P x2⟩⟩ (by show 19 < 20; decide) ht (A.P x2)
    exact ⟨h', f1, f2, x2.tr f3, f4⟩
  · rw [if_neg d, if_pos (show ¬ nI R.1 = 20 from fun z => d ((nI_eq (b := 20) (by omega) (by decide)).mp z))]
    exact remember_add c b V (by omega) ht A
