/-! CHANGES THAT MAKE NEW CELLS, and what stays -/
/-- of the old cells only ints of F, references of G, longs of cells of L change -/
def chg (F G : Nat → Nat → Nat → Prop) (L : Nat → Prop) (h h' : PH) : Prop := hX h ≤ hX h' ∧ (∀ c a k, a < hX h → ¬ F c a k → hI h' c a k = hI h c a k) ∧ (∀ c a k, a < hX h → ¬ G c a k → hR h' c a k = hR h c a k) ∧ (∀ c a k, a < hX h → ¬ L a → hL h' c a k = hL h c a k) ∧ ∀ a, a < hX h → hK h' a = hK h a ∧ hN h' a = hN h a
theorem chg.rf (F G : Nat → Nat → Nat → Prop) (L : Nat → Prop) (h : PH) : chg F G L h h := ⟨Nat.le_refl _, fun _ _ _ _ _ => rfl, fun _ _ _ _ _ => rfl, fun _ _ _ _ _ => rfl, fun _ _ => ⟨rfl, rfl⟩⟩
theorem chg.tr {F G : Nat → Nat → Nat → Prop} {L : Nat → Prop} {h h' h'' : PH} (x : chg F G L h h') (y : chg F G L h' h'') : chg F G L h h'' := ⟨Nat.le_trans x.1 y.1, fun c a k ha hf => (y.2.1 c a k (Nat.lt_of_lt_of_le ha x.1) hf).trans (x.2.1 c a k ha hf), fun c a k ha hf => (y.2.2.1 c a k (Nat.lt_of_lt_of_le ha x.1) hf).trans (x.2.2.1 c a k ha hf), fun c a k ha hf => (y.2.2.2.1 c a k (Nat.lt_of_lt_of_le ha x.1) hf).trans (x.2.2.2.1 c a k ha hf), fun a ha => ⟨(y.2.2.2.2 a (Nat.lt_of_lt_of_le ha x.1)).1.trans (x.2.2.2.2 a ha).1, (y.2.2.2.2 a (Nat.lt_of_lt_of_le ha x.1)).2.trans (x.2.2.2.2 a ha).2⟩⟩
theorem chg.mono {F G F' G' : Nat → Nat → Nat → Prop} {L L' : Nat → Prop} {h h' : PH} (x : chg F G L h h') (hf : ∀ c a k, a < hX h → F c a k → F' c a k) (hg : ∀ c a k, a < hX h → G c a k → G' c a k) (hl : ∀ a, a < hX h → L a → L' a) : chg F' G' L' h h' := ⟨x.1, fun c a k ha n => x.2.1 c a k ha (fun z => n (hf c a k ha z)), fun c a k ha n => x.2.2.1 c a k ha (fun z => n (hg c a k ha z)), fun c a k ha n => x.2.2.2.1 c a k ha (fun z => n (hl a ha z)), x.2.2.2.2⟩
theorem chg_sI {F G : Nat → Nat → Nat → Prop} {L : Nat → Prop} (h : PH) {c a k : Nat} (v : Int32) (e : a < hX h → F c a k) : chg F G L h (sI h c a k v) := ⟨Nat.le_refl _, fun c' a' k' ha n => by
  rw [hI_sI, if_neg]
  rintro ⟨rfl, rfl, rfl⟩
  exact n (e ha), fun _ _ _ _ _ => rfl, fun _ _ _ _ _ => rfl, fun _ _ => ⟨rfl, rfl⟩⟩
theorem chg_sR {F G : Nat → Nat → Nat → Prop} {L : Nat → Prop} (h : PH) {c a k : Nat} (v : Option Nat) (e : a < hX h → G c a k) : chg F G L h (sR h c a k v) := ⟨Nat.le_refl _, fun _ _ _ _ _ => rfl, fun c' a' k' ha n => by
  rw [hR_sR, if_neg]
  rintro ⟨rfl, rfl, rfl⟩
  exact n (e ha), fun _ _ _ _ _ => rfl, fun _ _ => ⟨rfl, rfl⟩⟩
theorem chg_sRa {F G : Nat → Nat → Nat → Prop} {L : Nat → Prop} (h : PH) {c a : Nat} (v : Nat → Option Nat) (e : ∀ k, a < hX h → G c a k) : chg F G L h (sRa h c a v) := ⟨Nat.le_refl _, fun _ _ _ _ _ => rfl, fun c' a' k' ha n => by
  rw [hR_sRa]
  by_cases z : c' = c ∧ a' = a
  · obtain ⟨rfl, rfl⟩ := z
    exact absurd (e k' ha) n
  · rw [if_neg z], fun _ _ _ _ _ => rfl, fun _ _ => ⟨rfl, rfl⟩⟩
theorem chg_new {F G : Nat → Nat → Nat → Prop} {L : Nat → Prop} (h : PH) (c n : Nat) : chg F G L h (hnew h c n) := ⟨by rw [hX_new]; omega, fun c' a' k' ha _ => by rw [hI_new, if_neg (Nat.ne_of_lt ha)], fun c' a' k' ha _ => by rw [hR_new, if_neg (Nat.ne_of_lt ha)], fun c' a' k' ha _ => by rw [hL_new, if_neg (Nat.ne_of_lt ha)], fun a ha => by rw [hK_new, hN_new, if_neg (Nat.ne_of_lt ha), if_neg (Nat.ne_of_lt ha)]; exact ⟨rfl, rfl⟩⟩
theorem chg_L {F G : Nat → Nat → Nat → Prop} {L : Nat → Prop} {h h' : PH} {b : Nat} (o : onlyL b h h') (e : L b) : chg F G L h h' := ⟨Nat.le_of_eq o.2.2.2.2.2.1.symm, fun c a k _ _ => by rw [o.2.1], fun c a k _ _ => by rw [o.2.2.1], fun c a k _ n => o.1 c a k (fun z => n (z.2 ▸ e)), fun a _ => by rw [o.2.2.2.1, o.2.2.2.2.1]; exact ⟨rfl, rfl⟩⟩
theorem chg_I {F : Nat → Nat → Nat → Bool} {F' G : Nat → Nat → Nat → Prop} {L : Nat → Prop} {h h' : PH} (o : onlyI F h h') (e : ∀ c a k, F c a k = true → F' c a k) : chg F' G L h h' := ⟨Nat.le_of_eq o.2.2.2.2.2.1.symm, fun c a k _ n => o.1 c a k (by
  cases z : F c a k with
  | false => rfl
  | true => exact absurd (e c a k z) n), fun c a k _ _ => by rw [o.2.1], fun c a k _ _ => by rw [o.2.2.1], fun a _ => by rw [o.2.2.2.1, o.2.2.2.2.1]; exact ⟨rfl, rfl⟩⟩
theorem scr.chg {F G : Nat → Nat → Nat → Prop} {L : Nat → Prop} {h h' : PH} (s : scr h h') (hf : ∀ c a k, isScr c a k = true → F c a k) (hl : L 87) : chg F G L h h' := ⟨s.2.2.2.2.2, fun c a k _ n => s.1 c a k (by
  cases z : isScr c a k with
  | false => rfl
  | true => exact absurd (hf c a k z) n), fun c a k _ _ => by rw [s.2.1], fun c a k _ n => s.2.2.1 c a k (by
  by_cases z : a = 87
  · subst z; exact absurd hl n
  · exact Or.inr z), fun a _ => by rw [s.2.2.2.1, s.2.2.2.2.1]; exact ⟨rfl, rfl⟩⟩
theorem isScr_89 {c a k : Nat} (h : 89 ≤ a) : isScr c a k = false := by
  have e : ∀ n, n < 89 → (a == n) = false := fun n hn => by simp; omega
  simp [isScr, List.contains, List.elem, e]
/-! the fixed cells -/
theorem sCR_lt : ∀ q ∈ sCR, q.2.1 < 89 := by decide
theorem sCK_lt : ∀ q ∈ sCK, q.1 < 89 := by decide
theorem sCN_lt : ∀ q ∈ sCN, q.1 < 89 := by decide
theorem CSh.chg {F G : Nat → Nat → Nat → Prop} {L : Nat → Prop} {h h' : PH} (c : CSh h) (b : 89 ≤ hX h) (x : chg F G L h h') (g : ∀ q ∈ sCR, ¬ G q.1 q.2.1 q.2.2.1) : CSh h' := ⟨fun q hq => (x.2.2.1 _ _ _ (Nat.lt_of_lt_of_le (sCR_lt q hq) b) (g q hq)).trans (c.1 q hq), fun q hq => (x.2.2.2.2 _ (Nat.lt_of_lt_of_le (sCK_lt q hq) b)).1.trans (c.2.1 q hq), fun q hq => (x.2.2.2.2 _ (Nat.lt_of_lt_of_le (sCN_lt q hq) b)).2.trans (c.2.2 q hq)⟩
theorem sMR_lt : ∀ q ∈ sMR, q.2.1 < 89 := by decide
theorem sMK_lt : ∀ q ∈ sMK, q.1 < 89 := by decide
theorem sMN_lt : ∀ q ∈ sMN, q.1 < 89 := by decide
theorem MSh.chg {F G : Nat → Nat → Nat → Prop} {L : Nat → Prop} {h h' : PH} (c : MSh h) (b : 89 ≤ hX h) (x : chg F G L h h') (g : ∀ q ∈ sMR, ¬ G q.1 q.2.1 q.2.2.1) : MSh h' := ⟨fun q hq => (x.2.2.1 _ _ _ (Nat.lt_of_lt_of_le (sMR_lt q hq) b) (g q hq)).trans (c.1 q hq), fun q hq => (x.2.2.2.2 _ (Nat.lt_of_lt_of_le (sMK_lt q hq) b)).1.trans (c.2.1 q hq), fun q hq => (x.2.2.2.2 _ (Nat.lt_of_lt_of_le (sMN_lt q hq) b)).2.trans (c.2.2 q hq)⟩
/-! texts -/
theorem TextAt.chg {F G : Nat → Nat → Nat → Prop} {L : Nat → Prop} {h h' : PH} {a b : Nat} {ws : List Nat} (T : TextAt h a b ws) (ha : a < hX h) (hb : b < hX h) (x : chg F G L h h') (f1 : ¬ F 8 a 1) (g1 : ¬ G 8 a 0) (f2 : ∀ k, ¬ F 20 b k) : TextAt h' a b ws := by
  obtain ⟨k1, k2, k3, k4, k5, k6⟩ := T
  exact ⟨(x.2.2.2.2 a ha).1.trans k1, (x.2.1 8 a 1 ha f1).trans k2, (x.2.2.1 8 a 0 ha g1).trans k3, (x.2.2.2.2 b hb).1.trans k4, (x.2.2.2.2 b hb).2.trans k5, fun i hi => (x.2.1 20 b i hb (f2 i)).trans (k6 i hi)⟩
/-- the shelf, its cells old ones -/
def CB (tx : TX) (h : PH) : Prop := 89 ≤ hX h ∧ ∀ t, t < 100 → match tx t with
  | none => hR h 26 15 t = none
  | some ws => ∃ a b, hR h 26 15 t = some a ∧ 89 ≤ a ∧ 89 ≤ b ∧ a < hX h ∧ b < hX h ∧ TextAt h a b ws
theorem CB.CT {tx : TX} {h : PH} (B : CB tx h) : CT tx h := fun t ht => by
  have := B.2 t ht
  cases e : tx t with
  | none => rw [e] at this; exact this
  | some ws =>
    rw [e] at this
    obtain ⟨a, b, h1, h2, h3, h4, h5, h6⟩ := this
    exact ⟨a, b, h1, h2, h3, h6⟩
theorem CB.s {tx : TX} {h : PH} (B : CB tx h) {t : Nat} (ht : t < 100) {ws : List Nat} (e : tx t = some ws) : ∃ a b, hR h 26 15 t = some a ∧ 89 ≤ a ∧ 89 ≤ b ∧ a < hX h ∧ b < hX h ∧ TextAt h a b ws := by
  have := B.2 t ht
  rw [e] at this
  exact this
theorem CB.chg {F G : Nat → Nat → Nat → Prop} {L : Nat → Prop} {tx : TX} {h h' : PH} (B : CB tx h) (x : chg F G L h h') (g15 : ∀ k, ¬ G 26 15 k) (g8 : ∀ a, 89 ≤ a → ¬ G 8 a 0) (f8 : ∀ a, 89 ≤ a → ¬ F 8 a 1) (f20 : ∀ b k, 89 ≤ b → ¬ F 20 b k) : CB tx h' := ⟨Nat.le_trans B.1 x.1, fun t ht => by
  have b := B.1
  cases e : tx t with
  | none =>
    show hR h' 26 15 t = none
    rw [x.2.2.1 26 15 t (by omega) (g15 t)]
    exact B.CT.n ht e
  | some ws =>
    obtain ⟨a, b', h1, h2, h3, h4, h5, h6⟩ := B.s ht e
    exact ⟨a, b', (x.2.2.1 26 15 t (by omega) (g15 t)).trans h1, h2, h3, Nat.lt_of_lt_of_le h4 x.1, Nat.lt_of_lt_of_le h5 x.1, h6.chg h4 h5 x (f8 a h2) (g8 a h2) (fun k => f20 b' k h3)⟩⟩
theorem CB.scr {tx : TX} {h h' : PH} (B : CB tx h) (s : scr h h') : CB tx h' := B.chg (F := fun c a k => isScr c a k = true) (G := fun _ _ _ => False) (L := fun a => a = 87) (s.chg (fun _ _ _ z => z) rfl) (fun _ z => z) (fun _ _ z => z) (fun a ha z => by rw [isScr_89 ha] at z; cases z) (fun b k hb z => by rw [isScr_89 hb] at z; cases z)
/-! the index -/
def IXB (tx : TX) (ks : List Nat) (e : Nat) (wa wb : Nat → Nat) (h : PH) : Prop := IX tx ks e wa wb h ∧ e < hX h ∧ e ≠ 17 ∧ (∀ w, w ∈ ks → wa w < hX h ∧ wb w < hX h) ∧ (hN h e = 0 → e = 3) ∧ hN h e ≤ 100000 ∧ (e < 89 → e = 3)
