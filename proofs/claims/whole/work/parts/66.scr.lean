/-! SCRATCH: cells that no later call asks (what was thrown, what was found of words, the reading of a query ..): a call that only asks changes these alone -/
def isScr (c a k : Nat) : Bool :=
  (c == 12 && a == 45 && [0, 8, 20, 21, 22, 23, 24, 42, 43, 44, 45, 57].contains k) ||
  (c == 20 && [50, 59, 70, 71, 72, 73, 74, 75, 76, 82, 83, 85, 14, 18, 39, 41].contains a) ||
  (c == 20 && [60, 61, 62, 63, 64, 65].contains a && decide (2400 ≤ k)) || (c == 20 && a == 66 && decide (120 ≤ k)) || (c == 20 && [67, 68, 69].contains a && decide (6 ≤ k)) ||
  (c == 21 && [55, 77, 78].contains a) || (c == 6 && a == 13) || (c == 0 && a == 38 && k == 1) || (c == 8 && a == 40)
def scr (h h' : PH) : Prop := (∀ c a k, isScr c a k = false → hI h' c a k = hI h c a k) ∧ hR h' = hR h ∧ (∀ c a k, (c ≠ 23 ∨ a ≠ 87) → hL h' c a k = hL h c a k) ∧ hK h' = hK h ∧ hN h' = hN h ∧ hX h ≤ hX h'
theorem scr.rf (h : PH) : scr h h := ⟨fun _ _ _ _ => rfl, rfl, fun _ _ _ _ => rfl, rfl, rfl, Nat.le_refl _⟩
theorem scr.tr {h h' h'' : PH} (a : scr h h') (b : scr h' h'') : scr h h'' := ⟨fun c x k e => (b.1 c x k e).trans (a.1 c x k e), b.2.1.trans a.2.1, fun c x k e => (b.2.2.1 c x k e).trans (a.2.2.1 c x k e), b.2.2.2.1.trans a.2.2.2.1, b.2.2.2.2.1.trans a.2.2.2.2.1, Nat.le_trans a.2.2.2.2.2 b.2.2.2.2.2⟩
theorem scr_sI (h : PH) {c a k : Nat} (v : Int32) (e : isScr c a k = true) : scr h (sI h c a k v) := by
  refine ⟨fun c' a' k' e' => ?_, rfl, fun _ _ _ _ => rfl, rfl, rfl, Nat.le_refl _⟩
  rw [hI_sI, if_neg]
  rintro ⟨rfl, rfl, rfl⟩
  rw [e] at e'
  cases e'
theorem scr_out (h : PH) (k : Nat) (v : Int64) : scr h (sL h 23 87 k v) := by
  refine ⟨fun _ _ _ _ => rfl, rfl, fun c a k' e => ?_, rfl, rfl, Nat.le_refl _⟩
  rw [hL_sL, if_neg]
  rintro ⟨rfl, rfl, -⟩
  rcases e with e | e <;> exact e rfl
theorem scr_outD (h : PH) (a k : Nat) (v : UInt64) : scr h (sD h a k v) := ⟨fun _ _ _ _ => rfl, rfl, fun _ _ _ _ => rfl, rfl, rfl, Nat.le_refl _⟩
theorem scr_bump (h : PH) {n : Nat} (e : hX h ≤ n) : scr h (hbump h n) := ⟨fun _ _ _ _ => rfl, rfl, fun _ _ _ _ => rfl, rfl, rfl, e⟩
theorem CSh.scr {h h' : PH} (c : CSh h) (s : scr h h') : CSh h' := c.of (fun q _ => by rw [s.2.1]) (fun a _ => by rw [s.2.2.2.1]) (fun a _ => by rw [s.2.2.2.2.1])
theorem MSh.scr {h h' : PH} (c : MSh h) (s : scr h h') : MSh h' := c.of (fun q _ => by rw [s.2.1]) (fun a _ => by rw [s.2.2.2.1]) (fun a _ => by rw [s.2.2.2.2.1])
theorem isScr_20 {b : Nat} (hb : 89 ≤ b) (k : Nat) : isScr 20 b k = false := by
  have e : ∀ n, n < 89 → (b == n) = false := fun n hn => by simp; omega
  simp [isScr, List.contains, List.elem, e]
theorem isScr_8 {a : Nat} (hb : 89 ≤ a) (k : Nat) : isScr 8 a k = false := by
  have e : (a == 40) = false := by simp; omega
  simp [isScr, e]
theorem TextAt.scr {h h' : PH} {a b : Nat} {ws : List Nat} (T : TextAt h a b ws) (ha : 89 ≤ a) (hb : 89 ≤ b) (s : scr h h') : TextAt h' a b ws := by
  obtain ⟨k1, k2, k3, k4, k5, k6⟩ := T
  exact ⟨by rw [s.2.2.2.1]; exact k1, by rw [s.1 8 a 1 (isScr_8 ha 1)]; exact k2, by rw [s.2.1]; exact k3, by rw [s.2.2.2.1]; exact k4, by rw [s.2.2.2.2.1]; exact k5, fun i hi => by rw [s.1 20 b i (isScr_20 hb i)]; exact k6 i hi⟩
theorem CT.scr {tx : TX} {h h' : PH} (T : CT tx h) (s : scr h h') : CT tx h' := fun t ht => by
  cases e : tx t with
  | none => show hR h' 26 15 t = none; rw [s.2.1]; exact T.n ht e
  | some ws =>
    obtain ⟨a, b, h1, h2, h3, h4⟩ := T.s ht e
    exact ⟨a, b, by rw [s.2.1]; exact h1, h2, h3, h4.scr h2 h3 s⟩
theorem MT.scr {tx : TX} {h h' : PH} (T : MT tx h) (s : scr h h') : MT tx h' := fun t ht => by
  have e1 : ∀ k, hI h' 21 47 k = hI h 21 47 k := fun k => s.1 21 47 k rfl
  have e2 : ∀ k, hI h' 20 49 k = hI h 20 49 k := fun k => s.1 20 49 k rfl
  have e3 : ∀ k, hI h' 20 48 k = hI h 20 48 k := fun k => s.1 20 48 k rfl
  cases e : tx t with
  | none => show hI h' 21 47 t = 0; rw [e1]; exact T.n ht e
  | some ws =>
    obtain ⟨h1, h2, h3⟩ := T.s ht e
    exact ⟨by rw [e1]; exact h1, by rw [e2]; exact h2, fun i hi => by rw [e3]; exact h3 i hi⟩
/-- what was thrown -/
theorem thr0 (h : PH) : hI (sI h 12 45 0 0) 12 45 0 = 0 := by rw [hI_sI, if_pos ⟨rfl, rfl, rfl⟩]
theorem scr_thr (h : PH) (v : Int32) : scr h (sI h 12 45 0 v) := scr_sI h v rfl
theorem thrown_eq {h : PH} (m : MSh h) : fX12_thrown 45 h = some (hI h 12 45 0) := by
  unfold fX12_thrown
  rw [gd_t (k_45 m)]
/-! CALLS THAT ONLY ASK -/
/-- a step of a call that may throw, its class's side fc, the reference's side fm; Cd: what may be thrown, Cv: what the law makes of it -/
def LBody (fc : Option ((Int32 × PH) ⊕ (Nat × PH))) (fm : PH → Option (Int32 × PH)) (Cd : Nat → Prop) (Cv : Nat → Option Value → Prop) (h : PH) (P : PH → Prop) : Prop :=
  ∃ r : ((Int32 × PH) ⊕ (Nat × PH)), fc = some r ∧ hK h 10 = 11 ∧ (∀ z, r = .inl z → hK z.2 87 = 23 ∧ 0 < hN z.2 87) ∧ (∀ z, r = .inr z → Cd z.1) ∧ xT2 r - hX h ≤ 1150 ∧ vT2 r - hV h ≤ 14000 ∧
    (∀ (v : Option Value) (u : PH), ((∃ z : Int32 × PH, r = .inl z ∧ v = some (.int 0) ∧ u = sL z.2 23 87 (Int32.toNatClampNeg 0) (Int32.toInt64 z.1)) ∨ (∃ (z : Nat × PH) (n : Nat), r = .inr z ∧ hX z.2 ≤ n ∧ u = hbump z.2 n ∧ Cv z.1 v)) →
      ∃ (code : Int32) (y : Int32 × PH), v = some (.int code) ∧ hK u 45 = 12 ∧ fm u = some y ∧ hK y.2 45 = 12 ∧ fX12_thrown 45 y.2 = some code ∧ (code = 0 → hK y.2 87 = 23 ∧ 0 < hN y.2 87 ∧ hL y.2 23 87 (Int32.toNatClampNeg 0) = Int32.toInt64 y.1) ∧ P y.2)
theorem lb_val {fc : Option ((Int32 × PH) ⊕ (Nat × PH))} {fm : PH → Option (Int32 × PH)} {Cd : Nat → Prop} {Cv : Nat → Option Value → Prop} {h : PH} {P : PH → Prop} (c : CSh h) (m : MSh h) {v0 : Int32} (hf : fc = some (.inl (v0, h)))
    (hm : ∀ u, scr h u → ∃ w, fm u = some (v0, w) ∧ scr u w ∧ hI w 12 45 0 = 0 ∧ hL w 23 87 0 = hL u 23 87 0) (hP : ∀ h', scr h h' → P h') : LBody fc fm Cd Cv h P := by
  refine ⟨_, hf, k_10 c, (fun z hz => by cases hz; exact ⟨k_87 c, by rw [n_87 c]; decide⟩), (fun z hz => by cases hz), ?_, ?_, ?_⟩
  · show hX h - hX h ≤ 1150; omega
  · show hV h - hV h ≤ 14000; omega
  · rintro v u (⟨z, hz, hv, rfl⟩ | ⟨z, n, hz, -⟩)
    · cases hz
      have su := scr_out h (Int32.toNatClampNeg 0) (Int32.toInt64 v0)
      obtain ⟨w, h1, h2, h3, h4⟩ := hm _ su
      have s2 := su.tr h2
      refine ⟨0, _, hv, k_45 (m.scr su), h1, k_45 (m.scr s2), (thrown_eq (m.scr s2)).trans (congrArg some h3), fun _ => ⟨k_87 (c.scr s2), by rw [n_87 (c.scr s2)]; decide, ?_⟩, hP _ s2⟩
      rw [show Int32.toNatClampNeg 0 = 0 from rfl]
      exact h4.trans (by rw [hL_sL, if_pos ⟨rfl, rfl, rfl⟩])
    · cases hz
theorem lb_exc {fc : Option ((Int32 × PH) ⊕ (Nat × PH))} {fm : PH → Option (Int32 × PH)} {Cd : Nat → Prop} {Cv : Nat → Option Value → Prop} {h : PH} {P : PH → Prop} (c : CSh h) (m : MSh h) {e : Nat} {code : Int32} (hf : fc = some (.inr (e, h)))
    (hd : Cd e) (hv : ∀ v, Cv e v → v = some (.int code)) (h0 : code ≠ 0) (hm : ∀ u, scr h u → ∃ y, fm u = some y ∧ scr u y.2 ∧ hI y.2 12 45 0 = code) (hP : ∀ h', scr h h' → P h') : LBody fc fm Cd Cv h P := by
  refine ⟨_, hf, k_10 c, (fun z hz => by cases hz), (fun z hz => by cases hz; exact hd), ?_, ?_, ?_⟩
  · show hX h + 1 - hX h ≤ 1150; omega
  · show hV h + 6 - hV h ≤ 14000; omega
  · rintro v u (⟨z, hz, -⟩ | ⟨z, n, hz, hn, rfl, hc⟩)
    · cases hz
    · cases hz
      have su := scr_bump h hn
      obtain ⟨y, h1, h2, h3⟩ := hm _ su
      have s2 := su.tr h2
      exact ⟨code, y, hv v hc, k_45 (m.scr su), h1, k_45 (m.scr s2), (thrown_eq (m.scr s2)).trans (congrArg some h3), fun q => absurd q h0, hP _ s2⟩
theorem hL_thr (h : PH) (v : Int32) : hL (sI h 12 45 0 v) = hL h := rfl
theorem ls_texts {h : PH} {P : PH → Prop} {tx : TX} (c : CSh h) (m : MSh h) (T1 : CT tx h) (T2 : MT tx h) (a1 a2 a3 a4 a5 : Int32) (hP : ∀ h', scr h h' → P h') : LS_11 10 45 87 88 a1 a2 a3 a4 a5 h P := by
  have s1 := scr_thr h 0
  refine ⟨_, X11_texts_eq c T1, k_10 c, (nI (cnt (fun t => (tx t).isSome) 100), sI h 12 45 0 0), k_45 m, ?_, rfl, hP _ s1⟩
  unfold fX12_texts
  rw [gd_t (k_45 m), lt_t, countTexts_eq (m.scr s1) (T2.scr s1), bd_t]
theorem X12_length_eq {u : PH} (m : MSh u) {tx : TX} (T : MT tx u) (x : Int32) : fX12_length 45 x u = some (match txI tx x with
      | none => (0, sI (sI u 12 45 0 0) 12 45 0 1)
      | some ws => (nI ws.length, sI u 12 45 0 0)) := by
  have s1 := scr_thr u 0
  have m1 := m.scr s1
  have t1 := T.scr s1
  unfold fX12_length fX12_length_b23
  rw [gd_t (k_45 m), lt_t, noText_eq m1 (thr0 u) t1, bd_t]
  rcases txI_or (tx := tx) x with ⟨-, h2⟩ | ⟨t, ht, rfl, e⟩
  · rw [h2]
    rfl
  · rw [e]
    cases q : tx t with
    | none => rfl
    | some ws =>
      show (if (0 : Int32) = 0 then _ else _) = _
      rw [if_pos rfl, gd_t (k_45 m1), r12_45_6 m1, gs_t, gd_t ⟨k_49 m1, by rw [n_49 m1]; exact inbI ht (by decide)⟩, nI_clamp (by omega), (t1.s ht q).2.1]
theorem ls_length {h : PH} {P : PH → Prop} {tx : TX} (c : CSh h) (m : MSh h) (T1 : CT tx h) (T2 : MT tx h) (a1 a2 a3 a4 a5 : Int32) (hP : ∀ h', scr h h' → P h') : LS_13 10 45 87 88 a1 a2 a3 a4 a5 h P := by
  show LBody (fX11_length 10 a1 h) (fX12_length 45 a1) (fun c => c = 2) (fun c v => c = 2 ∧ v = some (.int 1)) h P
  rcases demandText_eq c T1 a1 with ⟨e, f⟩ | ⟨t, ws, a, b, ht, rfl, q, e, h1, h2, h3, h4, f⟩
  · refine lb_exc c m (e := 2) (code := 1) ?_ rfl (fun v hv => hv.2) (by decide) (fun u su => ⟨_, X12_length_eq (m.scr su) (T2.scr su) a1, ?_, ?_⟩) hP
    · unfold fX11_length fX11_length_b0
      rw [gd_t (k_10 c), f, bx_r]
    · rw [e]; exact (scr_thr _ 0).tr (scr_thr _ 1)
    · rw [e]; exact (hI_sI _ _ _ _ _ _ _ _).trans (if_pos ⟨rfl, rfl, rfl⟩)
  · refine lb_val c m (v0 := nI ws.length) ?_ (fun u su => ⟨_, ?_, scr_thr u 0, thr0 u, rfl⟩) hP
    · unfold fX11_length fX11_length_b0 fX11_length_b5
      rw [gd_t (k_10 c), f, bx_l, gs_t, gd_t h4.1, X8_size_eq h4, bd_t]
    · rw [X12_length_eq (m.scr su) (T2.scr su), e]
