/-! THE CLASS'S INDEX -/
/-- bits of a set of texts -/
def BS (p : Nat → Bool) (h : PH) (b : Nat) : Prop := ∀ i, i < 64 → (hL h 9 b 0).toUInt64.toNat.testBit i = p i ∧ (hL h 9 b 1).toUInt64.toNat.testBit i = p (64 + i)
def WordAt (tx : TX) (w a b : Nat) (h : PH) : Prop := 89 ≤ a ∧ 89 ≤ b ∧ hK h a = 10 ∧ hI h 10 a 0 = nI w ∧ hI h 10 a 1 = nI (ord w) ∧ hR h 10 a 2 = some b ∧ hK h b = 9 ∧ BS (fun t => hasT tx t w) h b
/-- ks the words, e the row of the entries, wa and wb where the entries and their sets are -/
def IX (tx : TX) (ks : List Nat) (e : Nat) (wa wb : Nat → Nat) (h : PH) : Prop := allW tx ks ∧ ks.length ≤ 4000 ∧ hI h 14 17 2 = nI ks.length ∧ hR h 14 17 1 = some e ∧ hK h e = 28 ∧ ks.length ≤ hN h e ∧ (∀ i, i < ks.length → hR h 28 e i = some (wa (ks.getD i 0))) ∧ (∀ w, w ∈ ks → WordAt tx w (wa w) (wb w) h) ∧ (∀ w v, w ∈ ks → v ∈ ks → wa w = wa v → w = v) ∧ (∀ w v, w ∈ ks → v ∈ ks → wb w = wb v → w = v)
theorem nI_ltx {i n : Nat} (h : i < n) (hn : n < 2 ^ 31) : nI i < nI n := nI_lt h hn
theorem list_get {h : PH} {l e : Nat} {n : Nat} {x : Option Nat} (k1 : hK h l = 14) (k2 : hI h 14 l 2 = nI n) (k3 : hR h 14 l 1 = some e) (k4 : hK h e = 28) (k5 : n ≤ hN h e) (hn : n < 2 ^ 31) {i : Nat} (hi : i < n) (hx : hR h 28 e i = x) : fJx4a65c_get_915e3 l (nI i) h = some x := by
  unfold fJx4a65c_get_915e3 fJ15_checkIndex_7cf53 fJ3_checkIndex_8e157 fJx4a65c_elementData_915e3
  rw [gd_t k1, k2, if_neg (nI_pos (by omega)), if_pos (nI_lt hi hn), bd_t, bd_t, gd_t k1, k3, gs_t, gd_t ⟨k4, nI_pos (by omega), by rw [nI_clamp (by omega)]; omega⟩, nI_clamp (by omega), hx, bd_t]
theorem list_size {h : PH} {l n : Nat} (k1 : hK h l = 14) (k2 : hI h 14 l 2 = nI n) : fJx4a65c_size_8abf5 l h = some (nI n) := by
  unfold fJx4a65c_size_8abf5
  rw [gd_t k1, k2]
theorem ix_get {tx : TX} {ks : List Nat} {e : Nat} {wa wb : Nat → Nat} {h : PH} (c : CSh h) (X : IX tx ks e wa wb h) {i : Nat} (hi : i < ks.length) : fJx4a65c_get_915e3 17 (nI i) h = some (some (wa (ks.getD i 0))) :=
  list_get (k_17 c) X.2.2.1 X.2.2.2.1 X.2.2.2.2.1 X.2.2.2.2.2.1 (by have := X.2.1; omega) hi (X.2.2.2.2.2.2.1 i hi)
theorem ix_size {tx : TX} {ks : List Nat} {e : Nat} {wa wb : Nat → Nat} {h : PH} (c : CSh h) (X : IX tx ks e wa wb h) : fJx4a65c_size_8abf5 17 h = some (nI ks.length) := list_size (k_17 c) X.2.2.1
theorem ix_word {tx : TX} {ks : List Nat} {e : Nat} {wa wb : Nat → Nat} {h : PH} (X : IX tx ks e wa wb h) {w : Nat} (hw : w ∈ ks) : WordAt tx w (wa w) (wb w) h := X.2.2.2.2.2.2.2.1 w hw
theorem X3_size_eq {tx : TX} {ks : List Nat} {e : Nat} {wa wb : Nat → Nat} {h : PH} (c : CSh h) (X : IX tx ks e wa wb h) : fX3_size 16 h = some (nI ks.length) := by
  unfold fX3_size
  rw [gd_t (k_16 c), r3_16_0 c, gs_t, gd_t (k_17 c), ix_size c X, bd_t]
theorem idx_or {n : Nat} (hn : n < 2 ^ 31) (x : Int32) : (x < 0 ∨ ¬ x < nI n) ∨ ∃ i, i < n ∧ x = nI i := by
  by_cases h1 : x < 0
  · left; left; exact h1
  · by_cases h2 : x < nI n
    · right
      obtain ⟨i, hi, rfl⟩ := nI_of h1
      refine ⟨i, ?_, rfl⟩
      apply Nat.lt_of_not_le
      intro q
      exact absurd h2 (Int32.not_lt.mpr ((nI_leI hn hi).mpr q))
    · left; right; exact h2
theorem numberAt_n {tx : TX} {ks : List Nat} {e : Nat} {wa wb : Nat → Nat} {h : PH} (c : CSh h) (X : IX tx ks e wa wb h) {x : Int32} (hx : x < 0 ∨ ¬ x < nI ks.length) : fX3_numberAt 16 x h = some (-1) := by
  unfold fX3_numberAt fX3_numberAt_b15 fX3_numberAt_b33
  by_cases h0 : x < 0
  · rw [if_pos h0]
  · rw [if_neg h0, gd_t (k_16 c), r3_16_0 c, gs_t, gd_t (k_17 c), ix_size c X, bd_t, if_neg (hx.resolve_left h0)]
theorem numberAt_s {tx : TX} {ks : List Nat} {e : Nat} {wa wb : Nat → Nat} {h : PH} (c : CSh h) (X : IX tx ks e wa wb h) {i : Nat} (hi : i < ks.length) : fX3_numberAt 16 (nI i) h = some (nI (ks.getD i 0)) := by
  have h4 := X.2.1
  have W := ix_word X (mem_getD hi)
  unfold fX3_numberAt fX3_numberAt_b33
  rw [if_neg (nI_pos (by omega)), gd_t (k_16 c), r3_16_0 c, gs_t, gd_t (k_17 c), ix_size c X, bd_t, if_pos (nI_lt hi (by omega)), gs_t, gd_t (k_17 c), ix_get c X hi, bd_t, gs_t, gd_t W.2.2.1, W.2.2.2.1]
theorem countAhead_l {tx : TX} {ks : List Nat} {e : Nat} {wa wb : Nat → Nat} {h : PH} (c : CSh h) (X : IX tx ks e wa wb h) {x : Nat} (hx : x < 2 ^ 31) : ∀ f lo hi k, hi - lo < 2 ^ f → k + f ≤ 32 → lo ≤ pos ks x → pos ks x ≤ hi → hi ≤ ks.length → fX3_countAhead_l13 16 (nI x) (nI lo) (nI hi) (nI k) h = some (nI (pos ks x)) := by
  have h4 := X.2.1
  have s := X.1.1
  have dn : ∀ k, fX3_countAhead_c13 16 (nI x) (nI (pos ks x)) (nI (pos ks x)) k h = some (.inr (nI (pos ks x))) := fun k => by
    have := pos_le ks x
    unfold fX3_countAhead_c13 fX3_countAhead_b68
    rw [if_pos (nI_le (a := pos ks x) (Nat.le_refl _) (by omega)), mr_t]
    split <;> rfl
  intro f
  induction f with
  | zero =>
    intro lo hi k h1 h2 h3 h5 h6
    have e1 : lo = pos ks x := by omega
    have e2 : hi = pos ks x := by omega
    rw [e1, e2]
    unfold fX3_countAhead_l13
    exact wh_done (dn _)
  | succ f ih =>
    intro lo hi k h1 h2 h3 h5 h6
    rw [Nat.pow_succ] at h1
    by_cases z : lo < hi
    · have hj : (lo + hi) / 2 < ks.length := by omega
      have W := ix_word X (mem_getD hj)
      have hv := s.2 _ (mem_getD hj)
      have ho := ord_lt (vw2 hv)
      have st : fX3_countAhead_c13 16 (nI x) (nI lo) (nI hi) (nI k) h = (if nI x ≤ nI (ord (ks.getD ((lo + hi) / 2) 0)) then fX3_countAhead_b62 16 (nI x) (nI lo) (nI ((lo + hi) / 2)) (nI k) h else fX3_countAhead_b62 16 (nI x) (nI ((lo + hi) / 2) + 1) (nI hi) (nI k) h) := by
        unfold fX3_countAhead_c13
        rw [if_neg (by rw [show (32 : Int32) = nI 32 from rfl, nI_leI (by decide) (by omega)]; omega), if_neg (nI_ge z (by omega)), gd_t (k_16 c), r3_16_0 c, gs_t, gd_t (k_17 c), half_mid (by omega), ix_get c X hj, bd_t, gs_t, gd_t W.2.2.1, W.2.2.2.2.1]
      have p := pos_iff (x := x) s hj
      have hle : (nI x ≤ nI (ord (ks.getD ((lo + hi) / 2) 0))) = (x ≤ ord (ks.getD ((lo + hi) / 2) 0)) := propext (nI_leI hx (Nat.lt_of_lt_of_le ho (by decide)))
      unfold fX3_countAhead_l13 at ih ⊢
      by_cases d : (lo + hi) / 2 < pos ks x
      · refine wh_step (t := (nI ((lo + hi) / 2 + 1), nI hi, nI (k + 1))) ?_ (ih _ _ _ (by omega) (by omega) (by omega) h5 h6)
        show fX3_countAhead_c13 16 (nI x) (nI lo) (nI hi) (nI k) h = _
        rw [st, ifp hle, if_neg (by have := p.mpr d; omega)]
        unfold fX3_countAhead_b62
        rw [nI_1, nI_1]
      · refine wh_step (t := (nI lo, nI ((lo + hi) / 2), nI (k + 1))) ?_ (ih _ _ _ (by omega) (by omega) h3 (by omega) (by omega))
        show fX3_countAhead_c13 16 (nI x) (nI lo) (nI hi) (nI k) h = _
        rw [st, ifp hle, if_pos (by have : ¬ _ := fun q => d (p.mp q); omega)]
        unfold fX3_countAhead_b62
        rw [nI_1]
    · have e1 : lo = pos ks x := by omega
      have e2 : hi = pos ks x := by omega
      rw [e1, e2]
      unfold fX3_countAhead_l13
      exact wh_done (dn _)
theorem countAhead_eq {tx : TX} {ks : List Nat} {e : Nat} {wa wb : Nat → Nat} {h : PH} (c : CSh h) (X : IX tx ks e wa wb h) {x : Nat} (hx : x < 2 ^ 31) : fX3_countAhead 16 (nI x) h = some (nI (pos ks x)) := by
  unfold fX3_countAhead
  rw [gd_t (k_16 c), r3_16_0 c, gs_t, gd_t (k_17 c), ix_size c X, bd_t]
  exact countAhead_l c X hx 12 0 ks.length 0 (by have := X.2.1; omega) (by decide) (Nat.zero_le _) (pos_le _ _) (Nat.le_refl _)
theorem ordb {w : Nat} (hw : vword w = true) : ord w < 2 ^ 31 := Nat.lt_of_lt_of_le (ord_lt (vw2 hw)) (by decide)
theorem find_eq {tx : TX} {ks : List Nat} {e : Nat} {wa wb : Nat → Nat} {h : PH} (c : CSh h) (X : IX tx ks e wa wb h) {w : Nat} (hw : vword w = true) : fX3_find 16 (nI w) h = some (if w ∈ ks then some (wa w) else none) := by
  have h4 := X.2.1
  have s := X.1.1
  unfold fX3_find fX3_find_b38
  rw [orderOf_eq (vw2 hw), bd_t, gd_t (k_16 c), countAhead_eq c X (ordb hw), bd_t, r3_16_0 c, gs_t, gd_t (k_17 c), ix_size c X, bd_t]
  by_cases d : pos ks (ord w) < ks.length
  · have W := ix_word X (mem_getD d)
    rw [if_neg (nI_ge d (by omega)), gs_t, gd_t (k_17 c), ix_get c X d, bd_t, gs_t, gd_t W.2.2.1, W.2.2.2.1]
    have hv := s.2 _ (mem_getD d)
    by_cases q : ks.getD (pos ks (ord w)) 0 = w
    · have hm : w ∈ ks := (pos_has s).mp ⟨d, q⟩
      rw [if_pos (by rw [q]), gs_t, gd_t (k_17 c), ix_get c X d, bd_t, gs_t, gd_t W.2.2.1, if_pos hm, q]
    · have hm : ¬ w ∈ ks := fun z => q ((pos_has s).mpr z).2
      rw [if_neg (by rw [nI_eq (vw31 hv) (vw31 hw)]; exact q), if_neg hm]
  · have hm : ¬ w ∈ ks := fun z => d ((pos_has s).mpr z).1
    have := pos_le ks (ord w)
    rw [if_pos (nI_le (by omega) (by omega)), if_neg hm]
theorem isScr_10 {a : Nat} (k : Nat) : isScr 10 a k = false := by simp [isScr]
theorem isScr_14 {a : Nat} (k : Nat) : isScr 14 a k = false := by simp [isScr]
theorem WordAt.scr {tx : TX} {w a b : Nat} {h h' : PH} (W : WordAt tx w a b h) (s : scr h h') : WordAt tx w a b h' := by
  obtain ⟨k1, k2, k3, k4, k5, k6, k7, k8⟩ := W
  refine ⟨k1, k2, by rw [s.2.2.2.1]; exact k3, by rw [s.1 10 a 0 (isScr_10 0)]; exact k4, by rw [s.1 10 a 1 (isScr_10 1)]; exact k5, by rw [s.2.1]; exact k6, by rw [s.2.2.2.1]; exact k7, fun i hi => ?_⟩
  rw [s.2.2.1 9 b 0 (Or.inl (by decide)), s.2.2.1 9 b 1 (Or.inl (by decide))]
  exact k8 i hi
theorem IX.scr {tx : TX} {ks : List Nat} {e : Nat} {wa wb : Nat → Nat} {h h' : PH} (X : IX tx ks e wa wb h) (s : scr h h') : IX tx ks e wa wb h' := by
  obtain ⟨k1, k2, k3, k4, k5, k6, k7, k8, k9, k10⟩ := X
  exact ⟨k1, k2, by rw [s.1 14 17 2 (isScr_14 2)]; exact k3, by rw [s.2.1]; exact k4, by rw [s.2.2.2.1]; exact k5, by rw [s.2.2.2.2.1]; exact k6, fun i hi => by rw [s.2.1]; exact k7 i hi, fun w hw => (k8 w hw).scr s, k9, k10⟩
