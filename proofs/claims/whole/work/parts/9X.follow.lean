/-! FOLLOWING CHANGES IN THE INDEX -/
/-- changes within changes -/
theorem chg.tr2 {F G F2 G2 : Nat → Nat → Nat → Prop} {L L2 : Nat → Prop} {h h1 h2 : PH} (x : chg F G L h h1) (y : chg F2 G2 L2 h1 h2) (hf : ∀ c a k, a < hX h → F2 c a k → F c a k) (hg : ∀ c a k, a < hX h → G2 c a k → G c a k) (hl : ∀ a, a < hX h → L2 a → L a) : chg F G L h h2 := ⟨Nat.le_trans x.1 y.1, fun c a k ha n => (y.2.1 c a k (Nat.lt_of_lt_of_le ha x.1) (fun z => n (hf c a k ha z))).trans (x.2.1 c a k ha n), fun c a k ha n => (y.2.2.1 c a k (Nat.lt_of_lt_of_le ha x.1) (fun z => n (hg c a k ha z))).trans (x.2.2.1 c a k ha n), fun c a k ha n => (y.2.2.2.1 c a k (Nat.lt_of_lt_of_le ha x.1) (fun z => n (hl a ha z))).trans (x.2.2.2.1 c a k ha n), fun a ha => ⟨(y.2.2.2.2 a (Nat.lt_of_lt_of_le ha x.1)).1.trans (x.2.2.2.2 a ha).1, (y.2.2.2.2 a (Nat.lt_of_lt_of_le ha x.1)).2.trans (x.2.2.2.2 a ha).2⟩⟩
def WordP (p : Nat → Nat → Bool) (w a b : Nat) (h : PH) : Prop := 89 ≤ a ∧ 89 ≤ b ∧ hK h a = 10 ∧ hI h 10 a 0 = nI w ∧ hI h 10 a 1 = nI (ord w) ∧ hR h 10 a 2 = some b ∧ hK h b = 9 ∧ BS (fun t => p t w) h b
/-- an index of what p says: which text has which word -/
def IY (p : Nat → Nat → Bool) (ks : List Nat) (e : Nat) (wa wb : Nat → Nat) (h : PH) : Prop := (SK ks ∧ ∀ w, w ∈ ks ↔ ∃ t, t < 100 ∧ p t w = true) ∧ ks.length ≤ 4090 ∧ LA h 17 e (ks.map wa) ∧ (∀ w, w ∈ ks → WordP p w (wa w) (wb w) h ∧ wa w < hX h ∧ wb w < hX h) ∧ (∀ w v, w ∈ ks → v ∈ ks → wa w = wa v → w = v) ∧ (∀ w v, w ∈ ks → v ∈ ks → wb w = wb v → w = v) ∧ (e < 89 → e = 3) ∧ (∀ t w, 100 ≤ t → p t w = false) ∧ 89 ≤ hX h
theorem map_getD {f : Nat → Nat} {ks : List Nat} {i : Nat} (h : i < ks.length) : (ks.map f).getD i 0 = f (ks.getD i 0) := by
  rw [List.getD_eq_getElem?_getD, List.getElem?_map, List.getElem?_eq_getElem h, List.getD_eq_getElem?_getD, List.getElem?_eq_getElem h]
  rfl
theorem IXB.IY {tx : TX} {ks : List Nat} {e : Nat} {wa wb : Nat → Nat} {h : PH} (c : CSh h) (o : okX tx) (b : 89 ≤ hX h) (X : IXB tx ks e wa wb h) : IY (hasT tx) ks e wa wb h := by
  obtain ⟨⟨k1, k2, k3, k4, k5, k6, k7, k8, k9, k10⟩, i1, i2, i3, i4, i5, i6⟩ := X
  refine ⟨k1, by omega, ⟨k_17 c, by rw [List.length_map]; exact k3, k4, k5, by rw [List.length_map]; exact k6, fun i hi => ?_, i4, fun x hx => ?_, i5, by omega, i1, fun x hx => ?_⟩, fun w hw => ⟨k8 w hw, (i3 w hw).1, (i3 w hw).2⟩, k9, k10, i6, fun t w ht => hasT_100 o ht w, b⟩
  · rw [List.length_map] at hi
    rw [map_getD hi]
    exact k7 i hi
  · obtain ⟨w, hw, rfl⟩ := List.mem_map.mp hx
    rw [(k8 w hw).2.2.1]
    decide
  · obtain ⟨w, hw, rfl⟩ := List.mem_map.mp hx
    exact (i3 w hw).1
theorem IY.IXB {tx : TX} {ks : List Nat} {e : Nat} {wa wb : Nat → Nat} {h : PH} (Y : IY (hasT tx) ks e wa wb h) (l : ks.length ≤ 4000) : IXB tx ks e wa wb h := by
  obtain ⟨y1, y2, ⟨k1, k2, k3, k4, k5, k6, k7, k8, k9, k10, k11, k12⟩, y4, y5, y6, y7, y8, y9⟩ := Y
  rw [List.length_map] at k2 k5 k6
  refine ⟨⟨y1, l, k2, k3, k4, k5, fun i hi => ?_, fun w hw => (y4 w hw).1, y5, y6⟩, k11, fun z => ?_, fun w hw => (y4 w hw).2, k7, k9, y7⟩
  · rw [k6 i hi, map_getD hi]
  · rw [z, k1] at k4; cases k4
theorem Y_get {p : Nat → Nat → Bool} {ks : List Nat} {e : Nat} {wa wb : Nat → Nat} {h : PH} (_c : CSh h) (X : IY p ks e wa wb h) {i : Nat} (hi : i < ks.length) : fJx4a65c_get_915e3 17 (nI i) h = some (some (wa (ks.getD i 0))) := by
  have A := X.2.2.1
  have l := X.2.1
  have k5 := A.2.2.2.2.1
  have k6 := A.2.2.2.2.2.1
  have k2 := A.2.1
  rw [List.length_map] at k2 k5 k6
  exact list_get A.1 k2 A.2.2.1 A.2.2.2.1 k5 (by omega) hi (by rw [k6 i hi, map_getD hi])
theorem Y_size {p : Nat → Nat → Bool} {ks : List Nat} {e : Nat} {wa wb : Nat → Nat} {h : PH} (_c : CSh h) (X : IY p ks e wa wb h) : fJx4a65c_size_8abf5 17 h = some (nI ks.length) := by
  have k2 := X.2.2.1.2.1
  rw [List.length_map] at k2
  exact list_size X.2.2.1.1 k2
theorem countAhead_gl {p : Nat → Nat → Bool} {ks : List Nat} {e : Nat} {wa wb : Nat → Nat} {h : PH} (c : CSh h) (X : IY p ks e wa wb h) {x : Nat} (hx : x < 2 ^ 31) : ∀ f lo hi k, hi - lo < 2 ^ f → k + f ≤ 32 → lo ≤ pos ks x → pos ks x ≤ hi → hi ≤ ks.length → fX3_countAhead_l13 16 (nI x) (nI lo) (nI hi) (nI k) h = some (nI (pos ks x)) := by
  have h4 := X.2.1
  have s := X.1.1
  have dn : ∀ k, fX3_countAhead_c13 16 (nI x) (nI (pos ks x)) (nI (pos ks x)) k h = some (.inr (nI (pos ks x))) := fun k => by
    have := pos_le ks x
    unfold fX3_countAhead_c13 fX3_countAhead_b68
    rw [if_pos (nI_le (a := pos ks x) (Nat.le_refl _) (by omega)), mr_t]
    split <;> rfl
  intro f
  induction f with
  | zero =>
    intro lo hi k h1 h2 h3 h5 h6
    have e1 : lo = pos ks x := by omega
    have e2 : hi = pos ks x := by omega
    rw [e1, e2]
    unfold fX3_countAhead_l13
    exact wh_done (dn _)
  | succ f ih =>
    intro lo hi k h1 h2 h3 h5 h6
    rw [Nat.pow_succ] at h1
    by_cases z : lo < hi
    · have hj : (lo + hi) / 2 < ks.length := by omega
      have W := (X.2.2.2.1 _ (mem_getD hj)).1
      have hv := s.2 _ (mem_getD hj)
      have ho := ord_lt (vw2 hv)
      have st : fX3_countAhead_c13 16 (nI x) (nI lo) (nI hi) (nI k) h = (if nI x ≤ nI (ord (ks.getD ((lo + hi) / 2) 0)) then fX3_countAhead_b62 16 (nI x) (nI lo) (nI ((lo + hi) / 2)) (nI k) h else fX3_countAhead_b62 16 (nI x) (nI ((lo + hi) / 2) + 1) (nI hi) (nI k) h) := by
        unfold fX3_countAhead_c13
        rw [if_neg (by rw [show (32 : Int32) = nI 32 from rfl, nI_leI (by decide) (by omega)]; omega), if_neg (nI_ge z (by omega)), gd_t (k_16 c), r3_16_0 c, gs_t, gd_t (k_17 c), half_mid (by omega), Y_get c X hj, bd_t, gs_t, gd_t W.2.2.1, W.2.2.2.2.1]
      have p := pos_iff (x := x) s hj
      have hle : (nI x ≤ nI (ord (ks.getD ((lo + hi) / 2) 0))) = (x ≤ ord (ks.getD ((lo + hi) / 2) 0)) := propext (nI_leI hx (Nat.lt_of_lt_of_le ho (by decide)))
      unfold fX3_countAhead_l13 at ih ⊢
      by_cases d : (lo + hi) / 2 < pos ks x
      · refine wh_step (t := (nI ((lo + hi) / 2 + 1), nI hi, nI (k + 1))) ?_ (ih _ _ _ (by omega) (by omega) (by omega) h5 h6)
        show fX3_countAhead_c13 16 (nI x) (nI lo) (nI hi) (nI k) h = _
        rw [st, ifp hle, if_neg (by have := p.mpr d; omega)]
        unfold fX3_countAhead_b62
        rw [nI_1, nI_1]
      · refine wh_step (t := (nI lo, nI ((lo + hi) / 2), nI (k + 1))) ?_ (ih _ _ _ (by omega) (by omega) h3 (by omega) (by omega))
        show fX3_countAhead_c13 16 (nI x) (nI lo) (nI hi) (nI k) h = _
        rw [st, ifp hle, if_pos (by have : ¬ _ := fun q => d (p.mp q); omega)]
        unfold fX3_countAhead_b62
        rw [nI_1]
    · have e1 : lo = pos ks x := by omega
      have e2 : hi = pos ks x := by omega
      rw [e1, e2]
      unfold fX3_countAhead_l13
      exact wh_done (dn _)
theorem countAhead_g {p : Nat → Nat → Bool} {ks : List Nat} {e : Nat} {wa wb : Nat → Nat} {h : PH} (c : CSh h) (X : IY p ks e wa wb h) {x : Nat} (hx : x < 2 ^ 31) : fX3_countAhead 16 (nI x) h = some (nI (pos ks x)) := by
  unfold fX3_countAhead
  rw [gd_t (k_16 c), r3_16_0 c, gs_t, gd_t (k_17 c), Y_size c X, bd_t]
  exact countAhead_gl c X hx 12 0 ks.length 0 (by have := X.2.1; omega) (by decide) (Nat.zero_le _) (pos_le _ _) (Nat.le_refl _)
/-- what following a change changes -/
def yL (a : Nat) : Prop := 89 ≤ a
def yC (e : Nat) (h h' : PH) : Prop := chg (lF 17) (lG 17 e) yL h h'
theorem yC.tr {e e' : Nat} {h h1 h2 : PH} (x : yC e h h1) (y : yC e' h1 h2) (z : e' = e ∨ hX h ≤ e') : yC e h h2 := chg.tr2 x y (fun _ _ _ _ q => q) (fun c a k ha q => by
  rcases q with q | ⟨q1, q2⟩
  · exact Or.inl q
  · rcases z with z | z
    · exact Or.inr ⟨q1, q2.trans z⟩
    · omega) (fun _ _ q => q)
theorem lG17 {e a : Nat} : ¬ lG 17 e 10 a 2 := fun z => by
  rcases z with z | z
  · exact absurd z.1 (by decide)
  · exact absurd z.1 (by decide)
theorem WordP.chg {F G : Nat → Nat → Nat → Prop} {L : Nat → Prop} {p p' : Nat → Nat → Bool} {w a b : Nat} {h h' : PH} (W : WordP p w a b h) (ha : a < hX h) (hb : b < hX h) (x : chg F G L h h') (f : ∀ k, ¬ F 10 a k) (g : ¬ G 10 a 2) (l : ¬ L b) (pp : ∀ t, p t w = p' t w) : WordP p' w a b h' := by
  obtain ⟨k1, k2, k3, k4, k5, k6, k7, k8⟩ := W
  refine ⟨k1, k2, (x.2.2.2.2 a ha).1.trans k3, (x.2.1 10 a 0 ha (f 0)).trans k4, (x.2.1 10 a 1 ha (f 1)).trans k5, (x.2.2.1 10 a 2 ha g).trans k6, (x.2.2.2.2 b hb).1.trans k7, fun i hi => ?_⟩
  rw [x.2.2.2.1 9 b 0 hb l, x.2.2.2.1 9 b 1 hb l]
  exact ⟨((k8 i hi).1).trans (pp _), ((k8 i hi).2).trans (pp _)⟩
/-- one more place of one more word -/
def pPut (p : Nat → Nat → Bool) (t w : Nat) : Nat → Nat → Bool := fun t' v => decide (t' = t ∧ v = w) || p t' v
def pTake (p : Nat → Nat → Bool) (t w : Nat) : Nat → Nat → Bool := fun t' v => !decide (t' = t ∧ v = w) && p t' v
theorem pPut_ne {p : Nat → Nat → Bool} {t w v : Nat} (h : v ≠ w) (t' : Nat) : pPut p t w t' v = p t' v := by
  unfold pPut
  rw [decide_eq_false (fun z => h z.2), Bool.false_or]
theorem pTake_ne {p : Nat → Nat → Bool} {t w v : Nat} (h : v ≠ w) (t' : Nat) : pTake p t w t' v = p t' v := by
  unfold pTake
  rw [decide_eq_false (fun z => h z.2), Bool.not_false, Bool.true_and]
