/-! ONE WORD MORE, ONE WORD LESS in the index -/
def IZ (p : Nat → Nat → Bool) (ks : List Nat) (e : Nat) (wa wb : Nat → Nat) (h : PH) : Prop := SK ks ∧ ks.length ≤ 4090 ∧ LA h 17 e (ks.map wa) ∧ (∀ w, w ∈ ks → WordP p w (wa w) (wb w) h ∧ wa w < hX h ∧ wb w < hX h) ∧ (∀ w v, w ∈ ks → v ∈ ks → wa w = wa v → w = v) ∧ (∀ w v, w ∈ ks → v ∈ ks → wb w = wb v → w = v) ∧ (e < 89 → e = 3) ∧ 89 ≤ hX h
theorem IY.Z {p : Nat → Nat → Bool} {ks : List Nat} {e : Nat} {wa wb : Nat → Nat} {h : PH} (Y : IY p ks e wa wb h) : IZ p ks e wa wb h := ⟨Y.1.1, Y.2.1, Y.2.2.1, Y.2.2.2.1, Y.2.2.2.2.1, Y.2.2.2.2.2.1, Y.2.2.2.2.2.2.1, Y.2.2.2.2.2.2.2.2⟩
theorem IZ.Y {p : Nat → Nat → Bool} {ks : List Nat} {e : Nat} {wa wb : Nat → Nat} {h : PH} (Z : IZ p ks e wa wb h) (hm : ∀ w, w ∈ ks ↔ ∃ t, t < 100 ∧ p t w = true) (z : ∀ t w, 100 ≤ t → p t w = false) : IY p ks e wa wb h := ⟨⟨Z.1, hm⟩, Z.2.1, Z.2.2.1, Z.2.2.2.1, Z.2.2.2.2.1, Z.2.2.2.2.2.1, Z.2.2.2.2.2.2.1, z, Z.2.2.2.2.2.2.2⟩
/-- another set for one word -/
theorem IZ.set {p p' : Nat → Nat → Bool} {ks : List Nat} {e : Nat} {wa wb : Nat → Nat} {h h' : PH} (Z : IZ p ks e wa wb h) {w : Nat} (hw : w ∈ ks) (o : onlyL (wb w) h h') (B : BS (fun t => p' t w) h' (wb w)) (n : ∀ v, v ≠ w → ∀ t, p t v = p' t v) : IZ p' ks e wa wb h' := by
  obtain ⟨z1, z2, z3, z4, z5, z6, z7, z8⟩ := Z
  have x : chg (fun _ _ _ => False) (fun _ _ _ => False) (fun a => a = wb w) h h' := chg_L o rfl
  refine ⟨z1, z2, z3.chg x (fun q => q) (fun q => q) (fun _ q => q), fun v hv => ?_, z5, z6, z7, Nat.le_trans z8 x.1⟩
  obtain ⟨W, b1, b2⟩ := z4 v hv
  refine ⟨?_, Nat.lt_of_lt_of_le b1 x.1, Nat.lt_of_lt_of_le b2 x.1⟩
  by_cases d : v = w
  · subst d
    obtain ⟨k1, k2, k3, k4, k5, k6, k7, k8⟩ := W
    refine ⟨k1, k2, (x.2.2.2.2 _ b1).1.trans k3, (x.2.1 10 _ 0 b1 (fun q => q)).trans k4, (x.2.1 10 _ 1 b1 (fun q => q)).trans k5, (x.2.2.1 10 _ 2 b1 (fun q => q)).trans k6, (x.2.2.2.2 _ b2).1.trans k7, B⟩
  · exact W.chg b1 b2 x (fun _ q => q) (fun q => q) (fun q => d (z6 v w hv hw q)) (n v d)
theorem Z_get {p : Nat → Nat → Bool} {ks : List Nat} {e : Nat} {wa wb : Nat → Nat} {h : PH} (X : IZ p ks e wa wb h) {i : Nat} (hi : i < ks.length) : fJx4a65c_get_915e3 17 (nI i) h = some (some (wa (ks.getD i 0))) := by
  have A := X.2.2.1
  have l := X.2.1
  have k5 := A.2.2.2.2.1
  have k6 := A.2.2.2.2.2.1
  have k2 := A.2.1
  rw [List.length_map] at k2 k5 k6
  exact list_get A.1 k2 A.2.2.1 A.2.2.2.1 k5 (by omega) hi (by rw [k6 i hi, map_getD hi])
theorem cs_lG {h h' : PH} {e : Nat} {L : Nat → Prop} (c : CSh h) (b : 89 ≤ hX h) (x : chg (lF 17) (lG 17 e) L h h') : CSh h' := c.chg b x (by
  intro q hq z
  have : ∀ q ∈ sCR, ¬ (q.1 = 14 ∧ q.2.1 = 17 ∧ q.2.2.1 = 1 ∨ q.1 = 28) := by decide
  refine this q hq ?_
  rcases z with z | z
  · exact Or.inl z
  · exact Or.inr z.1)
def YB (h h' : PH) (e e' n : Nat) : Prop := hX h' ≤ hX h + 3 ∧ hN h e ≤ hN h' e' ∧ hV h' + 4 * hN h e ≤ hV h + 4 * hN h' e' + 5 ∧ (hN h' e' = hN h e ∨ 2 * hN h' e' ≤ 3 * n + 20) ∧ (e' = e ∨ hX h ≤ e')
/-- the word's set at its place gets the text -/
theorem enter_b61 {p : Nat → Nat → Bool} {ks : List Nat} {e : Nat} {wa wb : Nat → Nat} {h : PH} (c : CSh h) (Z : IZ p ks e wa wb h) {w t : Nat} (hw : w ∈ ks) (ht : t < 100) (v1 : Int32) : ∃ h', fX3_enter_b61 16 (nI t) (nI (pos ks (ord w))) h = some h' ∧ IZ (pPut p t w) ks e wa wb h' ∧ onlyL (wb w) h h' := by
  have q := (pos_has Z.1).mpr hw
  obtain ⟨W, b1, b2⟩ := Z.2.2.2.1 w hw
  obtain ⟨h', f1, f2, f3⟩ := X9_put_eq W.2.2.2.2.2.2.1 W.2.2.2.2.2.2.2 ht
  refine ⟨h', ?_, Z.set hw f3 (f2.cong (fun i => ?_)) (fun v hv t' => (pPut_ne hv t').symm), f3⟩
  · unfold fX3_enter_b61
    rw [gd_t (k_16 c), r3_16_0 c, gs_t, gd_t (k_17 c), Z_get Z q.1, q.2, bd_t, gs_t, gd_t W.2.2.1, W.2.2.2.2.2.1, gs_t, gd_t W.2.2.2.2.2.2.1, f1, bd_t]
  · unfold pPut
    congr 1
    exact decide_eq_decide.mpr ⟨fun z => ⟨z, rfl⟩, fun z => z.1⟩
/-- a new word, its set empty -/
theorem enter_new {p : Nat → Nat → Bool} {ks : List Nat} {e : Nat} {wa wb : Nat → Nat} {h : PH} (c : CSh h) (Z : IZ p ks e wa wb h) {w : Nat} (hw : vword w = true) (hn : ¬ w ∈ ks) (hl : ks.length ≤ 4060) (pw : ∀ t, p t w = false) (v1 v2 : Int32) : ∃ e' h', fX3_enter_b43 16 (nI w) v1 (nI (ord w)) (nI (pos ks (ord w))) h = fX3_enter_b61 16 v1 (nI (pos ks (ord w))) h' ∧ IZ p (insW ks w) e' (fun v => if v = w then hX h else wa v) (fun v => if v = w then hX h + 1 else wb v) h' ∧ chg (lF 17) (lG 17 e) (fun _ => False) h h' ∧ YB h h' e e' ks.length ∧ hX h + 1 < hX h' := by
  have no : ∀ {q : Prop}, hX h < hX h → q := fun y => absurd y (Nat.lt_irrefl _)
  have no1 : ∀ {q : Prop}, hX h + 1 < hX h → q := fun y => absurd y (by omega)
  have kx : hK (sI (sI (hnew h 10 3) 10 (hX h) 0 (nI w)) 10 (hX h) 1 (nI (ord w))) (hX h) = 10 := by rw [hK_sI, hK_sI, hK_new, if_pos rfl]
  have hx1 : hX (sI (sI (hnew h 10 3) 10 (hX h) 0 (nI w)) 10 (hX h) 1 (nI (ord w))) = hX h + 1 := rfl
  have hx2 : hX h ≠ hX h + 1 := by omega
  have in0 : fX10_init (hX h) (nI w) (nI (ord w)) (hnew h 10 3) = some (sR (hnew (sI (sI (hnew h 10 3) 10 (hX h) 0 (nI w)) 10 (hX h) 1 (nI (ord w))) 9 2) 10 (hX h) 2 (some (hX h + 1))) := by
    unfold fX10_init fX10_init_b0 fX10_init_b18 fX9_init
    rw [gd_t (show hK (hnew h 10 3) (hX h) = 10 by rw [hK_new, if_pos rfl]), lt_t, lt_t, hx1, bd_t, gd_t (show hK (hnew (sI (sI (hnew h 10 3) 10 (hX h) 0 (nI w)) 10 (hX h) 1 (nI (ord w))) 9 2) (hX h) = 10 by rw [hK_new, hx1, if_neg hx2]; exact kx), lt_t]
  have x0 : chg (fun _ _ _ => False) (fun _ _ _ => False) (fun _ => False) h (sR (hnew (sI (sI (hnew h 10 3) 10 (hX h) 0 (nI w)) 10 (hX h) 1 (nI (ord w))) 9 2) 10 (hX h) 2 (some (hX h + 1))) := (((((chg.rf _ _ _ h).aN 10 3).aI _ no).aI _ no).aN 9 2).aR _ no
  have g1 : hK (sR (hnew (sI (sI (hnew h 10 3) 10 (hX h) 0 (nI w)) 10 (hX h) 1 (nI (ord w))) 9 2) 10 (hX h) 2 (some (hX h + 1))) (hX h) = 10 := by rw [hK_sR, hK_new, hx1, if_neg hx2]; exact kx
  have g2 : hI (sR (hnew (sI (sI (hnew h 10 3) 10 (hX h) 0 (nI w)) 10 (hX h) 1 (nI (ord w))) 9 2) 10 (hX h) 2 (some (hX h + 1))) 10 (hX h) 0 = nI w := by rw [hI_sR, hI_new, hx1, if_neg hx2, hI_sI, if_neg (by simp), hI_sI, if_pos ⟨rfl, rfl, rfl⟩]
  have g3 : hI (sR (hnew (sI (sI (hnew h 10 3) 10 (hX h) 0 (nI w)) 10 (hX h) 1 (nI (ord w))) 9 2) 10 (hX h) 2 (some (hX h + 1))) 10 (hX h) 1 = nI (ord w) := by rw [hI_sR, hI_new, hx1, if_neg hx2, hI_sI, if_pos ⟨rfl, rfl, rfl⟩]
  have g4 : hR (sR (hnew (sI (sI (hnew h 10 3) 10 (hX h) 0 (nI w)) 10 (hX h) 1 (nI (ord w))) 9 2) 10 (hX h) 2 (some (hX h + 1))) 10 (hX h) 2 = some (hX h + 1) := by rw [hR_sR, if_pos ⟨rfl, rfl, rfl⟩]
  have g5 : hK (sR (hnew (sI (sI (hnew h 10 3) 10 (hX h) 0 (nI w)) 10 (hX h) 1 (nI (ord w))) 9 2) 10 (hX h) 2 (some (hX h + 1))) (hX h + 1) = 9 := by rw [hK_sR, hK_new, hx1, if_pos rfl]
  have g6 : ∀ k, hL (sR (hnew (sI (sI (hnew h 10 3) 10 (hX h) 0 (nI w)) 10 (hX h) 1 (nI (ord w))) 9 2) 10 (hX h) 2 (some (hX h + 1))) 9 (hX h + 1) k = 0 := fun k => by rw [hL_sR, hL_new, hx1, if_pos rfl]
  have g7 : hX (sR (hnew (sI (sI (hnew h 10 3) 10 (hX h) 0 (nI w)) 10 (hX h) 1 (nI (ord w))) 9 2) 10 (hX h) 2 (some (hX h + 1))) = hX h + 2 := rfl
  have g8 : hV (sR (hnew (sI (sI (hnew h 10 3) 10 (hX h) 0 (nI w)) 10 (hX h) 1 (nI (ord w))) 9 2) 10 (hX h) 2 (some (hX h + 1))) = hV h + 5 := rfl
  have b9 := Z.2.2.2.2.2.2.2
  generalize sR (hnew (sI (sI (hnew h 10 3) 10 (hX h) 0 (nI w)) 10 (hX h) 1 (nI (ord w))) 9 2) 10 (hX h) 2 (some (hX h + 1)) = g at in0 x0 g1 g2 g3 g4 g5 g6 g7 g8
  obtain ⟨z1, z2, z3, z4, z5, z6, z7, z8⟩ := Z
  have he := z3.2.2.2.2.2.2.2.2.2.2.1
  have k4 := z3.2.2.2.1
  have kN := (x0.2.2.2.2 e he).2
  have A : LA g 17 e (ks.map wa) := z3.chg x0 (fun q => q) (fun q => q) (fun _ q => q)
  have cg : CSh g := c.chg b9 x0 (fun _ _ q => q)
  have hp : pos ks (ord w) ≤ (ks.map wa).length := by rw [List.length_map]; exact pos_le _ _
  obtain ⟨e', h', r1, r2, r3, r4⟩ := listInsert_eq A (by rw [List.length_map]; omega) hp (x := hX h) (by rw [g1]; decide) (by omega)
  have xx : chg (lF 17) (lG 17 e) (fun _ => False) h h' := chg.tr2 (chg.mono x0 (fun _ _ _ _ q => q.elim) (fun _ _ _ _ q => q.elim) (fun _ _ q => q)) r3 (fun _ _ _ _ q => q) (fun _ _ _ _ q => q) (fun _ _ q => q)
  have ei : insW ks w = insAt ks (pos ks (ord w)) w := if_neg hn
  have em : (insW ks w).map (fun v => if v = w then hX h else wa v) = insAt (ks.map wa) (pos ks (ord w)) (hX h) := by
    have : ks.map (fun v => if v = w then hX h else wa v) = ks.map wa := List.map_congr_left (fun v hv => if_neg (fun z : v = w => hn (z ▸ hv)))
    rw [ei]
    unfold insAt
    rw [List.map_append, List.map_cons, List.map_take, List.map_drop, this, if_pos rfl]
  have lk := insW_len ks w
  have hxl := r3.1
  refine ⟨e', h', ?_, ⟨z1.ins hw, by omega, by rw [em]; exact r2, fun v hv => ?_, fun v1 v2 h1 h2 q => ?_, fun v1 v2 h1 h2 q => ?_, fun q => ?_, Nat.le_trans z8 xx.1⟩, xx, ⟨?_, ?_, ?_, ?_, ?_⟩, by omega⟩
  · unfold fX3_enter_b43 fX3_enter_b52 fX3_enter_b58
    rw [gd_t (k_16 c), in0, bd_t, r3_16_0 c, gs_t, gd_t (k_17 cg), r1, bd_t]
  · show WordP p v (if v = w then hX h else wa v) (if v = w then hX h + 1 else wb v) h' ∧ (if v = w then hX h else wa v) < hX h' ∧ (if v = w then hX h + 1 else wb v) < hX h'
    by_cases d : v = w
    · rw [if_pos d, if_pos d, d]
      refine ⟨⟨z8, by omega, (r3.2.2.2.2 _ (by omega)).1.trans g1, (r3.2.1 10 _ 0 (by omega) (fun q => absurd q.1 (by decide))).trans g2, (r3.2.1 10 _ 1 (by omega) (fun q => absurd q.1 (by decide))).trans g3, (r3.2.2.1 10 _ 2 (by omega) lG17).trans g4, (r3.2.2.2.2 _ (by omega)).1.trans g5, fun i hi => ?_⟩, by omega, by omega⟩
      rw [r3.2.2.2.1 9 _ 0 (by omega) (fun q => q), r3.2.2.2.1 9 _ 1 (by omega) (fun q => q), g6, g6]
      show (Int64.toUInt64 0).toNat.testBit i = p i w ∧ (Int64.toUInt64 0).toNat.testBit i = p (64 + i) w
      rw [pw, pw]
      have : ((0 : Int64).toUInt64.toNat).testBit i = false := by
        rw [show (0 : Int64).toUInt64.toNat = 0 from rfl, Nat.zero_testBit]
      exact ⟨this, this⟩
    · rw [if_neg d, if_neg d]
      have hv' : v ∈ ks := (insW_mem.mp hv).resolve_left d
      obtain ⟨W, b1, b2⟩ := z4 v hv'
      exact ⟨W.chg b1 b2 xx (fun _ q => absurd q.1 (by decide)) lG17 (fun q => q) (fun _ => rfl), Nat.lt_of_lt_of_le b1 xx.1, Nat.lt_of_lt_of_le b2 xx.1⟩
  · have m1 := insW_mem.mp h1
    have m2 := insW_mem.mp h2
    by_cases d1 : v1 = w
    · by_cases d2 : v2 = w
      · rw [d1, d2]
      · exfalso
        have := (z4 v2 (m2.resolve_left d2)).2.1
        have q : (if v1 = w then hX h else wa v1) = (if v2 = w then hX h else wa v2) := q
        rw [if_pos d1, if_neg d2] at q
        omega
    · by_cases d2 : v2 = w
      · exfalso
        have := (z4 v1 (m1.resolve_left d1)).2.1
        have q : (if v1 = w then hX h else wa v1) = (if v2 = w then hX h else wa v2) := q
        rw [if_neg d1, if_pos d2] at q
        omega
      · have q : (if v1 = w then hX h else wa v1) = (if v2 = w then hX h else wa v2) := q
        rw [if_neg d1, if_neg d2] at q
        exact z5 v1 v2 (m1.resolve_left d1) (m2.resolve_left d2) q
  · have m1 := insW_mem.mp h1
    have m2 := insW_mem.mp h2
    by_cases d1 : v1 = w
    · by_cases d2 : v2 = w
      · rw [d1, d2]
      · exfalso
        have := (z4 v2 (m2.resolve_left d2)).2.2
        have q : (if v1 = w then hX h + 1 else wb v1) = (if v2 = w then hX h + 1 else wb v2) := q
        rw [if_pos d1, if_neg d2] at q
        omega
    · by_cases d2 : v2 = w
      · exfalso
        have := (z4 v1 (m1.resolve_left d1)).2.2
        have q : (if v1 = w then hX h + 1 else wb v1) = (if v2 = w then hX h + 1 else wb v2) := q
        rw [if_neg d1, if_pos d2] at q
        omega
      · have q : (if v1 = w then hX h + 1 else wb v1) = (if v2 = w then hX h + 1 else wb v2) := q
        rw [if_neg d1, if_neg d2] at q
        exact z6 v1 v2 (m1.resolve_left d1) (m2.resolve_left d2) q
  · rcases r4.2.2.2.2 with z | z
    · rw [z] at q ⊢; exact z7 q
    · omega
  · have := r4.1; omega
  · rw [← kN]; exact r4.2.1
  · have := r4.2.2.1; rw [kN] at this; omega
  · have := r4.2.2.2.1; rw [kN, List.length_map] at this; exact this
  · rcases r4.2.2.2.2 with z | z
    · exact Or.inl z
    · exact Or.inr (by omega)
theorem enter_eq {p : Nat → Nat → Bool} {ks : List Nat} {e : Nat} {wa wb : Nat → Nat} {h : PH} (c : CSh h) (Y : IY p ks e wa wb h) {w t : Nat} (hw : vword w = true) (ht : t < 100) (hl : ks.length ≤ 4060) : ∃ ks' e' wa' wb' h', fX3_enter 16 (nI w) (nI t) h = some h' ∧ IY (pPut p t w) ks' e' wa' wb' h' ∧ yC e h h' ∧ YB h h' e e' ks.length ∧ ks'.length ≤ ks.length + 1 := by
  have s := Y.1.1
  have hm := Y.1.2
  have h4 := Y.2.1
  have zz := Y.2.2.2.2.2.2.2.1
  have pz : ∀ t' v, 100 ≤ t' → pPut p t w t' v = false := fun t' v h1 => by
    unfold pPut
    rw [zz t' v h1, decide_eq_false (fun z => by omega)]
    rfl
  have st : fX3_enter 16 (nI w) (nI t) h = (if w ∈ ks then fX3_enter_b61 16 (nI t) (nI (pos ks (ord w))) h else fX3_enter_b43 16 (nI w) (nI t) (nI (ord w)) (nI (pos ks (ord w))) h) := by
    unfold fX3_enter fX3_enter_b0
    rw [orderOf_eq (vw2 hw), bd_t, gd_t (k_16 c), countAhead_g c Y (ordb hw), bd_t, r3_16_0 c, gs_t, gd_t (k_17 c), Y_size c Y, bd_t]
    by_cases d : pos ks (ord w) < ks.length
    · have W := (Y.2.2.2.1 _ (mem_getD d)).1
      have hv := s.2 _ (mem_getD d)
      rw [if_neg (nI_ge d (by omega)), gs_t, gd_t (k_17 c), Y_get c Y d, bd_t, gs_t, gd_t W.2.2.1, W.2.2.2.1]
      by_cases q : ks.getD (pos ks (ord w)) 0 = w
      · have hm : w ∈ ks := (pos_has s).mp ⟨d, q⟩
        rw [if_pos (by rw [q]), if_pos hm]
      · have hm : ¬ w ∈ ks := fun z => q ((pos_has s).mpr z).2
        rw [if_neg (by rw [nI_eq (vw31 hv) (vw31 hw)]; exact q), if_neg hm]
    · have hm : ¬ w ∈ ks := fun z => d ((pos_has s).mpr z).1
      have := pos_le ks (ord w)
      rw [if_pos (nI_le (by omega) (by omega)), if_neg hm]
  rw [st]
  by_cases d : w ∈ ks
  · rw [if_pos d]
    obtain ⟨h', f1, f2, f3⟩ := enter_b61 c Y.Z d ht 0
    have bw := (Y.2.2.2.1 w d).1.2.1
    have x : yC e h h' := chg_L f3 bw
    refine ⟨ks, e, wa, wb, h', f1, f2.Y (fun v => ?_) pz, x, ⟨?_, ?_, ?_, Or.inl ?_, Or.inl rfl⟩, Nat.le_succ _⟩
    · by_cases dv : v = w
      · subst dv
        exact ⟨fun _ => ⟨t, ht, by unfold pPut; rw [decide_eq_true ⟨rfl, rfl⟩, Bool.true_or]⟩, fun _ => d⟩
      · rw [hm v]
        constructor
        · rintro ⟨t', q1, q2⟩; exact ⟨t', q1, by rw [pPut_ne dv]; exact q2⟩
        · rintro ⟨t', q1, q2⟩; exact ⟨t', q1, by rw [pPut_ne dv] at q2; exact q2⟩
    · rw [f3.2.2.2.2.2.1]; omega
    · rw [f3.2.2.2.2.1]; omega
    · rw [f3.2.2.2.2.1, f3.2.2.2.2.2.2]; omega
    · rw [f3.2.2.2.2.1]
  · rw [if_neg d]
    have pw : ∀ t', p t' w = false := fun t' => by
      by_cases h1 : t' < 100
      · cases q : p t' w with
        | false => rfl
        | true => exact absurd ((hm w).mpr ⟨t', h1, q⟩) d
      · exact zz t' w (by omega)
    obtain ⟨e', h1, n1, n2, n3, n4, n5⟩ := enter_new c Y.Z hw d hl pw (nI t) 0
    have c1 := cs_lG c Y.2.2.2.2.2.2.2.2 n3
    have hw1 : w ∈ insW ks w := insW_mem.mpr (Or.inl rfl)
    have lk : (insW ks w).length = ks.length + 1 := by
      rw [show insW ks w = insAt ks (pos ks (ord w)) w from if_neg d]
      exact insAt_len (pos_le _ _)
    have ep : pos (insW ks w) (ord w) = pos ks (ord w) := by
      have g : (insW ks w).getD (pos ks (ord w)) 0 = w := by
        rw [show insW ks w = insAt ks (pos ks (ord w)) w from if_neg d, insAt_getD (pos_le _ _), if_neg (Nat.lt_irrefl _), if_pos rfl]
      have := pos_at n2.1 (i := pos ks (ord w)) (by have := pos_le ks (ord w); omega)
      rw [g] at this
      exact this
    obtain ⟨h', f1, f2, f3⟩ := enter_b61 c1 n2 hw1 ht 0
    have f3 : onlyL (hX h + 1) h1 h' := by
      have : onlyL (if w = w then hX h + 1 else wb w) h1 h' := f3
      rw [if_pos rfl] at this
      exact this
    rw [ep] at f1
    have x : yC e h h' := chg.tr2 (chg.mono n3 (fun _ _ _ _ q => q) (fun _ _ _ _ q => q) (fun _ _ q => q.elim)) (chg_L (F := fun _ _ _ => False) (G := fun _ _ _ => False) (L := fun a => a = hX h + 1) f3 rfl) (fun _ _ _ _ q => q.elim) (fun _ _ _ _ q => q.elim) (fun a ha q => by omega)
    refine ⟨insW ks w, e', _, _, h', n1.trans f1, f2.Y (fun v => ?_) pz, x, ⟨?_, ?_, ?_, ?_, n4.2.2.2.2⟩, by omega⟩
    · rw [insW_mem]
      by_cases dv : v = w
      · exact ⟨fun _ => ⟨t, ht, by unfold pPut; rw [decide_eq_true ⟨rfl, dv⟩, Bool.true_or]⟩, fun _ => Or.inl dv⟩
      · rw [hm v]
        constructor
        · rintro (q | ⟨t', q1, q2⟩)
          · exact absurd q dv
          · exact ⟨t', q1, by rw [pPut_ne dv]; exact q2⟩
        · rintro ⟨t', q1, q2⟩; exact Or.inr ⟨t', q1, by rw [pPut_ne dv] at q2; exact q2⟩
    · rw [f3.2.2.2.2.2.1]; exact n4.1
    · rw [f3.2.2.2.2.1]; exact n4.2.1
    · rw [f3.2.2.2.2.1, f3.2.2.2.2.2.2]; exact n4.2.2.1
    · rw [f3.2.2.2.2.1]; exact n4.2.2.2.1
