/-! KEPT QUERIES -/
/-- two heaps agree on block q -/
def sameQ (q : Nat) (h h' : PH) : Prop := (∀ a k, 60 ≤ a → a ≤ 65 → k < 400 → hI h' 20 a (400 * q + k) = hI h 20 a (400 * q + k)) ∧ (∀ k, k < 20 → hI h' 20 66 (20 * q + k) = hI h 20 66 (20 * q + k)) ∧ hI h' 20 67 q = hI h 20 67 q ∧ hI h' 20 69 q = hI h 20 69 q
theorem LfM3.ofq {h h' : PH} {q lo : Nat} {l : Nat × List Nat × Nat} (L : LfM3 h q lo l) (s : sameQ q h h') (hl : lo < 400) : LfM3 h' q lo l := by
  obtain ⟨⟨l1, l2, l3, l4⟩, l5⟩ := L
  refine ⟨⟨(s.1 _ _ (by decide) (by decide) hl).trans l1, fun k => (s.1 _ _ (by decide) (by decide) hl).trans (l2 k), fun k => ⟨(s.1 _ _ (by decide) (by decide) hl).trans (l3 k).1, (s.1 _ _ (by decide) (by decide) hl).trans (l3 k).2⟩, fun k => ?_⟩, (s.1 _ _ (by decide) (by decide) hl).trans l5⟩
  obtain ⟨fr, f1, f2, f3, f4⟩ := l4 k
  refine ⟨fr, (s.1 _ _ (by decide) (by decide) hl).trans f1, (s.1 _ _ (by decide) (by decide) hl).trans f2, f3, fun i hi => ?_⟩
  have := s.2.1 (fr + i) (by omega)
  rw [← Nat.add_assoc] at this
  exact this.trans (f4 i hi)
theorem lnk_ofq {α : Type} {S : α → Nat} {nx nx' : Nat → Int32} : ∀ {cs : List α} {lo : Nat} {fr : Int32}, (∀ c ∈ cs, 0 < S c) → (∀ i, i < lo + (cs.map S).sum → nx' i = nx i) → lnk S nx cs lo fr → lnk S nx' cs lo fr
  | [], _, _, _, _, h => h
  | c :: cs, lo, fr, hs, e, h => by
    have sc := hs c List.mem_cons_self
    rw [sum_cons] at e
    refine ⟨h.1, ?_⟩
    rw [e _ (by omega)]
    exact lnk_ofq (fun d hd => hs d (List.mem_cons_of_mem _ hd)) (fun i hi => e i (by omega)) h.2
theorem QM.ofq {h h' : PH} {q : Nat} (s : sameQ q h h') : ∀ (n : Nat) (t : QT n) (lo : Nat), lo + sz n t ≤ 400 → QM h q n t lo → QM h' q n t lo
  | 0, _, lo, hl, L => LfM3.ofq L s (by have : lo + 1 ≤ 400 := hl; omega)
  | _ + 1, .inl l, lo, hl, L => LfM3.ofq (show LfM3 h q lo l from L) s (by have : lo + 1 ≤ 400 := hl; omega)
  | n + 1, .inr p, lo, hl, L => by
    obtain ⟨h1, h2, h3⟩ := L
    have hl : lo + ((p.2.map (sz n)).sum + 1) ≤ 400 := hl
    refine ⟨atL.imp (fun c _ l _ h2 r => QM.ofq s n c l (by omega) r) h1, (s.1 _ _ (by decide) (by decide) (by omega)).trans h2, ?_⟩
    show lnk (sz n) (fun i => hI h' 20 65 (400 * q + i)) p.2 lo (hI h' 20 64 (400 * q + (lo + (p.2.map (sz n)).sum)))
    rw [s.1 64 _ (by decide) (by decide) (by omega)]
    exact lnk_ofq (fun c _ => sz_pos n c) (fun i hi => s.1 65 i (by decide) (by decide) (by omega)) h3
theorem BM.ofq {h h' : PH} {q n : Nat} {Q : QT n} (B : BM h q n Q) (s : sameQ q h h') : BM h' q n Q := ⟨s.2.2.1.trans B.1, s.2.2.2.trans B.2.1, B.2.2.1, QM.ofq s n Q 0 (by have := B.2.2.1; omega) B.2.2.2.1, B.2.2.2.2⟩
/-- the kept queries, class and reference; D: the class's cells of queries -/
def KP (D : Nat → Prop) (kq : Nat → Option (QT 27)) (h : PH) : Prop := (∀ x, D x → 89 ≤ x ∧ x < hX h) ∧ ∀ p, p < 6 → match kq p with
  | none => hR h 25 22 p = none ∧ hI h 20 69 p = -1
  | some Q => (∃ a, hR h 25 22 p = some a ∧ QC h D 27 Q a) ∧ BM h p 27 Q
/-- what was found of them -/
def KF (tx : TX) (kq : Nat → Option (QT 27)) (h : PH) : Prop := ∀ p, p < 6 → ∀ Q, kq p = some Q → BS (fun t => satT tx 27 Q t) h (24 + p)
theorem KP.n {D : Nat → Prop} {kq : Nat → Option (QT 27)} {h : PH} (K : KP D kq h) {p : Nat} (hp : p < 6) (e : kq p = none) : hR h 25 22 p = none ∧ hI h 20 69 p = -1 := by
  have := K.2 p hp
  rw [e] at this
  exact this
theorem KP.s {D : Nat → Prop} {kq : Nat → Option (QT 27)} {h : PH} (K : KP D kq h) {p : Nat} (hp : p < 6) {Q : QT 27} (e : kq p = some Q) : (∃ a, hR h 25 22 p = some a ∧ QC h D 27 Q a) ∧ BM h p 27 Q := by
  have := K.2 p hp
  rw [e] at this
  exact this
theorem KP.of {D : Nat → Prop} {kq : Nat → Option (QT 27)} {h h' : PH} (K : KP D kq h) (hx : hX h ≤ hX h') (sd : ∀ x, D x → same h h' x) (sr : ∀ p, p < 6 → hR h' 25 22 p = hR h 25 22 p) (sq : ∀ p, p < 6 → sameQ p h h') : KP D kq h' := ⟨fun x dx => ⟨(K.1 x dx).1, Nat.lt_of_lt_of_le (K.1 x dx).2 hx⟩, fun p hp => by
  cases e : kq p with
  | none => exact ⟨(sr p hp).trans (K.n hp e).1, (sq p hp).2.2.2.trans (K.n hp e).2⟩
  | some Q =>
    obtain ⟨⟨a, h1, h2⟩, h3⟩ := K.s hp e
    exact ⟨⟨a, (sr p hp).trans h1, QC.mono (fun x dx => ⟨dx, sd x dx⟩) 27 Q a h2⟩, h3.ofq (sq p hp)⟩⟩
theorem KP.chg {F G : Nat → Nat → Nat → Prop} {L : Nat → Prop} {D : Nat → Prop} {kq : Nat → Option (QT 27)} {h h' : PH} (K : KP D kq h) (b : 89 ≤ hX h) (x : chg F G L h h') (fd : ∀ c y k, D y → ¬ F c y k) (gd' : ∀ c y k, D y → ¬ G c y k) (g25 : ∀ p, p < 6 → ¬ G 25 22 p) (f60 : ∀ a k, 60 ≤ a → a ≤ 65 → k < 2400 → ¬ F 20 a k) (f66 : ∀ k, k < 120 → ¬ F 20 66 k) (f67 : ∀ p, p < 6 → ¬ F 20 67 p ∧ ¬ F 20 69 p) : KP D kq h' :=
  K.of x.1 (fun y dy => ⟨fun c k => x.2.1 c y k (K.1 y dy).2 (fd c y k dy), fun c k => x.2.2.1 c y k (K.1 y dy).2 (gd' c y k dy), (x.2.2.2.2 y (K.1 y dy).2).1, (x.2.2.2.2 y (K.1 y dy).2).2⟩) (fun p hp => x.2.2.1 25 22 p (by omega) (g25 p hp)) (fun p hp => ⟨fun a k h1 h2 h3 => x.2.1 20 a _ (by omega) (f60 a _ h1 h2 (by omega)), fun k hk => x.2.1 20 66 _ (by omega) (f66 _ (by omega)), x.2.1 20 67 p (by omega) (f67 p hp).1, x.2.1 20 69 p (by omega) (f67 p hp).2⟩)
theorem scr60 : ∀ a, 60 ≤ a → a ≤ 65 → ∀ k, k < 2400 → isScr 20 a k = false := by
  intro a h1 h2 k hk
  have : a = 60 ∨ a = 61 ∨ a = 62 ∨ a = 63 ∨ a = 64 ∨ a = 65 := by omega
  have hk' : decide (2400 ≤ k) = false := decide_eq_false (by omega)
  rcases this with rfl | rfl | rfl | rfl | rfl | rfl <;> simp [isScr, hk']
theorem scr66 {k : Nat} (hk : k < 120) : isScr 20 66 k = false := by
  have hk' : decide (120 ≤ k) = false := decide_eq_false (by omega)
  simp [isScr, hk']
theorem scr67 {p : Nat} (hp : p < 6) : isScr 20 67 p = false ∧ isScr 20 69 p = false := by
  have hk' : decide (6 ≤ p) = false := decide_eq_false (by omega)
  constructor <;> simp [isScr, hk']
theorem KP.scx {D : Nat → Prop} {kq : Nat → Option (QT 27)} {h h' : PH} (K : KP D kq h) (b : 89 ≤ hX h) (s : scx h h') : KP D kq h' := K.chg b s (fun c y k dy z => by rw [isScr_89 (K.1 y dy).1] at z; cases z) (fun _ _ _ _ z => z) (fun _ _ z => z) (fun a k h1 h2 h3 z => by rw [scr60 a h1 h2 k h3] at z; cases z) (fun k hk z => by rw [scr66 hk] at z; cases z) (fun p hp => ⟨fun z => (by rw [(scr67 hp).1] at z; cases z), fun z => (by rw [(scr67 hp).2] at z; cases z)⟩)
theorem KF.chg {F G : Nat → Nat → Nat → Prop} {L : Nat → Prop} {tx : TX} {kq : Nat → Option (QT 27)} {h h' : PH} (K : KF tx kq h) (b : 89 ≤ hX h) (x : chg F G L h h') (l : ∀ p, p < 6 → ¬ L (24 + p)) : KF tx kq h' := fun p hp Q e i hi => by
  rw [x.2.2.2.1 9 (24 + p) 0 (by omega) (l p hp), x.2.2.2.1 9 (24 + p) 1 (by omega) (l p hp)]
  exact K p hp Q e i hi
theorem KF.scx {tx : TX} {kq : Nat → Option (QT 27)} {h h' : PH} (K : KF tx kq h) (b : 89 ≤ hX h) (s : scx h h') : KF tx kq h' := K.chg b s (fun p hp z => by omega)
theorem r27 {h : PH} (c : CSh h) : ∀ p, p < 6 → hR h 27 23 p = some (24 + p) := by
  intro p hp
  have : p = 0 ∨ p = 1 ∨ p = 2 ∨ p = 3 ∨ p = 4 ∨ p = 5 := by omega
  rcases this with rfl | rfl | rfl | rfl | rfl | rfl
  · exact r27_23_0 c
  · exact r27_23_1 c
  · exact r27_23_2 c
  · exact r27_23_3 c
  · exact r27_23_4 c
  · exact r27_23_5 c
theorem k24 {h : PH} (c : CSh h) : ∀ p, p < 6 → hK h (24 + p) = 9 := by
  intro p hp
  have : p = 0 ∨ p = 1 ∨ p = 2 ∨ p = 3 ∨ p = 4 ∨ p = 5 := by omega
  rcases this with rfl | rfl | rfl | rfl | rfl | rfl
  · exact k_24 c
  · exact k_25 c
  · exact k_26 c
  · exact k_27 c
  · exact k_28 c
  · exact k_29 c
theorem i6 {p : Nat} (h : p < 6) : ¬ (6 : Int32) ≤ nI p := by rw [show (6 : Int32) = nI 6 from rfl, nI_leI (by decide) (by omega)]; omega
theorem foundRight {h : PH} (c : CSh h) {tx : TX} (o : okX tx) (T : CT tx h) {D : Nat → Prop} {kq : Nat → Option (QT 27)} (K : KP D kq h) (Y : KF tx kq h) {p : Nat} (hp : p < 6) {Q : QT 27} (e : kq p = some Q) : fX11_isFoundWrongly 10 (nI p) h = some 0 := by
  obtain ⟨⟨a, h1, h2⟩, h3⟩ := K.s hp e
  have B := Y p hp Q e
  have cl : Int32.toNatClampNeg (nI p) = p := nI_clamp (by omega)
  have r1 : hR h 27 23 (Int32.toNatClampNeg (nI p)) = some (24 + p) := by rw [cl]; exact r27 c p hp
  have r2 : hR h 25 22 (Int32.toNatClampNeg (nI p)) = some a := by rw [cl]; exact h1
  unfold fX11_isFoundWrongly fX11_isFoundWrongly_l2
  refine wh_out (fun j => nI j) 100 rfl (fun j hj => ?_) ?_
  · show fX11_isFoundWrongly_c2 10 (nI p) (nI j) h = _
    unfold fX11_isFoundWrongly_c2
    rw [if_neg (i100 hj), gd_t (k_10 c), r11_10_6 c, gs_t, gd_t ⟨k_23 c, by rw [n_23 c]; exact inbI hp (by decide)⟩, r1, gs_t, gd_t (k24 c p hp), X9_has_eq (k24 c p hp) B hj, bd_t, r11_10_5 c, gs_t, gd_t ⟨k_22 c, by rw [n_22 c]; exact inbI hp (by decide)⟩, r2, isSat_eq c o T hj h2 h3.2.2.2.2 (by decide), bd_t, if_pos rfl, nI_1]
  · show fX11_isFoundWrongly_c2 10 (nI p) (nI 100) h = _
    unfold fX11_isFoundWrongly_c2
    rw [if_pos (by decide)]
    rfl
theorem chg.aI {F G : Nat → Nat → Nat → Prop} {L : Nat → Prop} {h h1 : PH} (x : chg F G L h h1) {c a k : Nat} (v : Int32) (e : a < hX h → F c a k) : chg F G L h (sI h1 c a k v) := ⟨x.1, fun c' a' k' ha n => by
  rw [hI_sI, if_neg]
  · exact x.2.1 c' a' k' ha n
  · rintro ⟨rfl, rfl, rfl⟩
    exact n (e ha), x.2.2.1, x.2.2.2.1, x.2.2.2.2⟩
theorem chg.aR {F G : Nat → Nat → Nat → Prop} {L : Nat → Prop} {h h1 : PH} (x : chg F G L h h1) {c a k : Nat} (v : Option Nat) (e : a < hX h → G c a k) : chg F G L h (sR h1 c a k v) := ⟨x.1, x.2.1, fun c' a' k' ha n => by
  rw [hR_sR, if_neg]
  · exact x.2.2.1 c' a' k' ha n
  · rintro ⟨rfl, rfl, rfl⟩
    exact n (e ha), x.2.2.2.1, x.2.2.2.2⟩
theorem chg.aRa {F G : Nat → Nat → Nat → Prop} {L : Nat → Prop} {h h1 : PH} (x : chg F G L h h1) {c a : Nat} (v : Nat → Option Nat) (e : ∀ k, a < hX h → G c a k) : chg F G L h (sRa h1 c a v) := ⟨x.1, x.2.1, fun c' a' k' ha n => by
  rw [hR_sRa]
  by_cases z : c' = c ∧ a' = a
  · obtain ⟨rfl, rfl⟩ := z
    exact absurd (e k' ha) n
  · rw [if_neg z]
    exact x.2.2.1 c' a' k' ha n, x.2.2.2.1, x.2.2.2.2⟩
theorem chg.aN {F G : Nat → Nat → Nat → Prop} {L : Nat → Prop} {h h1 : PH} (x : chg F G L h h1) (c n : Nat) : chg F G L h (hnew h1 c n) := x.tr (chg_new h1 c n)
theorem ls_errors {h : PH} {P : PH → Prop} {tx : TX} {ks : List Nat} {e : Nat} {wa wb : Nat → Nat} {D : Nat → Prop} {kq : Nat → Option (QT 27)} (c : CSh h) (m : MSh h) (o : okX tx) (T : CB tx h) (X : IXB tx ks e wa wb h) (K : KP D kq h) (Y : KF tx kq h) (a1 a2 a3 a4 a5 : Int32) (hP : ∀ h', scx h h' → P h') : LS_54 10 45 87 88 a1 a2 a3 a4 a5 h P := by
  have b := T.1
  have no : ∀ {q : Prop}, hX h < hX h → q := fun z => absurd z (Nat.lt_irrefl _)
  have s1 : scx h (sR (sI (hnew h 14 3) 14 (hX h) 0 0) 14 (hX h) 1 (some 3)) := (((chg.rf _ _ _ h).aN 14 3).aI 0 no).aR (some 3) no
  have k1 : hK (sR (sI (hnew h 14 3) 14 (hX h) 0 0) 14 (hX h) 1 (some 3)) (hX h) = 14 := by rw [hK_sR, hK_sI, hK_new, if_pos rfl]
  have k2 : hI (sR (sI (hnew h 14 3) 14 (hX h) 0 0) 14 (hX h) 1 (some 3)) 14 (hX h) 2 = 0 := by rw [hI_sR, hI_sI, if_neg (by simp), hI_new, if_pos rfl]
  have f0 : fJx4a65c_init_da8c8 (hX h) (hnew h 14 3) = some (sR (sI (hnew h 14 3) 14 (hX h) 0 0) 14 (hX h) 1 (some 3)) := by
    have hk : hK (hnew h 14 3) (hX h) = 14 := by rw [hK_new, if_pos rfl]
    unfold fJx4a65c_init_da8c8 fJxc12de_init_da8c8 fJxa1e45_init_da8c8
    rw [bd_t, gd_t hk, lt_t, bd_t, gd_t (show hK (sI (hnew h 14 3) 14 (hX h) 0 0) (hX h) = 14 by rw [hK_sI]; exact hk), lt_t]
  have v0 : hV (sR (sI (hnew h 14 3) 14 (hX h) 0 0) 14 (hX h) 1 (some 3)) = hV h + 3 := by rw [hV_sR, hV_sI, hV_new]
  have x0 : hX (sR (sI (hnew h 14 3) 14 (hX h) 0 0) 14 (hX h) 1 (some 3)) = hX h + 1 := by rw [hX_sR, hX_sI, hX_new]
  generalize sR (sI (hnew h 14 3) 14 (hX h) 0 0) 14 (hX h) 1 (some 3) = g at s1 k1 k2 f0 v0 x0
  have cg := c.scx b s1
  have mg := m.scx b s1
  have Tg := T.scx s1
  have Xg := X.scx b s1
  have Kg := K.scx b s1
  have Yg := Y.scx b s1
  have st := s1.tr (scr_thr g 0).x
  refine ⟨(0, g), ?_, k_10 c, ?_, ?_, (0, sI g 12 45 0 0), k_45 mg, ?_, rfl, hP _ ?_⟩
  · unfold fX11_errors fX11_errors_b0 fX11_errors_b11 fX3_countWrongWords fX3_countWrongWords_b0 fX3_countWrongWords_b3
    rw [gd_t (k_10 c), r11_10_3 c, gs_t, gd_t (k_16 c), r11_10_2 c, f0, bd_t, wrong_no cg o Tg.CT Xg.1 k1 k2, bd_t]
    show fX11_errors_l14 10 0 0 g = _
    unfold fX11_errors_l14
    refine wh_out (fun j => ((0 : Int32), nI j)) 6 rfl (fun j hj => ?_) ?_
    · show fX11_errors_c14 10 0 (nI j) g = _
      have cl : Int32.toNatClampNeg (nI j) = j := nI_clamp (by omega)
      unfold fX11_errors_c14 fX11_errors_b40
      rw [if_neg (i6 hj), gd_t (k_10 cg), r11_10_5 cg, gs_t, gd_t ⟨k_22 cg, by rw [n_22 cg]; exact inbI hj (by decide)⟩, nI_1]
      cases q : kq j with
      | none => rw [cl, (Kg.n hj q).1, mq_nt]
      | some Q =>
        obtain ⟨⟨a, q1, q2⟩, q3⟩ := Kg.s hj q
        rw [cl, q1, mq_st, foundRight cg o Tg.CT Kg Yg hj q, bd_t, if_pos rfl]
    · show fX11_errors_c14 10 0 (nI 6) g = _
      unfold fX11_errors_c14
      rw [if_pos (by decide), mr_t]
  · show hX g - hX h ≤ 1150
    omega
  · show hV g - hV h ≤ 14000
    omega
  · unfold fX12_errors
    rw [gd_t (k_45 mg), lt_t]
  · exact st
