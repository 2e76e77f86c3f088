/-! THE CLASS CHANGES a text -/
theorem CB.A {tx : TX} {h : PH} (o : okX tx) (B : CB tx h) {t : Nat} (ht : t < 100) : TxA h (hR h 26 15 t) (tx t) := by
  cases e : tx t with
  | none => exact B.CT.n ht e
  | some ws =>
    obtain ⟨a, b, h1, h2, h3, h4, h5, h6⟩ := B.s ht e
    exact ⟨(o t ws e).2, a, b, h1, h2, h3, h4, h5, h6⟩
theorem EVC.chg {F G : Nat → Nat → Nat → Prop} {L : Nat → Prop} {E : EVT} {h h' : PH} (V : EVC E h) (b : 89 ≤ hX h) (x : chg F G L h h') (f : ∀ c a k, isEC c a k = true → ¬ F c a k) : EVC E h' := by
  have g : ∀ c a k, isEC c a k = true → hI h' c a k = hI h c a k := fun c a k e => x.2.1 c a k (by have := ec_lt e; omega) (f c a k e)
  refine ⟨V.1, V.2.1, (g 1 30 3 rfl).trans V.2.2.1, (g 1 30 4 rfl).trans V.2.2.2.1, fun i hi => ?_⟩
  rw [g 20 31 _ rfl, g 20 32 _ rfl, g 20 33 _ rfl]
  exact V.2.2.2.2 i hi
theorem PSC.chg {F G : Nat → Nat → Nat → Prop} {L : Nat → Prop} {R : PST} {h h' : PH} (V : PSC R h) (b : 89 ≤ hX h) (x : chg F G L h h') (f5 : ¬ F 5 19 2 ∧ ¬ F 5 19 3) (f20 : ∀ k, ¬ F 20 20 k) (g21 : ∀ k, ¬ G 26 21 k) (f1 : ∀ a, 89 ≤ a → ¬ F 8 a 1) (g1 : ∀ a, 89 ≤ a → ¬ G 8 a 0) (f2 : ∀ b k, 89 ≤ b → ¬ F 20 b k) : PSC R h' := by
  refine ⟨V.1, V.2.1, (x.2.1 5 19 2 (by omega) f5.1).trans V.2.2.1, (x.2.1 5 19 3 (by omega) f5.2).trans V.2.2.2.1, fun i hi => ?_⟩
  rw [x.2.1 20 20 _ (by omega) (f20 _), x.2.2.1 26 21 _ (by omega) (g21 _)]
  have := V.2.2.2.2 i hi
  exact ⟨this.1, this.2.1, this.2.2.chg x f1 g1 f2⟩
theorem IXB.ge {tx : TX} {ks : List Nat} {e : Nat} {wa wb : Nat → Nat} {h : PH} (X : IXB tx ks e wa wb h) {w : Nat} (hw : w ∈ ks) : 89 ≤ wa w ∧ 89 ≤ wb w := ⟨(ix_word X.1 hw).1, (ix_word X.1 hw).2.1⟩
def FS (_ _ _ : Nat) : Prop := False
def GS (c a _k : Nat) : Prop := c = 26 ∧ a = 15
def FW (c a k : Nat) : Prop := lF 17 c a k ∨ isEC c a k = true ∨ FP c a k
def GW (e c a k : Nat) : Prop := lG 17 e c a k ∨ (c = 26 ∧ (a = 15 ∨ a = 21))
def LW (a : Nat) : Prop := 89 ≤ a ∨ LXc a
theorem lF_ec {c a k : Nat} (e : isEC c a k = true) : ¬ lF 17 c a k := fun z => by have := ec_lt e; have := z.2.1; omega
theorem exchange_eq {tx : TX} {ks : List Nat} {e : Nat} {wa wb : Nat → Nat} {D : Nat → Prop} {kq : Nat → Option (QT 27)} {E : EVT} {R : PST} {h : PH} (c : CSh h) (o : okX tx) (B : CB tx h) (X : IXB tx ks e wa wb h) (K : KP D kq h) (Y : KF tx kq h) (V : EVC E h) (W : PSC R h) (nd : ¬ D e) {t : Nat} (ht : t < 100) {y : Option Nat} {now : Option (List Nat)} (N : TxA h y now) : ∃ ks' e' wa' wb' h', fX11_exchange 10 (nI t) y h = some h' ∧ CSh h' ∧ okX (updX tx t now) ∧ CB (updX tx t now) h' ∧ IXB (updX tx t now) ks' e' wa' wb' h' ∧ KP D kq h' ∧ KF (updX tx t now) kq h' ∧ EVC (evF (kb tx kq t) (kb (updX tx t now) kq t) (nI t) E 6) h' ∧ PSC R h' ∧ ¬ D e' ∧ chg FW (GW e) LW h h' ∧ hX h' ≤ hX h + 120 ∧ hV h' ≤ hV h + 8500 := by
  have b := B.1
  have on : okO now := fun ws q => by rw [q] at N; exact N.s.1
  have o' := o.updX ht on
  obtain ⟨ks', e', wa', wb', h1, f1, f2, f3, f4, f5, f6⟩ := follow_eq c o b X ht (B.A o ht) N
  have b1 : 89 ≤ hX h1 := Nat.le_trans b f3.1
  have c1 := cs_lG c b f3
  have B1 : CB tx h1 := B.chg f3 (fun k z => z.elim (fun q => absurd q.1 (by decide)) (fun q => absurd q.1 (by decide))) (fun _ _ => lG_8) (fun _ _ => lF_8) (fun _ _ _ => lF_20)
  have K1 : KP D kq h1 := K.chg b f3 (fun c y k dy z => by have := (K.1 y dy).1; have := z.2.1; omega) (fun c y k dy z => by
    have := (K.1 y dy).1
    rcases z with z | z
    · have := z.2.1; omega
    · exact nd (z.2 ▸ dy)) (fun p _ z => z.elim (fun q => absurd q.1 (by decide)) (fun q => absurd q.1 (by decide))) (fun _ _ _ _ _ => lF_20) (fun _ _ => lF_20) (fun _ _ => ⟨lF_20, lF_20⟩)
  have Y1 : KF tx kq h1 := Y.chg b f3 (fun p hp z => by have z : 89 ≤ 24 + p := z; omega)
  have V1 : EVC E h1 := V.chg b f3 (fun _ _ _ q => lF_ec q)
  have W1 : PSC R h1 := W.chg b f3 ⟨fun z => absurd z.1 (by decide), fun z => absurd z.1 (by decide)⟩ (fun _ => lF_20) (fun k z => z.elim (fun q => absurd q.1 (by decide)) (fun q => absurd q.1 (by decide))) (fun _ _ => lF_8) (fun _ _ => lG_8) (fun _ _ _ => lF_20)
  have N1 := N.y f3
  have x2 : chg FS GS lL h1 (sR h1 26 15 t y) := chg_sR _ _ (fun _ => ⟨rfl, rfl⟩)
  have c2 : CSh (sR h1 26 15 t y) := c1.chg b1 x2 (fun q hq z => sCR_26 q hq z.1)
  have N2 : TxA (sR h1 26 15 t y) y now := N1.chg x2 (fun _ _ z => z) (fun _ _ z => absurd z.1 (by decide)) (fun _ _ _ z => z)
  have B2 : CB (updX tx t now) (sR h1 26 15 t y) := by
    refine ⟨b1, fun i hi => ?_⟩
    by_cases d : i = t
    · subst d
      rw [updX_at]
      have r : hR (sR h1 26 15 i y) 26 15 i = y := by rw [hR_sR, if_pos ⟨rfl, rfl, rfl⟩]
      cases now with
      | none => exact r.trans N2.n
      | some ws =>
        obtain ⟨q, a, b', q1, q2, q3, q4, q5, q6⟩ := N2.s
        exact ⟨a, b', r.trans q1, q2, q3, q4, q5, q6⟩
    · rw [updX_ne tx now d]
      have r : hR (sR h1 26 15 t y) 26 15 i = hR h1 26 15 i := by rw [hR_sR, if_neg (fun z => d z.2.2)]
      cases q : tx i with
      | none => exact r.trans (B1.CT.n hi q)
      | some ws =>
        obtain ⟨a, b', q1, q2, q3, q4, q5, q6⟩ := B1.s hi q
        exact ⟨a, b', r.trans q1, q2, q3, q4, q5, q6.chg q4 q5 x2 (fun z => z) (fun z => absurd z.1 (by decide)) (fun _ z => z)⟩
  have K2 : KP D kq (sR h1 26 15 t y) := K1.chg b1 x2 (fun _ _ _ _ z => z) (fun c y k dy z => by have := (K1.1 y dy).1; have := z.2; omega) (fun p _ z => absurd z.1 (by decide)) (fun _ _ _ _ _ z => z) (fun _ _ z => z) (fun _ _ => ⟨fun z => z, fun z => z⟩)
  have V2 : EVC E (sR h1 26 15 t y) := V1.I (hI_sR _ _ _ _ _)
  have W2 : PSC R (sR h1 26 15 t y) := W1.chg b1 x2 ⟨fun z => z, fun z => z⟩ (fun _ z => z) (fun _ z => absurd z.2 (by decide)) (fun _ _ z => z) (fun _ _ z => absurd z.1 (by decide)) (fun _ _ _ z => z)
  have X2 : IXB (updX tx t now) ks' e' wa' wb' (sR h1 26 15 t y) := f2.chg b1 x2 (fun z => z) (fun _ _ _ z => z) (fun z => absurd z.1 (by decide)) (fun _ z => absurd z.1 (by decide)) (fun _ _ z => absurd z.1 (by decide)) (fun _ _ z => z)
  obtain ⟨h', g1, g2, g3, g4, g5, g6⟩ := exch_l ht o' (fun i hi => updX_ne tx now hi) c2 B2 K2 6 0 _ rfl (chg.rf _ _ _ _) rfl rfl V2 (fun p hp Q q => by
    rw [if_neg (Nat.not_lt_zero _)]
    exact (Y1 p hp Q q).L (fun k => by rw [hL_sR]))
  have wbLX : ∀ w, w ∈ ks' → ¬ LXc (wb' w) := fun w hw z => by have := (f2.ge hw).2; have := z.2; omega
  have xa : chg FW (GW e) LW h h1 := f3.mono (fun _ _ _ _ z => Or.inl z) (fun _ _ _ _ z => Or.inl z) (fun _ _ z => Or.inl z)
  have xb : chg FW (GW e) LW h1 (sR h1 26 15 t y) := x2.mono (fun _ _ _ _ z => z.elim) (fun _ _ _ _ z => Or.inr ⟨z.1, Or.inl z.2⟩) (fun _ _ z => z.elim)
  have xc : chg FW (GW e) LW (sR h1 26 15 t y) h' := g4.mono (fun _ _ _ _ z => Or.inr (Or.inl z)) (fun _ _ _ _ z => z.elim) (fun _ _ z => Or.inr z)
  refine ⟨ks', e', wa', wb', h', ?_, c2.X b1 g4, o', B2.X g4, X2.chg b1 g4 (show ¬ isEC 14 17 2 = true by decide) (fun a k ha => FX_89 (by omega)) (fun z => z) (fun _ z => z) (fun _ _ z => z) wbLX, K2.X b1 g4, g3, g2, W2.chg b1 g4 ⟨show ¬ isEC 5 19 2 = true by decide, show ¬ isEC 5 19 3 = true by decide⟩ (fun k z => by have := ec_lt z; omega) (fun _ z => z) (fun a ha => FX_89 (by omega)) (fun _ _ z => z) (fun b k hb => FX_89 (by omega)), ?_, (xa.tr xb).tr xc, ?_, ?_⟩
  · have ct : Int32.toNatClampNeg (nI t) = t := nI_clamp (by omega)
    unfold fX11_exchange fX11_exchange_b0 fX11_exchange_b15
    rw [gd_t (k_10 c), r11_10_2 c, gs_t, gd_t ⟨k_15 c, by rw [n_15 c]; exact inbI ht (by decide)⟩, r11_10_3 c, gs_t, gd_t (k_16 c)]
    simp only [ct]
    rw [f1, bd_t, gd_t (k_10 c1), r11_10_2 c1, gs_t, gd_t ⟨k_15 c1, by rw [n_15 c1]; exact inbI ht (by decide)⟩, gd_t N1.q, lt_t]
    exact g1
  · rcases f6 with z | z
    · rw [z]; exact nd
    · intro dz
      have := (K.1 e' dz).2
      omega
  · rw [g5, hX_sR]; exact f4
  · rw [g6, hV_sR]; exact f5
theorem change_eq {tx : TX} {ks : List Nat} {e : Nat} {wa wb : Nat → Nat} {D : Nat → Prop} {kq : Nat → Option (QT 27)} {E : EVT} {R : PST} {h : PH} (c : CSh h) (o : okX tx) (B : CB tx h) (X : IXB tx ks e wa wb h) (K : KP D kq h) (Y : KF tx kq h) (V : EVC E h) (W : PSC R h) (nd : ¬ D e) {t : Nat} (ht : t < 100) {y : Option Nat} {now : Option (List Nat)} (N : TxA h y now) : ∃ ks' e' wa' wb' h', fX11_change 10 (nI t) y h = some h' ∧ CSh h' ∧ okX (updX tx t now) ∧ CB (updX tx t now) h' ∧ IXB (updX tx t now) ks' e' wa' wb' h' ∧ KP D kq h' ∧ KF (updX tx t now) kq h' ∧ EVC (evF (kb tx kq t) (kb (updX tx t now) kq t) (nI t) E 6) h' ∧ PSC (pushR R t (tx t)) h' ∧ ¬ D e' ∧ chg FW (GW e) LW h h' ∧ hX h' ≤ hX h + 120 ∧ hV h' ≤ hV h + 8500 := by
  have b := B.1
  obtain ⟨h1, f1, f2, f3, f4, f5⟩ := remember_c c b W ht (B.A o ht)
  have b1 : 89 ≤ hX h1 := Nat.le_trans b f3.1
  have c1 := c.P b f3
  have p8 : ∀ a k, ¬ FP 8 a k := fun a k z => by rcases z with z | z <;> omega
  have p20 : ∀ a k, 89 ≤ a → ¬ FP 20 a k := fun a k ha z => by rcases z with z | z <;> omega
  have p20b : ∀ a k, 60 ≤ a → ¬ FP 20 a k := fun a k ha z => by rcases z with z | z <;> omega
  have g26 : ∀ a k, a ≠ 21 → ¬ GP 26 a k := fun a k ha z => ha z.2
  have B1 : CB tx h1 := B.chg f3 (fun k => g26 15 k (by decide)) (fun _ _ z => absurd z.1 (by decide)) (fun a _ => p8 a 1) (fun b k hb => p20 b k hb)
  have X1 : IXB tx ks e wa wb h1 := X.chg b f3 (fun z => by rcases z with z | z <;> omega) (fun a k ha z => by rcases z with z | z <;> omega) (fun z => absurd z.1 (by decide)) (fun _ z => absurd z.1 (by decide)) (fun _ _ z => absurd z.1 (by decide)) (fun _ _ z => z)
  have K1 : KP D kq h1 := K.chg b f3 (fun c y k dy z => by have := (K.1 y dy).1; rcases z with z | z <;> omega) (fun c y k dy z => by have := (K.1 y dy).1; have := z.2; omega) (fun p _ z => absurd z.1 (by decide)) (fun a k h1 _ _ => p20b a k h1) (fun k _ => p20b 66 k (by decide)) (fun p _ => ⟨p20b 67 p (by decide), p20b 69 p (by decide)⟩)
  have Y1 : KF tx kq h1 := Y.chg b f3 (fun _ _ z => z)
  have V1 : EVC E h1 := V.chg b f3 (fun c a k q z => by have := ec_lt q; rcases z with z | z <;> omega)
  obtain ⟨ks', e', wa', wb', h', r1, r2, r3, r4, r5, r6, r7, r8, r9, r10, r11, r12, r13⟩ := exchange_eq c1 o B1 X1 K1 Y1 V1 f2 nd ht (N.P f3)
  refine ⟨ks', e', wa', wb', h', ?_, r2, r3, r4, r5, r6, r7, r8, r9, r10, (f3.mono (fun _ _ _ _ z => Or.inr (Or.inr z)) (fun _ _ _ _ z => Or.inr ⟨z.1, Or.inr z.2⟩) (fun _ _ z => z.elim)).tr r11, by omega, by omega⟩
  have ct : Int32.toNatClampNeg (nI t) = t := nI_clamp (by omega)
  unfold fX11_change fX11_change_b0 fX11_change_b20
  rw [gd_t (k_10 c), r11_10_2 c, gs_t, gd_t ⟨k_15 c, by rw [n_15 c]; exact inbI ht (by decide)⟩, r11_10_4 c, gs_t, gd_t (k_19 c)]
  simp only [ct]
  rw [f1, bd_t, gd_t (k_10 c1), r1, bd_t]
