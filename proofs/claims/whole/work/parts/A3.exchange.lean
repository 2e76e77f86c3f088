/-! THE CLASS EXCHANGES a text: the index, the shelf, the kept queries' bits, the events -/
def kb (tx : TX) (kq : Nat → Option (QT 27)) (t p : Nat) : Bool := match kq p with
  | none => false
  | some Q => satT tx 27 Q t
theorem kb_n {tx : TX} {kq : Nat → Option (QT 27)} {t p : Nat} (e : kq p = none) : kb tx kq t p = false := by unfold kb; rw [e]
theorem kb_s {tx : TX} {kq : Nat → Option (QT 27)} {t p : Nat} {Q : QT 27} (e : kq p = some Q) : kb tx kq t p = satT tx 27 Q t := by unfold kb; rw [e]
def evF (a b : Nat → Bool) (t : Int32) (E : EVT) : Nat → EVT
  | 0 => E
  | p + 1 => if a p = b p then evF a b t E p else pushE (evF a b t E p) (nI p) t (bI (b p))
def FX (c a k : Nat) : Prop := isEC c a k = true
def GX (_ _ _ : Nat) : Prop := False
def LXc (a : Nat) : Prop := 24 ≤ a ∧ a < 30
theorem ec_lt {c a k : Nat} (h : isEC c a k = true) : a = 30 ∨ a = 31 ∨ a = 32 ∨ a = 33 := by
  simp [isEC] at h
  omega
theorem FX_89 {c a k : Nat} (h : 34 ≤ a) : ¬ FX c a k := fun z => by
  have := ec_lt z
  omega
theorem EVC.I {E : EVT} {h h' : PH} (V : EVC E h) (e : hI h' = hI h) : EVC E h' := by
  unfold EVC
  rw [e]
  exact V
theorem BS.L {p : Nat → Bool} {h h' : PH} {b : Nat} (B : BS p h b) (e : ∀ k, hL h' 9 b k = hL h 9 b k) : BS p h' b := fun i hi => by
  rw [e, e]
  exact B i hi
def xX (h h' : PH) : Prop := chg FX GX LXc h h'
theorem CSh.X {h h' : PH} (c : CSh h) (b : 89 ≤ hX h) (x : xX h h') : CSh h' := c.chg b x (fun _ _ z => z)
theorem CB.X {tx : TX} {h h' : PH} (B : CB tx h) (x : xX h h') : CB tx h' := B.chg x (fun _ z => z) (fun _ _ z => z) (fun a ha => FX_89 (by omega)) (fun b k hb => FX_89 (by omega))
theorem KP.X {D : Nat → Prop} {kq : Nat → Option (QT 27)} {h h' : PH} (K : KP D kq h) (b : 89 ≤ hX h) (x : xX h h') : KP D kq h' := K.chg b x (fun c y k dy => FX_89 (by have := (K.1 y dy).1; omega)) (fun _ _ _ _ z => z) (fun _ _ z => z) (fun a k h1 _ _ => FX_89 (by omega)) (fun k _ => FX_89 (by omega)) (fun p _ => ⟨FX_89 (by omega), FX_89 (by omega)⟩)
theorem exch_l {tx tx' : TX} {t : Nat} (ht : t < 100) (o' : okX tx') (ne : ∀ i, i ≠ t → tx' i = tx i) {D : Nat → Prop} {kq : Nat → Option (QT 27)} {E : EVT} {h : PH} (c0 : CSh h) (B0 : CB tx' h) (K0 : KP D kq h) : ∀ m j : Nat, ∀ g : PH, j + m = 6 → chg FX GX LXc h g → hX g = hX h → hV g = hV h → EVC (evF (kb tx kq t) (kb tx' kq t) (nI t) E j) g → (∀ p, p < 6 → ∀ Q, kq p = some Q → BS (fun i => satT (if p < j then tx' else tx) 27 Q i) g (24 + p)) → ∃ h', fX11_exchange_l24 10 (nI t) (nI j) g = some h' ∧ EVC (evF (kb tx kq t) (kb tx' kq t) (nI t) E 6) h' ∧ KF tx' kq h' ∧ chg FX GX LXc h h' ∧ hX h' = hX h ∧ hV h' = hV h := by
  intro m
  induction m with
  | zero =>
    intro j g hj x q1 q2 V Y
    have hj : j = 6 := by omega
    subst hj
    refine ⟨g, wh_done ?_, V, fun p hp Q e => ?_, x, q1, q2⟩
    · show fX11_exchange_c24 10 (nI t) (nI 6) g = _
      unfold fX11_exchange_c24
      rw [if_pos (show (6 : Int32) ≤ nI 6 by decide), mr_t]
    · have := Y p hp Q e
      rw [if_pos hp] at this
      exact this
  | succ m ih =>
    intro j g hj x q1 q2 V Y
    have b0 := B0.1
    have hj6 : j < 6 := by omega
    have c := c0.X b0 x
    have B := B0.X x
    have K := K0.X b0 x
    have cj : Int32.toNatClampNeg (nI j) = j := nI_clamp (by omega)
    cases e : kq j with
    | none =>
      obtain ⟨h', r⟩ := ih (j + 1) g (by omega) x q1 q2 (by rw [evF, kb_n e, kb_n e, if_pos rfl]; exact V) (fun p hp Q ep => by
        have := Y p hp Q ep
        have hpj : p ≠ j := fun z => by rw [z, e] at ep; cases ep
        by_cases z : p < j
        · rw [if_pos z] at this
          rw [if_pos (show p < j + 1 by omega)]
          exact this
        · rw [if_neg z] at this
          rw [if_neg (show ¬ p < j + 1 by omega)]
          exact this)
      refine ⟨h', wh_step (t := (nI (j + 1), g)) ?_ r.1, r.2⟩
      show fX11_exchange_c24 10 (nI t) (nI j) g = _
      unfold fX11_exchange_c24 fX11_exchange_b81
      rw [if_neg (i6 hj6), gd_t (k_10 c), r11_10_5 c, gs_t, gd_t ⟨k_22 c, by rw [n_22 c]; exact inbI hj6 (by decide)⟩]
      simp only [cj]
      rw [(K.n hj6 e).1, mq_nt, nI_1]
    | some Q =>
      obtain ⟨⟨a, ha, C⟩, bm⟩ := K.s hj6 e
      have Bj : BS (fun i => satT tx 27 Q i) g (24 + j) := by
        have := Y j hj6 Q e
        rw [if_neg (Nat.lt_irrefl _)] at this
        exact this
      have k9 := k24 c j hj6
      obtain ⟨g1, f1, f2, f3⟩ := X9_turn_eq k9 Bj ht (satT tx' 27 Q t)
      have hL1 : LXc (24 + j) := ⟨by omega, by omega⟩
      have x1 : chg FX GX LXc h g1 := x.tr (chg_L f3 hL1)
      have c1 := c0.X b0 x1
      have V1 := V.I f3.2.1
      have B1 : BS (fun i => satT tx' 27 Q i) g1 (24 + j) := f2.cong (fun i => by
        by_cases d : i = t
        · rw [if_pos d, d]
        · rw [if_neg d]
          unfold satT
          rw [ne i d])
      have Y1 : ∀ p, p < 6 → ∀ Q, kq p = some Q → BS (fun i => satT (if p < j + 1 then tx' else tx) 27 Q i) g1 (24 + p) := fun p hp Q' ep => by
        by_cases d : p = j
        · subst d
          rw [e] at ep
          cases ep
          rw [if_pos (Nat.lt_succ_self _)]
          exact B1
        · have := Y p hp Q' ep
          refine BS.L (h := g) ?_ (fun k => f3.1 9 (24 + p) k (fun z => d (by omega)))
          by_cases z : p < j
          · rw [if_pos z] at this
            rw [if_pos (show p < j + 1 by omega)]
            exact this
          · rw [if_neg z] at this
            rw [if_neg (show ¬ p < j + 1 by omega)]
            exact this
      have st : fX11_exchange_c24 10 (nI t) (nI j) g = (if bI (satT tx 27 Q t != satT tx' 27 Q t) = 0 then some (.inl (nI (j + 1), g1)) else bd (fX1_record 30 (nI j) (nI t) (bI (satT tx' 27 Q t)) g1) (fun z => some (.inl (nI (j + 1), z)))) := by
        unfold fX11_exchange_c24 fX11_exchange_b81
        rw [if_neg (i6 hj6), gd_t (k_10 c), r11_10_5 c, gs_t, gd_t ⟨k_22 c, by rw [n_22 c]; exact inbI hj6 (by decide)⟩]
        simp only [cj]
        rw [ha, mq_st, gs_t, gd_t ⟨k_22 c, by rw [n_22 c]; exact inbI hj6 (by decide)⟩, ha, isSat_eq c o' B.CT ht C bm.2.2.2.2 (by decide), bd_t, r11_10_6 c, gs_t, gd_t ⟨k_23 c, by rw [n_23 c]; exact inbI hj6 (by decide)⟩, r27 c j hj6, gs_t, gd_t k9, f1, bd_t, gd_t (k_10 c1), r11_10_7 c1, gs_t, gd_t (k_30 c1), nI_1]
      by_cases d : satT tx 27 Q t = satT tx' 27 Q t
      · obtain ⟨h', r⟩ := ih (j + 1) g1 (by omega) x1 (by rw [f3.2.2.2.2.2.1, q1]) (by rw [f3.2.2.2.2.2.2, q2]) (by rw [evF, kb_s e, kb_s e, if_pos d]; exact V1) Y1
        refine ⟨h', wh_step (t := (nI (j + 1), g1)) ?_ r.1, r.2⟩
        show fX11_exchange_c24 10 (nI t) (nI j) g = _
        rw [st, d, if_pos (by cases satT tx' 27 Q t <;> decide)]
      · obtain ⟨g2, w1, w2, w3⟩ := record_c c1 V1 (nI j) (nI t) (satT tx' 27 Q t)
        have x2 : chg FX GX LXc h g2 := x1.tr (chg_I w3 (fun _ _ _ z => z))
        obtain ⟨h', r⟩ := ih (j + 1) g2 (by omega) x2 (by rw [w3.2.2.2.2.2.1, f3.2.2.2.2.2.1, q1]) (by rw [w3.2.2.2.2.2.2, f3.2.2.2.2.2.2, q2]) (by rw [evF, kb_s e, kb_s e, if_neg d]; exact w2) (fun p hp Q' ep => (Y1 p hp Q' ep).L (fun k => by rw [w3.2.2.1]))
        refine ⟨h', wh_step (t := (nI (j + 1), g2)) ?_ r.1, r.2⟩
        show fX11_exchange_c24 10 (nI t) (nI j) g = _
        rw [st, if_neg (by revert d; cases satT tx 27 Q t <;> cases satT tx' 27 Q t <;> decide), w1, bd_t]
