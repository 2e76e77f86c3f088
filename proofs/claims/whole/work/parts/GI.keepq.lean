/-! KEEP: the found texts of a query that is kept, both sides -/
theorem onlyL.tr {b : Nat} {h h' h'' : PH} (x : onlyL b h h') (y : onlyL b h' h'') : onlyL b h h'' := ⟨fun c a k e => (y.1 c a k e).trans (x.1 c a k e), y.2.1.trans x.2.1, y.2.2.1.trans x.2.2.1, y.2.2.2.1.trans x.2.2.2.1, y.2.2.2.2.1.trans x.2.2.2.2.1, y.2.2.2.2.2.1.trans x.2.2.2.2.2.1, y.2.2.2.2.2.2.trans x.2.2.2.2.2.2⟩
theorem CSh.oL {b : Nat} {h h' : PH} (c : CSh h) (o : onlyL b h h') : CSh h' := c.of (fun q _ => by rw [o.2.2.1]) (fun a _ => by rw [o.2.2.2.1]) (fun a _ => by rw [o.2.2.2.2.1])
theorem CT.oL {tx : TX} {b : Nat} {h h' : PH} (X : CT tx h) (o : onlyL b h h') : CT tx h' := fun t ht => by
  cases e : tx t with
  | none => show hR h' 26 15 t = none; rw [o.2.2.1]; exact X.n ht e
  | some ws =>
    obtain ⟨x, y, h1, h2, h3, h4⟩ := X.s ht e
    exact ⟨x, y, by rw [o.2.2.1]; exact h1, h2, h3, by unfold TextAt at h4 ⊢; rw [o.2.1, o.2.2.1, o.2.2.2.1, o.2.2.2.2.1]; exact h4⟩
theorem QC.oL {b : Nat} {h h' : PH} {D : Nat → Prop} {n : Nat} {Q : QT n} {a : Nat} (C : QC h D n Q a) (o : onlyL b h h') : QC h' D n Q a := QC.mono (fun x dx => ⟨dx, fun c k => by rw [o.2.1], fun c k => by rw [o.2.2.1], by rw [o.2.2.2.1], by rw [o.2.2.2.2.1]⟩) n Q a C
theorem X9_clear_eq {h : PH} {b : Nat} (k : hK h b = 9) : ∃ h', fX9_clear b h = some h' ∧ BS (fun _ => false) h' b ∧ onlyL b h h' := by
  refine ⟨sL (sL h 9 b 0 0) 9 b 1 0, ?_, fun i hi => ⟨?_, ?_⟩, (onlyL_sL h b 0 0).tr (onlyL_sL _ b 1 0)⟩
  · unfold fX9_clear
    rw [gd_t k, lt_t, lt_t]
  · rw [hL_sL, if_neg (by simp), hL_sL, if_pos ⟨rfl, rfl, rfl⟩, show (0 : Int64).toUInt64.toNat = 0 from by decide, Nat.zero_testBit]
  · rw [hL_sL, if_pos ⟨rfl, rfl, rfl⟩, show (0 : Int64).toUInt64.toNat = 0 from by decide, Nat.zero_testBit]
theorem satT_100 {tx : TX} (o : okX tx) {n : Nat} (Q : QT n) {i : Nat} (hi : 100 ≤ i) : satT tx n Q i = false := by
  cases e : tx i with
  | none => exact satT_n e n Q
  | some ws =>
    have := (o i ws e).1
    omega
theorem keepQuery_l {h : PH} (c : CSh h) {tx : TX} (o : okX tx) (X : CT tx h) {D : Nat → Prop} {a : Nat} {Q : QT 27} (C : QC h D 27 Q a) (w : wfq 27 Q) {p : Nat} (hp : p < 6) : ∀ (f j : Nat) (g : PH), j + f = 100 → onlyL (24 + p) h g → BS (fun t => decide (t < j) && satT tx 27 Q t) g (24 + p) → ∃ g', fX11_keepQuery_l21 10 (some a) (some (24 + p)) (nI j) g = some (nI (cnt (fun t => satT tx 27 Q t) 100), g') ∧ onlyL (24 + p) h g' ∧ BS (fun t => satT tx 27 Q t) g' (24 + p) := by
  intro f
  induction f with
  | zero =>
    intro j g hj og B
    have : j = 100 := by omega
    subst this
    have cg := c.oL og
    have B' : BS (fun t => satT tx 27 Q t) g (24 + p) := B.cong (fun i => by
      show (decide (i < 100) && satT tx 27 Q i) = satT tx 27 Q i
      by_cases d : i < 100
      · rw [decide_eq_true d, Bool.true_and]
      · rw [decide_eq_false d, Bool.false_and, satT_100 o Q (by omega)])
    refine ⟨g, ?_, og, B'⟩
    unfold fX11_keepQuery_l21
    refine wh_done ?_
    show fX11_keepQuery_c21 10 (some a) (some (24 + p)) (nI 100) g = _
    unfold fX11_keepQuery_c21
    rw [if_pos (show (100 : Int32) ≤ nI 100 by decide), gs_t, gd_t (k24 cg p hp), X9_size_eq (k24 cg p hp) B' (fun i hi => satT_100 o Q hi), bd_t, mr_t]
  | succ f ih =>
    intro j g hj og B
    have hj' : j < 100 := by omega
    have cg := c.oL og
    have st := isSat_eq cg o (X.oL og) hj' (C.oL og) w (by decide)
    cases e : satT tx 27 Q j with
    | false =>
      obtain ⟨g', r1, r2⟩ := ih (j + 1) g (by omega) og (B.cong (fun i => by
        show (decide (i < j) && satT tx 27 Q i) = (decide (i < j + 1) && satT tx 27 Q i)
        by_cases d : i = j
        · rw [d, e, Bool.and_false, Bool.and_false]
        · rw [show decide (i < j) = decide (i < j + 1) from decide_eq_decide.mpr (by omega)]))
      refine ⟨g', ?_, r2⟩
      unfold fX11_keepQuery_l21 at r1 ⊢
      refine wh_step (t := (nI (j + 1), g)) ?_ r1
      show fX11_keepQuery_c21 10 (some a) (some (24 + p)) (nI j) g = _
      unfold fX11_keepQuery_c21 fX11_keepQuery_b44
      rw [if_neg (i100 hj'), gd_t (k_10 cg), st, bd_t, e, if_pos (show bI false = 0 from rfl), nI_1]
    | true =>
      obtain ⟨g2, p1, p2, p3⟩ := X9_put_eq (k24 cg p hp) B hj'
      obtain ⟨g', r1, r2⟩ := ih (j + 1) g2 (by omega) (og.tr p3) (p2.cong (fun i => by
        show (decide (i = j) || (decide (i < j) && satT tx 27 Q i)) = (decide (i < j + 1) && satT tx 27 Q i)
        by_cases d : i = j
        · rw [d, e, decide_eq_true rfl, decide_eq_true (Nat.lt_succ_self j)]
          rfl
        · rw [decide_eq_false d, Bool.false_or, show decide (i < j) = decide (i < j + 1) from decide_eq_decide.mpr (by omega)]))
      refine ⟨g', ?_, r2⟩
      unfold fX11_keepQuery_l21 at r1 ⊢
      refine wh_step (t := (nI (j + 1), g2)) ?_ r1
      show fX11_keepQuery_c21 10 (some a) (some (24 + p)) (nI j) g = _
      unfold fX11_keepQuery_c21 fX11_keepQuery_b44
      rw [if_neg (i100 hj'), gd_t (k_10 cg), st, bd_t, e, if_neg (show ¬ bI true = 0 by decide), gs_t, gd_t (k24 cg p hp), p1, bd_t, nI_1]
/-- a query's found texts -/
def mnf (tx : TX) (Q : QT 27) : Nat := cnt (fun t => satT tx 27 Q t) 100
def GKp (p c a k : Nat) : Prop := c = 25 ∧ a = 22 ∧ k = p
theorem keepQuery_eq {h : PH} (c : CSh h) {tx : TX} (o : okX tx) (B : CB tx h) {D : Nat → Prop} (hd : ∀ x, D x → 89 ≤ x) {a : Nat} {Q : QT 27} (C : QC h D 27 Q a) (w : wfq 27 Q) {p : Nat} (hp : p < 6) : ∃ h', fX11_keepQuery 10 (nI p) (some a) h = some (nI (mnf tx Q), h') ∧ chg (fun _ _ _ => False) (GKp p) (fun x => x = 24 + p) h h' ∧ hX h' = hX h ∧ hV h' = hV h ∧ BS (fun t => satT tx 27 Q t) h' (24 + p) ∧ hR h' 25 22 p = some a := by
  have b := B.1
  have cp : Int32.toNatClampNeg (nI p) = p := nI_clamp (by omega)
  have x1 : chg (fun _ _ _ => False) (GKp p) (fun x => x = 24 + p) h (sR h 25 22 p (some a)) := (chg.rf _ _ _ h).aR (some a) (fun _ => ⟨rfl, rfl, rfl⟩)
  have c1 : CSh (sR h 25 22 p (some a)) := c.chg b x1 (fun q hq z => by
    have : ∀ q ∈ sCR, ¬ (q.1 = 25) := by decide
    exact this q hq z.1)
  have B1 : CB tx (sR h 25 22 p (some a)) := B.chg x1 (fun k z => absurd z.1 (by decide)) (fun a _ z => absurd z.1 (by decide)) (fun _ _ z => z) (fun _ _ _ z => z)
  have sm : ∀ x, D x → same h (sR h 25 22 p (some a)) x := fun x dx => by
    have hx := hd x dx
    refine ⟨fun c' k => rfl, fun c' k => ?_, rfl, rfl⟩
    rw [hR_sR, if_neg (fun z => by have h2 := z.2.1; omega)]
  have C1 : QC (sR h 25 22 p (some a)) D 27 Q a := QC.mono (fun x dx => ⟨dx, sm x dx⟩) 27 Q a C
  obtain ⟨h2, p1, p2, p3⟩ := X9_clear_eq (k24 c1 p hp)
  obtain ⟨h3, q1, q2, q3⟩ := keepQuery_l c1 o B1.CT C1 w hp 100 0 h2 rfl p3 (p2.cong (fun i => by
    show false = (decide (i < 0) && satT tx 27 Q i)
    rw [decide_eq_false (Nat.not_lt_zero i), Bool.false_and]))
  refine ⟨h3, ?_, x1.tr (chg_L q2 rfl), q2.2.2.2.2.2.1, q2.2.2.2.2.2.2, q3, ?_⟩
  · have o4 : okq h 4 (some a) = true := decide_eq_true (QC.k C).1
    unfold fX11_keepQuery
    rw [gd_t (k_10 c), r11_10_5 c, gs_t]
    simp only [cp]
    rw [gd_t ⟨k_22 c, by rw [n_22 c]; exact inbI hp (by decide)⟩, gd_t o4, lt_t, r11_10_6 c1, gs_t, gd_t ⟨k_23 c1, by rw [n_23 c1]; exact inbI hp (by decide)⟩, r27 c1 p hp, gs_t, gd_t (k24 c1 p hp), p1, bd_t]
    exact q1
  · rw [q2.2.2.1, hR_sR, if_pos ⟨rfl, rfl, rfl⟩]
theorem many_eq {h : PH} (m : MSh h) {tx : TX} (o : okX tx) (X : MT tx h) {q : Nat} {Q : QT 27} (hq : q < 8) (B : BM h q 27 Q) : ∃ g', fX12_manyFound 45 (nI q) h = some (nI (mnf tx Q), g') ∧ onlyI isHo h g' := by
  have lp : ∀ f j : Nat, ∀ g : PH, j + f = 100 → onlyI isHo h g → ∃ g', fX12_manyFound_l4 45 (nI q) (nI (cnt (fun t => satT tx 27 Q t) j)) (nI j) g = some (nI (mnf tx Q), g') ∧ onlyI isHo h g' := by
    intro f
    induction f with
    | zero =>
      intro j g hj og
      have : j = 100 := by omega
      subst this
      refine ⟨g, ?_, og⟩
      unfold fX12_manyFound_l4
      refine wh_done ?_
      show fX12_manyFound_c4 45 (nI q) (nI (cnt (fun t => satT tx 27 Q t) 100)) (nI 100) g = _
      unfold fX12_manyFound_c4
      rw [if_pos (show (100 : Int32) ≤ nI 100 by decide), mr_t]
      rfl
    | succ f ih =>
      intro j g hj og
      have hj' : j < 100 := by omega
      have mg := m.oI og
      obtain ⟨g2, s1, s2⟩ := satisfies_eq mg o (X.oI og (fun i => ⟨rfl, rfl, rfl⟩)) hj' hq (B.of (fun a k h1 h2 => og.1 20 a k (by unfold isHo; rfl)))
      obtain ⟨g', r1, r2⟩ := ih (j + 1) g2 (by omega) (og.tr s2)
      refine ⟨g', ?_, r2⟩
      unfold fX12_manyFound_l4 at r1 ⊢
      refine wh_step (t := (nI (cnt (fun t => satT tx 27 Q t) (j + 1)), nI (j + 1), g2)) ?_ r1
      show fX12_manyFound_c4 45 (nI q) (nI (cnt (fun t => satT tx 27 Q t) j)) (nI j) g = _
      unfold fX12_manyFound_c4 fX12_manyFound_b25
      rw [if_neg (i100 hj'), gd_t (k_45 mg), s1, bd_t]
      have ce : cnt (fun t => satT tx 27 Q t) (j + 1) = cnt (fun t => satT tx 27 Q t) j + (if satT tx 27 Q j then 1 else 0) := cnt_s _ j
      cases e : satT tx 27 Q j with
      | false =>
        have ce2 : cnt (fun t => satT tx 27 Q t) (j + 1) = cnt (fun t => satT tx 27 Q t) j := by rw [ce, e]; rfl
        have z0 : nI (cnt (fun t => satT tx 27 Q t) j) + 0 = nI (cnt (fun t => satT tx 27 Q t) j) := by rw [show (0 : Int32) = nI 0 from rfl, nI_add, Nat.add_zero]
        rw [if_pos (show bI false = 0 from rfl), nI_1, z0, ce2]
      | true =>
        have ce2 : cnt (fun t => satT tx 27 Q t) (j + 1) = cnt (fun t => satT tx 27 Q t) j + 1 := by rw [ce, e]; rfl
        rw [if_neg (show ¬ bI true = 0 by decide), nI_1, nI_1, ce2]
  exact lp 100 0 h rfl (onlyI.rf _ _)
