/-! ASKING A QUERY: what is found, both sides -/
def scX (tx : TX) (n : Nat) (Q : QT n) (t : Nat) : Nat := match tx t with
  | none => 0
  | some T => qsc T n Q true
/-- what is found among the first j texts -/
def fnd (tx : TX) (n : Nat) (Q : QT n) : Nat → Nat × (Nat → Int32) × (Nat → Int32) × (Nat → Int32)
  | 0 => (0, fun _ => 0, fun _ => 0, fun _ => 0)
  | j + 1 => if satT tx n Q j then ((fnd tx n Q j).1 + 1, putF (fnd tx n Q j).2.1 (fnd tx n Q j).1 (nI j), putF (fnd tx n Q j).2.2.1 (ip (fnd tx n Q j).2.2.2 (nI (scX tx n Q j)) (fnd tx n Q j).1) (nI j), putF (fnd tx n Q j).2.2.2 (ip (fnd tx n Q j).2.2.2 (nI (scX tx n Q j)) (fnd tx n Q j).1) (nI (scX tx n Q j))) else fnd tx n Q j
theorem fnd_le (tx : TX) (n : Nat) (Q : QT n) : ∀ j, (fnd tx n Q j).1 ≤ j
  | 0 => Nat.le_refl _
  | j + 1 => by
    have := fnd_le tx n Q j
    rw [fnd]
    split
    · exact Nat.succ_le_succ this
    · omega
theorem fill_eq {h : PH} (c : CSh h) {tx : TX} (o : okX tx) (X : CT tx h) {D : Nat → Prop} (hd : ∀ x, D x → 89 ≤ x) {n a : Nat} {Q : QT n} (C : QC h D n Q a) (w : wfq n Q) (hn : n ≤ 40) : ∃ h', fX2_fill 34 (some a) (some 15) h = some h' ∧ FC (fnd tx n Q 100).1 (fnd tx n Q 100).2.1 (fnd tx n Q 100).2.2.1 (fnd tx n Q 100).2.2.2 h' ∧ onlyI isFC h h' := by
  have fc89 : ∀ c' x k, 89 ≤ x → isFC c' x k = false := fun c' x k hx => by
    have e : ∀ m, m < 89 → (x == m) = false := fun m hm => by simp; omega
    simp [isFC, e]
  have lp : ∀ m j : Nat, ∀ g : PH, j + m = 100 → onlyI isFC h g → FC (fnd tx n Q j).1 (fnd tx n Q j).2.1 (fnd tx n Q j).2.2.1 (fnd tx n Q j).2.2.2 g → ∃ h', fX2_fill_l7 34 (some a) (some 15) (nI j) g = some h' ∧ FC (fnd tx n Q 100).1 (fnd tx n Q 100).2.1 (fnd tx n Q 100).2.2.1 (fnd tx n Q 100).2.2.2 h' ∧ onlyI isFC h h' := by
    intro m
    induction m with
    | zero =>
      intro j g hj og T
      have : j = 100 := by omega
      subst this
      have cg := c.oI og
      refine ⟨g, ?_, T, og⟩
      unfold fX2_fill_l7
      refine wh_done ?_
      show fX2_fill_c7 34 (some a) (some 15) (nI 100) g = _
      unfold fX2_fill_c7
      rw [gs_t, gd_t (k_15 cg), n_15 cg, if_pos (nI_le (Nat.le_refl _) (by decide)), mr_t]
    | succ m ih =>
      intro j g hj og T
      have hj' : j < 100 := by omega
      have cg := c.oI og
      have Xg : CT tx g := fun t ht => by
        cases e : tx t with
        | none => show hR g 26 15 t = none; rw [og.2.1]; exact X.n ht e
        | some ws =>
          obtain ⟨x, y, h1, h2, h3, ⟨k1, k2, k3, k4, k5, k6⟩⟩ := X.s ht e
          exact ⟨x, y, by rw [og.2.1]; exact h1, h2, h3, by rw [og.2.2.2.1]; exact k1, (og.1 8 x 1 (fc89 _ _ _ h2)).trans k2, by rw [og.2.1]; exact k3, by rw [og.2.2.2.1]; exact k4, by rw [og.2.2.2.2.1]; exact k5, fun i hi => (og.1 20 y i (fc89 _ _ _ h3)).trans (k6 i hi)⟩
      have Cg : QC g D n Q a := QC.mono (fun x dx => ⟨dx, fun c' k => og.1 c' x k (fc89 _ _ _ (hd x dx)), fun c' k => by rw [og.2.1], by rw [og.2.2.2.1], by rw [og.2.2.2.2.1]⟩) n Q a C
      have hin : inb (nI j) 100 := inbI hj' (by decide)
      have fle := fnd_le tx n Q j
      have skip : satT tx n Q j = false → fX2_fill_c7 34 (some a) (some 15) (nI j) g = some (.inl (nI (j + 1), g)) → ∃ h', fX2_fill_l7 34 (some a) (some 15) (nI j) g = some h' ∧ FC (fnd tx n Q 100).1 (fnd tx n Q 100).2.1 (fnd tx n Q 100).2.2.1 (fnd tx n Q 100).2.2.2 h' ∧ onlyI isFC h h' := fun es st => by
        obtain ⟨h', r1, r2⟩ := ih (j + 1) g (by omega) og (by rw [fnd, es, if_neg (by decide)]; exact T)
        refine ⟨h', ?_, r2⟩
        unfold fX2_fill_l7 at r1 ⊢
        exact wh_step (t := (nI (j + 1), g)) st r1
      cases e : tx j with
      | none =>
        refine skip (satT_n e n Q) ?_
        unfold fX2_fill_c7 fX2_fill_b44
        rw [gs_t, gd_t (k_15 cg), n_15 cg, if_neg (nI_ge hj' (by decide)), gd_t hin, Xg.nc hj' e, mq_nt, nI_1]
      | some ws =>
        obtain ⟨x, y, h1, h2, h3, h4⟩ := Xg.sc hj' e
        have ot := (o j ws e).2
        have em : fX4_isMet (some a) (some x) 0 g = some (bI (qmet ws n Q)) := isMet_eq h4 ot n Q a Cg w 44 0 (by omega) (by omega)
        have es : fX4_score (some a) (some x) 1 0 g = some (nI (qsc ws n Q true)) := score_eq h4 ot n Q a Cg w 44 0 true (by omega) (by omega)
        cases q : qmet ws n Q with
        | false =>
          refine skip (by rw [satT_s e, q]) ?_
          unfold fX2_fill_c7 fX2_fill_b44
          rw [gs_t, gd_t (k_15 cg), n_15 cg, if_neg (nI_ge hj' (by decide)), gd_t hin, h1, mq_st, gd_t hin, em, bd_t, q, if_pos (show bI false = 0 from rfl), nI_1]
        | true =>
          obtain ⟨g', i1, i2, i3⟩ := insert_c cg (n := (fnd tx n Q j).1) (by omega) T (nI j) (nI (qsc ws n Q true))
          obtain ⟨h', r1, r2⟩ := ih (j + 1) g' (by omega) (og.tr i3) (by
            have ex : scX tx n Q j = qsc ws n Q true := by unfold scX; rw [e]
            rw [fnd, satT_s e, q, if_pos rfl, ex]
            exact i2)
          refine ⟨h', ?_, r2⟩
          unfold fX2_fill_l7 at r1 ⊢
          refine wh_step (t := (nI (j + 1), g')) ?_ r1
          show fX2_fill_c7 34 (some a) (some 15) (nI j) g = _
          unfold fX2_fill_c7 fX2_fill_b44
          rw [gs_t, gd_t (k_15 cg), n_15 cg, if_neg (nI_ge hj' (by decide)), gd_t hin, h1, mq_st, gd_t hin, em, bd_t, q, if_neg (show ¬ bI true = 0 by decide), gd_t hin, es, bd_t, gd_t (k_34 cg), i1, bd_t, nI_1]
  obtain ⟨h', r1, r2, r3⟩ := lp 100 0 (sI h 2 34 3 0) rfl (onlyI_sI _ _ rfl) ⟨by rw [hI_sI, if_pos ⟨rfl, rfl, rfl⟩]; rfl, fun i hi => absurd hi (Nat.not_lt_zero _)⟩
  refine ⟨h', ?_, r2, r3⟩
  unfold fX2_fill
  rw [gd_t (k_34 c), lt_t]
  exact r1
def isAk (c a k : Nat) : Bool := isFM c a k || isHo c a k || isTu c a k
theorem ak_1 {c a k : Nat} (e : isFM c a k = true) : isAk c a k = true := by unfold isAk; rw [e]; rfl
theorem ak_2 {c a k : Nat} (e : isHo c a k = true) : isAk c a k = true := by unfold isAk; rw [e, Bool.or_true]; rfl
theorem ak_3 {c a k : Nat} (e : isTu c a k = true) : isAk c a k = true := by unfold isAk; rw [e, Bool.or_true]
theorem FM.oI {F : Nat → Nat → Nat → Bool} {n : Nat} {f r s : Nat → Int32} {h h' : PH} (T : FM n f r s h) (q : onlyI F h h') (f1 : F 12 45 51 = false) (f2 : ∀ i, F 20 79 i = false ∧ F 20 80 i = false ∧ F 20 81 i = false) : FM n f r s h' := ⟨(q.1 12 45 51 f1).trans T.1, fun i hi => by
  rw [q.1 20 79 i (f2 i).1, q.1 20 80 i (f2 i).2.1, q.1 20 81 i (f2 i).2.2]
  exact T.2 i hi⟩
theorem asks_eq {h : PH} (m : MSh h) {tx : TX} (o : okX tx) (X : MT tx h) {q n : Nat} {Q : QT n} (hq : q < 8) (B : BM h q n Q) : ∃ h', fX12_asks 45 (nI q) h = some (nI (fnd tx n Q 100).1, h') ∧ FM (fnd tx n Q 100).1 (fnd tx n Q 100).2.1 (fnd tx n Q 100).2.2.1 (fnd tx n Q 100).2.2.2 h' ∧ onlyI isAk h h' := by
  have lp : ∀ m' j : Nat, ∀ g : PH, j + m' = 100 → onlyI isAk h g → FM (fnd tx n Q j).1 (fnd tx n Q j).2.1 (fnd tx n Q j).2.2.1 (fnd tx n Q j).2.2.2 g → ∃ h', fX12_asks_l7 45 (nI q) (nI j) g = some (nI (fnd tx n Q 100).1, h') ∧ FM (fnd tx n Q 100).1 (fnd tx n Q 100).2.1 (fnd tx n Q 100).2.2.1 (fnd tx n Q 100).2.2.2 h' ∧ onlyI isAk h h' := by
    intro m'
    induction m' with
    | zero =>
      intro j g hj og T
      have : j = 100 := by omega
      subst this
      have mg := m.oI og
      refine ⟨g, ?_, T, og⟩
      unfold fX12_asks_l7
      refine wh_done ?_
      show fX12_asks_c7 45 (nI q) (nI 100) g = _
      unfold fX12_asks_c7
      rw [if_pos (by decide), gd_t (k_45 mg), T.1, mr_t]
    | succ m' ih =>
      intro j g hj og T
      have hj' : j < 100 := by omega
      have mg := m.oI og
      have Xg : MT tx g := fun t ht => by
        have e1 : ∀ k, hI g 21 47 k = hI h 21 47 k := fun k => og.1 21 47 k rfl
        have e2 : ∀ k, hI g 20 49 k = hI h 20 49 k := fun k => og.1 20 49 k rfl
        have e3 : ∀ k, hI g 20 48 k = hI h 20 48 k := fun k => og.1 20 48 k rfl
        cases e : tx t with
        | none => show hI g 21 47 t = 0; rw [e1]; exact X.n ht e
        | some ws =>
          obtain ⟨h1, h2, h3⟩ := X.s ht e
          exact ⟨by rw [e1]; exact h1, by rw [e2]; exact h2, fun i hi => by rw [e3]; exact h3 i hi⟩
      have ak60 : ∀ a k, 60 ≤ a → a ≤ 69 → isAk 20 a k = false := fun a k h1 h2 => by
        have e : ∀ z, 69 < z → (a == z) = false := fun z hz => by simp; omega
        simp [isAk, isFM, isHo, isTu, e]
      have Bg : BM g q n Q := B.of (fun a k h1 h2 => og.1 20 a k (ak60 a k h1 h2))
      have fle := fnd_le tx n Q j
      obtain ⟨g1, s1, s2⟩ := satisfies_eq mg o Xg hj' hq Bg
      have T1 : FM (fnd tx n Q j).1 (fnd tx n Q j).2.1 (fnd tx n Q j).2.2.1 (fnd tx n Q j).2.2.2 g1 := T.oI s2 rfl (fun i => ⟨rfl, rfl, rfl⟩)
      have o1 : onlyI isAk h g1 := og.tr (s2.mono (fun _ _ _ => ak_2))
      have m1 := m.oI o1
      cases e : satT tx n Q j with
      | false =>
        obtain ⟨h', r1, r2⟩ := ih (j + 1) g1 (by omega) o1 (by rw [fnd, e, if_neg (by decide)]; exact T1)
        refine ⟨h', ?_, r2⟩
        unfold fX12_asks_l7 at r1 ⊢
        refine wh_step (t := (nI (j + 1), g1)) ?_ r1
        show fX12_asks_c7 45 (nI q) (nI j) g = _
        unfold fX12_asks_c7 fX12_asks_b130
        rw [if_neg (i100 hj'), gd_t (k_45 mg), s1, bd_t, e]
        show (if ¬ (0 : Int32) = 0 then _ else (some (Sum.inl (nI j + 1, g1)) : Option ((Int32 × PH) ⊕ (Int32 × PH)))) = _
        rw [if_neg (by decide), nI_1]
      | true =>
        obtain ⟨T0, ew⟩ : ∃ T0, tx j = some T0 := by
          cases z : tx j with
          | none => rw [satT_n z] at e; cases e
          | some T0 => exact ⟨T0, rfl⟩
        have ex : scX tx n Q j = qsc T0 n Q true := by unfold scX; rw [ew]
        have X1 : MT tx g1 := Xg.scr (s2.scr (fun _ _ _ => isHo_scr))
        have B1 : BM g1 q n Q := B.of (fun a k h1 h2 => o1.1 20 a k (ak60 a k h1 h2))
        obtain ⟨g2, c1, c2⟩ := mscore_eq m1 o X1 hj' ew hq B1
        have o2 : onlyI isAk h g2 := o1.tr (c2.mono (fun _ _ _ => ak_3))
        have m2 := m.oI o2
        have T2 : FM (fnd tx n Q j).1 (fnd tx n Q j).2.1 (fnd tx n Q j).2.2.1 (fnd tx n Q j).2.2.2 g2 := T1.oI c2 rfl (fun i => ⟨rfl, rfl, rfl⟩)
        generalize hk : (fnd tx n Q j).1 = k at fle T2 ⊢
        have o3 : onlyI isFM g2 (sI (sI g2 20 79 k (nI j)) 12 45 51 (nI (k + 1))) := (onlyI_sI g2 (nI j) (fm79 k)).tr (onlyI_sI _ _ rfl)
        have m3 := m2.oI o3
        have rd : ∀ a i, a ≠ 79 → hI (sI (sI g2 20 79 k (nI j)) 12 45 51 (nI (k + 1))) 20 a i = hI g2 20 a i := fun a i ha => by
          rw [n20 _ _ (by decide), hI_sI, if_neg (fun z => ha z.2.1)]
        obtain ⟨g4, f1, f2, f3, f4, f5⟩ := rank_m m3 (n := k) (by omega) (r := (fnd tx n Q j).2.2.1) (s := (fnd tx n Q j).2.2.2) (nI j) (nI (qsc T0 n Q true)) (nI q) k _ (Nat.le_refl _) (onlyI.rf _ _) (fun i hi => by rw [rd 80 i (by decide), rd 81 i (by decide)]; exact (T2.2 i hi).2) (fun i h1 h2 => by omega)
        have o4 : onlyI isAk h g4 := (o2.tr (o3.mono (fun _ _ _ => ak_1))).tr (f2.mono (fun _ _ _ => ak_1))
        have T4 : FM (k + 1) (putF (fnd tx n Q j).2.1 k (nI j)) (putF (fnd tx n Q j).2.2.1 (ip (fnd tx n Q j).2.2.2 (nI (qsc T0 n Q true)) k) (nI j)) (putF (fnd tx n Q j).2.2.2 (ip (fnd tx n Q j).2.2.2 (nI (qsc T0 n Q true)) k) (nI (qsc T0 n Q true))) g4 := by
          refine ⟨f3.trans (by rw [hI_sI, if_pos ⟨rfl, rfl, rfl⟩]), fun i hi => ⟨?_, f4 i (by omega)⟩⟩
          rw [f5, n20 _ _ (by decide), hI_sI]
          unfold putF
          by_cases d : i = k
          · rw [if_pos ⟨rfl, rfl, d⟩, if_neg (by omega), if_pos d]
          · rw [if_neg (fun z => d z.2.2), if_pos (by omega)]
            exact (T2.2 i (by omega)).1
        obtain ⟨h', r1, r2⟩ := ih (j + 1) g4 (by omega) o4 (by rw [fnd, e, if_pos rfl, ex, hk]; exact T4)
        refine ⟨h', ?_, r2⟩
        unfold fX12_asks_l7 at r1 ⊢
        refine wh_step (t := (nI (j + 1), g4)) ?_ r1
        show fX12_asks_c7 45 (nI q) (nI j) g = _
        have ck : Int32.toNatClampNeg (nI k) = k := nI_clamp (by omega)
        unfold fX12_asks_c7
        rw [if_neg (i100 hj'), gd_t (k_45 mg), s1, bd_t, e]
        show (if ¬ (1 : Int32) = 0 then gd (hK g1 45 = 12) (bd (fX12_score 45 (nI q) (nI j) g1) (fun z9 => gd (hK z9.2 45 = 12) (gs (hR z9.2 12 45 48) (fun a11 => gd (hK z9.2 a11 = 20 ∧ inb (hI z9.2 12 45 51) (hN z9.2 a11)) (lt (sI z9.2 20 a11 (Int32.toNatClampNeg (hI z9.2 12 45 51)) (nI j)) (fun h15 => lt (sI h15 12 45 51 ((hI h15 12 45 51) + (1 : Int32))) (fun h16 => fX12_asks_l58 45 (nI q) (nI j) z9.1 (hI h15 12 45 51) h16))))))) else _) = _
        rw [if_pos (by decide), gd_t (k_45 m1), c1, bd_t]
        show gd (hK g2 45 = 12) (gs (hR g2 12 45 48) (fun a11 => gd (hK g2 a11 = 20 ∧ inb (hI g2 12 45 51) (hN g2 a11)) (lt (sI g2 20 a11 (Int32.toNatClampNeg (hI g2 12 45 51)) (nI j)) (fun h15 => lt (sI h15 12 45 51 ((hI h15 12 45 51) + (1 : Int32))) (fun h16 => fX12_asks_l58 45 (nI q) (nI j) (nI (qsc T0 n Q true)) (hI h15 12 45 51) h16))))) = _
        rw [gd_t (k_45 m2), r12_45_48 m2, gs_t, T2.1, gd_t ⟨k_79 m2, by rw [n_79 m2]; exact inbI (by omega) (by decide)⟩, lt_t, lt_t, c20 _ _ _ _ (by decide), T2.1, ck, nI_1, f1, nI_1]
  obtain ⟨h', r1, r2, r3⟩ := lp 100 0 (sI h 12 45 51 0) rfl (onlyI_sI _ _ rfl) ⟨by rw [hI_sI, if_pos ⟨rfl, rfl, rfl⟩]; rfl, fun i hi => absurd hi (Nat.not_lt_zero _)⟩
  refine ⟨h', ?_, r2, r3⟩
  unfold fX12_asks
  rw [gd_t (k_45 m), lt_t]
  exact r1
