/-! THE CLASS SEARCHES the least text -/
def isTq (c a k : Nat) : Bool := (c == 8 && a == 40 && k == 1) || (c == 20 && a == 41)
theorem isTq41 (k : Nat) : isTq 20 41 k = true := rfl
theorem isTq_scr {c a k : Nat} (e : isTq c a k = true) : isScr c a k = true := by
  unfold isTq at e
  rw [Bool.or_eq_true, Bool.and_eq_true, Bool.and_eq_true, Bool.and_eq_true, beq_iff_eq, beq_iff_eq, beq_iff_eq, beq_iff_eq, beq_iff_eq] at e
  rcases e with ⟨⟨rfl, rfl⟩, rfl⟩ | ⟨rfl, rfl⟩
  · unfold isScr
    rfl
  · unfold isScr
    rfl
theorem text_add {g : PH} (c : CSh g) {T : List Nat} (X : TextAt g 40 41 T) (hl : T.length < 40) (w : Nat) : ∃ g', fX8_add 40 (nI w) g = some g' ∧ TextAt g' 40 41 (T ++ [w]) ∧ onlyI isTq g g' := by
  obtain ⟨k1, k2, k3, k4, k5, k6⟩ := X
  have cn : Int32.toNatClampNeg (nI T.length) = T.length := nI_clamp (by omega)
  have e1 : hI (sI g 20 41 T.length (nI w)) 8 40 1 = nI T.length := by rw [hI_sI, if_neg (fun z => absurd z.1 (by decide))]; exact k2
  have kg : hK (sI g 20 41 T.length (nI w)) 40 = 8 := k1
  refine ⟨sI (sI g 20 41 T.length (nI w)) 8 40 1 (nI (T.length + 1)), ?_, ⟨k1, ?_, k3, k4, k5, fun i hi => ?_⟩, (onlyI_sI _ _ (isTq41 _)).tr (onlyI_sI _ _ rfl)⟩
  · unfold fX8_add fX8_add_b29
    rw [gd_t k1, k2, if_neg (show ¬ (40 : Int32) ≤ nI T.length from show ¬ nI 40 ≤ nI T.length from nI_ge hl (by decide)), k3, gs_t, gd_t ⟨k4, by rw [k5]; exact inbI hl (by decide)⟩, lt_t, lt_t, cn, e1, nI_1]
  · rw [hI_sI, if_pos ⟨rfl, rfl, rfl⟩, List.length_append]
    rfl
  · rw [List.length_append] at hi
    have hi : i < T.length + 1 := hi
    rw [hI_sI, if_neg (fun z => absurd z.1 (by decide)), getI, app_getD hi]
    by_cases d : i = T.length
    · rw [if_pos ⟨rfl, d⟩, if_pos d]
    · rw [if_neg (fun z => d z.2), if_neg d]
      exact k6 i (by omega)
theorem bI_z (b : Bool) : (bI b = 0) = (b = false) := by
  cases b
  · exact propext ⟨fun _ => rfl, fun _ => rfl⟩
  · exact propext ⟨fun h => absurd h (by decide), fun h => absurd h (by decide)⟩
/-- the trial of a choice -/
theorem fillTrial_eq {g : PH} (c : CSh g) {ks : List Nat} (K : CHc ks g) (h10 : ks.length ≤ 10) {s : Nat} (hs : s < 2 ^ ks.length) : ∃ g', fX0_fillTrial 38 (nI s) g = some g' ∧ TextAt g' 40 41 (wpr ks (fun i => s.testBit (ks.length - 1 - i)) ks.length) ∧ onlyI isTq g g' := by
  have s10 := pow10 h10 hs
  have lp : ∀ f i : Nat, ∀ u : PH, i + f = ks.length → onlyI isTq g u → TextAt u 40 41 (wpr ks (fun i => s.testBit (ks.length - 1 - i)) i) → ∃ g', fX0_fillTrial_l9 38 (nI s) (nI i) u = some g' ∧ TextAt g' 40 41 (wpr ks (fun i => s.testBit (ks.length - 1 - i)) ks.length) ∧ onlyI isTq g g' := by
    intro f
    induction f with
    | zero =>
      intro i u hi o X
      have hi : i = ks.length := by omega
      subst hi
      have cu := c.oI o
      have Ku := K.oI o rfl (fun k => rfl)
      refine ⟨u, wh_done ?_, X, o⟩
      show fX0_fillTrial_c9 38 (nI s) (nI ks.length) u = _
      unfold fX0_fillTrial_c9
      rw [gd_t (k_38 cu), Ku.1, if_pos (Int32.le_refl _), mr_t]
    | succ f ih =>
      intro i u hi o X
      have hlt : i < ks.length := by omega
      have cu := c.oI o
      have Ku := K.oI o rfl (fun k => rfl)
      have cn : Int32.toNatClampNeg (nI i) = i := nI_clamp (by omega)
      have wl : (wpr ks (fun i => s.testBit (ks.length - 1 - i)) i).length ≤ i := by
        rw [wpr_len]
        exact cnt_le _ i
      have sh : ((nI ks.length) - (1 : Int32)) - nI i = nI (ks.length - 1 - i) := by
        rw [show (1 : Int32) = nI 1 from rfl, pk_sub (by omega), pk_sub (by omega)]
      have head : fX0_fillTrial_c9 38 (nI s) (nI i) u = (if s.testBit (ks.length - 1 - i) = false then some (.inl (nI (i + 1), u)) else bd (fX8_add 40 (nI (ks.getD i 0)) u) (fun z16 => some (.inl (nI (i + 1), z16)))) := by
        unfold fX0_fillTrial_c9 fX0_fillTrial_b45
        rw [gd_t (k_38 cu), Ku.1, if_neg (nI_ge hlt (by omega)), sh, bitX s s10 _ (by omega), ifp (bI_z _), nI_1, r0_38_0 cu, gs_t, gd_t ⟨k_39 cu, by rw [n_39 cu]; exact inbI (by omega) (by decide)⟩, r0_38_2 cu, gs_t, gd_t (k_40 cu), cn, Ku.2 i hlt]
      cases z : s.testBit (ks.length - 1 - i) with
      | false =>
        rw [z, if_pos rfl] at head
        obtain ⟨g', r1, r2⟩ := ih (i + 1) u (by omega) o (by
          show TextAt u 40 41 (wpr ks (fun i => s.testBit (ks.length - 1 - i)) i ++ (if s.testBit (ks.length - 1 - i) then [ks.getD i 0] else []))
          rw [z]
          show TextAt u 40 41 (_ ++ [])
          rw [List.append_nil]; exact X)
        exact ⟨g', wh_step (t := (nI (i + 1), u)) head r1, r2⟩
      | true =>
        rw [z, if_neg (by decide)] at head
        obtain ⟨u', a1, a2, a3⟩ := text_add cu X (by omega) (ks.getD i 0)
        rw [a1, bd_t] at head
        obtain ⟨g', r1, r2⟩ := ih (i + 1) u' (by omega) (o.tr a3) (by
          show TextAt u' 40 41 (wpr ks (fun i => s.testBit (ks.length - 1 - i)) i ++ (if s.testBit (ks.length - 1 - i) then [ks.getD i 0] else []))
          rw [z]
          exact a2)
        exact ⟨g', wh_step (t := (nI (i + 1), u')) head r1, r2⟩
  obtain ⟨g', r1, r2, r3⟩ := lp ks.length 0 (sI g 8 40 1 0) (Nat.zero_add _) (onlyI_sI _ _ rfl) ⟨k_40 c, by rw [hI_sI, if_pos ⟨rfl, rfl, rfl⟩]; rfl, r8_40_0 c, k_41 c, n_41 c, fun i hi => absurd hi (Nat.not_lt_zero _)⟩
  refine ⟨g', ?_, r2, r3⟩
  unfold fX0_fillTrial fX8_clear
  rw [gd_t (k_38 c), r0_38_2 c, gs_t, gd_t (k_40 c), gd_t (k_40 c), lt_t, bd_t]
  exact r1
/-- what is the least so far -/
def LEa (o : Option (List Nat)) (h : PH) : Prop := match o with
  | none => hI h 0 38 4 = -1
  | some T => hI h 0 38 4 = nI T.length ∧ T.length ≤ 10 ∧ ∀ i, i < T.length → hI h 20 42 i = nI (T.getD i 0)
def isLe (c a k : Nat) : Bool := (c == 0 && a == 38 && k == 4) || (c == 20 && a == 42)
theorem isLe42 (k : Nat) : isLe 20 42 k = true := rfl
theorem takeTrial_eq {g : PH} (c : CSh g) {T : List Nat} (X : TextAt g 40 41 T) (ok : okT T) (h10 : T.length ≤ 10) : ∃ g', fX0_takeTrial 38 g = some g' ∧ LEa (some T) g' ∧ onlyI isLe g g' := by
  have lp : ∀ f i : Nat, ∀ u : PH, i + f = T.length → onlyI isLe g u → hI u 0 38 4 = nI T.length → (∀ j, j < i → hI u 20 42 j = nI (T.getD j 0)) → ∃ g', fX0_takeTrial_l18 38 (nI i) u = some g' ∧ LEa (some T) g' ∧ onlyI isLe g g' := by
    intro f
    induction f with
    | zero =>
      intro i u hi o e4 e42
      have hi : i = T.length := by omega
      subst hi
      have cu := c.oI o
      refine ⟨u, wh_done ?_, ⟨e4, h10, e42⟩, o⟩
      show fX0_takeTrial_c18 38 (nI T.length) u = _
      unfold fX0_takeTrial_c18
      rw [gd_t (k_38 cu), e4, if_pos (Int32.le_refl _), mr_t]
    | succ f ih =>
      intro i u hi o e4 e42
      have hlt : i < T.length := by omega
      have cu := c.oI o
      have Xu : TextAt u 40 41 T := by
        obtain ⟨k1, k2, k3, k4, k5, k6⟩ := X
        exact ⟨k_40 cu, (o.1 8 40 1 rfl).trans k2, r8_40_0 cu, k_41 cu, n_41 cu, fun i hi => (o.1 20 41 i rfl).trans (k6 i hi)⟩
      have cn : Int32.toNatClampNeg (nI i) = i := nI_clamp (by omega)
      obtain ⟨g', r1, r2⟩ := ih (i + 1) (sI u 20 42 i (nI (T.getD i 0))) (by omega) (o.tr (onlyI_sI _ _ (isLe42 _))) (by rw [hI_sI, if_neg (fun z => absurd z.1 (by decide))]; exact e4) (fun j hj => by
        rw [getI]
        by_cases d : j = i
        · rw [if_pos ⟨rfl, d⟩, d]
        · rw [if_neg (fun z => d z.2)]
          exact e42 j (by omega))
      refine ⟨g', wh_step (t := (nI (i + 1), sI u 20 42 i (nI (T.getD i 0)))) ?_ r1, r2⟩
      show fX0_takeTrial_c18 38 (nI i) u = _
      unfold fX0_takeTrial_c18
      rw [gd_t (k_38 cu), e4, if_neg (nI_ge hlt (by omega)), r0_38_2 cu, gs_t, gd_t (k_40 cu), X8_at_eq Xu ok hlt, bd_t, r0_38_3 cu, gs_t, gd_t ⟨k_42 cu, by rw [n_42 cu]; exact inbI (by omega) (by decide)⟩, lt_t, cn, nI_1]
  obtain ⟨g', r1, r2⟩ := lp T.length 0 (sI g 0 38 4 (nI T.length)) (Nat.zero_add _) (onlyI_sI _ _ rfl) (by rw [hI_sI, if_pos ⟨rfl, rfl, rfl⟩]) (fun j hj => absurd hj (Nat.not_lt_zero _))
  refine ⟨g', ?_, r2⟩
  have mn : (if (10 : Int32) < nI T.length then (10 : Int32) else nI T.length) = nI T.length := if_neg (show ¬ nI 10 < nI T.length by rw [nI_ltI (by decide) (by omega)]; omega)
  unfold fX0_takeTrial
  rw [gd_t (k_38 c), r0_38_2 c, gs_t, gd_t (k_40 c), X8_size_eq X, bd_t, mn, lt_t]
  exact r1
/-- two queries differ for a choice -/
def DQ (ks : List Nat) (Q1 Q2 : QT 27) (s : Nat) : Bool := qmet (wpr ks (fun i => s.testBit i) ks.length) 27 Q1 != qmet (wpr ks (fun i => s.testBit i) ks.length) 27 Q2
theorem wpr_rv (ks : List Nat) (s : Nat) : wpr ks (fun i => (rv ks.length s).testBit i) ks.length = wpr ks (fun i => s.testBit (ks.length - 1 - i)) ks.length := wpr_cong ks.length (fun j hj => by rw [rv_bit, decide_eq_true hj, Bool.true_and])
def isSr (c a k : Nat) : Bool := isTq c a k || isLe c a k
theorem sr_1 {c a k : Nat} (e : isTq c a k = true) : isSr c a k = true := by unfold isSr; rw [e]; rfl
theorem sr_2 {c a k : Nat} (e : isLe c a k = true) : isSr c a k = true := by unfold isSr; rw [e, Bool.or_true]
def txO (ks : List Nat) (o : Option Nat) : Option (List Nat) := o.map (fun s => wpr ks (fun i => (rv ks.length s).testBit i) ks.length)
theorem search_eq {h : PH} (c : CSh h) {D : Nat → Prop} (dD : ∀ x, D x → 89 ≤ x) {Q1 Q2 : QT 27} {q1 q2 : Nat} (C1 : QC h D 27 Q1 q1) (C2 : QC h D 27 Q2 q2) (w1 : wfq 27 Q1) (w2 : wfq 27 Q2) {ks : List Nat} (sk : SK ks) (K : CHc ks h) (h10 : ks.length ≤ 10) : ∃ o h', fX0_search 38 (some q1) (some q2) h = some h' ∧ onlyI isSr h h' ∧ BEST ks.length (DQ ks Q1 Q2) (o.map (rv ks.length)) ∧ LEa (txO ks o) h' := by
  have ic : ∀ x, 89 ≤ x → ∀ c k, isSr c x k = false := fun x hx c k => by
    have e : ∀ m, m < 89 → (x == m) = false := fun m hm => by simp; omega
    simp [isSr, isTq, isLe, e]
  have QCu : ∀ {u : PH} {n : Nat} {Q : QT n} {a : Nat}, onlyI isSr h u → QC h D n Q a → QC u D n Q a := fun o C => QC.mono (fun x dx => ⟨dx, fun c' k => o.1 c' x k (ic x (dD x dx) _ _), fun c' k => by rw [o.2.1], by rw [o.2.2.2.1], by rw [o.2.2.2.2.1]⟩) _ _ _ C
  have lp : ∀ (m : Nat) (o : Option Nat) (u : PH), m ≤ 2 ^ ks.length → onlyI isSr h u → DWN ks.length (DQ ks Q1 Q2) m o → LEa (txO ks o) u → ∃ o h', fX0_search_l14 38 (some q1) (some q2) (nI m - 1) u = some h' ∧ onlyI isSr h h' ∧ BEST ks.length (DQ ks Q1 Q2) (o.map (rv ks.length)) ∧ LEa (txO ks o) h' := by
    intro m
    induction m with
    | zero =>
      intro o u hm og W L
      refine ⟨o, u, wh_done ?_, og, W.fin, L⟩
      show fX0_search_c14 38 (some q1) (some q2) (nI 0 - 1) u = _
      unfold fX0_search_c14
      rw [if_pos (show nI 0 - 1 < (0 : Int32) by decide), mr_t]
    | succ m ih =>
      intro o u hm og W L
      have hm : m < 2 ^ ks.length := hm
      have m10 := pow10 h10 hm
      have cu := c.oI og
      have Ku := K.oI og rfl (fun k => rfl)
      have em : nI (m + 1) - 1 = nI m := by
        rw [show (1 : Int32) = nI 1 from rfl, pk_sub (by omega), Nat.add_sub_cancel]
      have en : nI m + (-1) = nI m - 1 := by
        rw [show (-1 : Int32) = -1 from rfl]
        exact (Int32.sub_eq_add_neg (nI m) 1).symm
      have skip : DWN ks.length (DQ ks Q1 Q2) m o → fX0_search_c14 38 (some q1) (some q2) (nI m) u = some (.inl (nI m - 1, u)) → ∃ o h', fX0_search_l14 38 (some q1) (some q2) (nI (m + 1) - 1) u = some h' ∧ onlyI isSr h h' ∧ BEST ks.length (DQ ks Q1 Q2) (o.map (rv ks.length)) ∧ LEa (txO ks o) h' := fun W' st => by
        obtain ⟨o', h', r1, r2⟩ := ih o u (by omega) og W' L
        refine ⟨o', h', ?_, r2⟩
        rw [em]
        exact wh_step (t := (nI m - 1, u)) st r1
      -- the choice is tried
      have try1 : fX0_search_c14 38 (some q1) (some q2) (nI m) u = fX0_search_b37 38 (some q1) (some q2) (nI m) u → (DQ ks Q1 Q2 (rv ks.length m) = false → DWN ks.length (DQ ks Q1 Q2) m o) → (DQ ks Q1 Q2 (rv ks.length m) = true → DWN ks.length (DQ ks Q1 Q2) m (some m)) → ∃ o h', fX0_search_l14 38 (some q1) (some q2) (nI (m + 1) - 1) u = some h' ∧ onlyI isSr h h' ∧ BEST ks.length (DQ ks Q1 Q2) (o.map (rv ks.length)) ∧ LEa (txO ks o) h' := fun st W0 W1 => by
        obtain ⟨u1, a1, a2, a3⟩ := fillTrial_eq cu Ku h10 hm
        have o1 : onlyI isSr h u1 := og.tr (a3.mono (fun _ _ _ => sr_1))
        have c1 := c.oI o1
        rw [← wpr_rv] at a2
        have okt := wpr_ok sk (fun i => (rv ks.length m).testBit i) (Nat.le_refl ks.length) h10
        have e1 : fX4_isMet (some q1) (some 40) 0 u1 = some (bI (qmet (wpr ks (fun i => (rv ks.length m).testBit i) ks.length) 27 Q1)) := isMet_eq a2 okt 27 Q1 q1 (QCu o1 C1) w1 44 0 (by decide) (by decide)
        have e2 : fX4_isMet (some q2) (some 40) 0 u1 = some (bI (qmet (wpr ks (fun i => (rv ks.length m).testBit i) ks.length) 27 Q2)) := isMet_eq a2 okt 27 Q2 q2 (QCu o1 C2) w2 44 0 (by decide) (by decide)
        have hd : fX0_search_b37 38 (some q1) (some q2) (nI m) u = (if bI (qmet (wpr ks (fun i => (rv ks.length m).testBit i) ks.length) 27 Q1) = bI (qmet (wpr ks (fun i => (rv ks.length m).testBit i) ks.length) 27 Q2) then some (.inl (nI m - 1, u1)) else bd (fX0_takeTrial 38 u1) (fun z11 => some (.inl (nI m - 1, z11)))) := by
          unfold fX0_search_b37 fX0_search_b67
          rw [gd_t (k_38 cu), a1, bd_t, gd_t (k_38 c1), r0_38_2 c1, e1, bd_t, e2, bd_t, en]
        have bj : ∀ x y : Bool, (bI x = bI y) = ((x != y) = false) := fun x y => by
          cases x <;> cases y <;> simp [bI]
        rw [ifp (bj _ _)] at hd
        cases z : DQ ks Q1 Q2 (rv ks.length m) with
        | false =>
          rw [if_pos (show (qmet (wpr ks (fun i => (rv ks.length m).testBit i) ks.length) 27 Q1 != qmet (wpr ks (fun i => (rv ks.length m).testBit i) ks.length) 27 Q2) = false from z)] at hd
          have L1 : LEa (txO ks o) u1 := by
            cases o with
            | none => exact (a3.1 0 38 4 rfl).trans L
            | some b => exact ⟨(a3.1 0 38 4 rfl).trans L.1, L.2.1, fun i hi => (a3.1 20 42 i rfl).trans (L.2.2 i hi)⟩
          obtain ⟨o', h', r1, r2⟩ := ih o u1 (by omega) o1 (W0 z) L1
          refine ⟨o', h', ?_, r2⟩
          rw [em]
          exact wh_step (t := (nI m - 1, u1)) (st.trans hd) r1
        | true =>
          rw [if_neg (show ¬ (qmet (wpr ks (fun i => (rv ks.length m).testBit i) ks.length) 27 Q1 != qmet (wpr ks (fun i => (rv ks.length m).testBit i) ks.length) 27 Q2) = false from fun y => by
            rw [show (qmet (wpr ks (fun i => (rv ks.length m).testBit i) ks.length) 27 Q1 != qmet (wpr ks (fun i => (rv ks.length m).testBit i) ks.length) 27 Q2) = true from z] at y
            cases y)] at hd
          obtain ⟨u2, b1, b2, b3⟩ := takeTrial_eq c1 a2 okt (by
            rw [wpr_len]
            have := cnt_le (fun i => (rv ks.length m).testBit i) ks.length
            omega)
          rw [b1, bd_t] at hd
          obtain ⟨o', h', r1, r2⟩ := ih (some m) u2 (by omega) (o1.tr (b3.mono (fun _ _ _ => sr_2))) (W1 z) b2
          refine ⟨o', h', ?_, r2⟩
          rw [em]
          exact wh_step (t := (nI m - 1, u2)) (st.trans hd) r1
      cases o with
      | none =>
        have L : hI u 0 38 4 = -1 := L
        refine try1 ?_ (fun z => fun s hs hs2 => ?_) (fun z => ⟨Nat.le_refl _, hm, z, fun s hs hs2 d => ?_⟩)
        · unfold fX0_search_c14
          rw [if_neg (nI_pos (by omega)), gd_t (k_38 cu), L, if_pos rfl]
        · by_cases d : s = m
          · rw [d]; exact z
          · exact W s (by omega) hs2
        · by_cases e : s = m
          · subst e; exact Or.inr ⟨rfl, Nat.le_refl _⟩
          · have := W s (by omega) hs2
            rw [d] at this
            cases this
      | some b =>
        obtain ⟨W1, W2, W3, W4⟩ := W
        have L1 : hI u 0 38 4 = nI (pcn ks.length b) := by
          have L1 := L.1
          rw [wpr_len] at L1
          rw [L1]
          exact congrArg nI (pcn_rv ks.length b)
        have bl : pcn ks.length b ≤ ks.length := cnt_le _ _
        have ml : pcn ks.length m ≤ ks.length := cnt_le _ _
        have bc : fJ6_bitCount_0f7a4 (nI m) = some (nI (pcn ks.length m)) := by
          rw [bitCount32, (bitA m m10).2]
          congr 2
          have := pcn_low (n := ks.length) (32 - ks.length) hm
          rw [show ks.length + (32 - ks.length) = 32 by omega] at this
          exact this
        have hd : fX0_search_c14 38 (some q1) (some q2) (nI m) u = (if pcn ks.length b ≤ pcn ks.length m then some (.inl (nI m - 1, u)) else fX0_search_b37 38 (some q1) (some q2) (nI m) u) := by
          unfold fX0_search_c14 fX0_search_b67
          rw [if_neg (nI_pos (by omega)), gd_t (k_38 cu), L1, if_neg (nI_nm1 (by omega)), bc, bd_t, ifp (propext (nI_leI (by omega) (by omega))), en]
        by_cases z : pcn ks.length b ≤ pcn ks.length m
        · rw [if_pos z] at hd
          refine skip ⟨by omega, W2, W3, fun s hs hs2 d => ?_⟩ hd
          by_cases e : s = m
          · subst e; omega
          · exact W4 s (by omega) hs2 d
        · rw [if_neg z] at hd
          refine try1 hd (fun y => ⟨by omega, W2, W3, fun s hs hs2 d => ?_⟩) (fun y => ⟨Nat.le_refl _, hm, y, fun s hs hs2 d => ?_⟩)
          · by_cases e : s = m
            · rw [e, y] at d; cases d
            · exact W4 s (by omega) hs2 d
          · by_cases e : s = m
            · subst e; exact Or.inr ⟨rfl, Nat.le_refl _⟩
            · have := W4 s (by omega) hs2 d
              omega
  obtain ⟨s1, s2⟩ := shlN ks.length (by omega)
  have o1 : onlyI isSr h (sI h 0 38 4 (-1)) := onlyI_sI _ _ rfl
  have e38 : hI (sI h 0 38 4 (-1)) 0 38 1 = nI ks.length := by rw [hI_sI, if_neg (by simp)]; exact K.1
  obtain ⟨o, h', r1, r2⟩ := lp (2 ^ ks.length) none (sI h 0 38 4 (-1)) (Nat.le_refl _) o1 (fun s h1 h2 => absurd h2 (by omega)) (by show hI (sI h 0 38 4 (-1)) 0 38 4 = -1; rw [hI_sI, if_pos ⟨rfl, rfl, rfl⟩])
  refine ⟨o, h', ?_, r2⟩
  unfold fX0_search
  rw [gd_t (k_38 c), lt_t, e38, s1]
  exact r1
