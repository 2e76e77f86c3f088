/-! THE CLASS TAKES a query from its tape -/
theorem lftN_QC {h : PH} {D : Nat → Prop} {n : Nat} {q : QT n} {a : Nat} (L : QC h D n q a) : ∀ m : Nat, QC h D (n + m) (lftN m n q) a
  | 0 => L
  | m + 1 => lft_QC (n + m) _ a (lftN_QC L m)
theorem lftN_wf {n : Nat} {q : QT n} (w : wfq n q) : ∀ m : Nat, wfq (n + m) (lftN m n q)
  | 0 => w
  | m + 1 => lft_wf (n + m) _ (lftN_wf w m)
theorem lftN_sz {n : Nat} {q : QT n} : ∀ m : Nat, sz (n + m) (lftN m n q) = sz n q
  | 0 => rfl
  | m + 1 => (lft_sz (n + m) _).trans (lftN_sz m)
theorem lftN_wsm {n : Nat} {q : QT n} : ∀ m : Nat, wsm (n + m) (lftN m n q) = wsm n q
  | 0 => rfl
  | m + 1 => (lft_wsm (n + m) _).trans (lftN_wsm m)
theorem lftN_QM {h : PH} {p n : Nat} {q : QT n} {lo : Nat} (L : QM h p n q lo) : ∀ m : Nat, QM h p (n + m) (lftN m n q) lo
  | 0 => L
  | m + 1 => lft_QM (n + m) _ lo (lftN_QM L m)
def FK (c a k : Nat) : Prop := FQ c a k ∨ FT c a k
def qrV (r : Nat ⊕ QT 27) : Int32 := match r with
  | .inl e => nI e
  | .inr _ => -1
theorem cpQ_K {h h' : PH} (x : cpQ h h') : chg FK G3a (fun _ => False) h h' := x.mono (fun _ _ _ _ z => Or.inl z) (fun _ _ _ _ z => z) (fun _ _ z => z)
/-- what takeQuery leaves -/
def TQ (bs : List Nat) (h : PH) (x : Option Nat) (h' : PH) : Prop := hX h' ≤ hX h + 900 ∧ hV h' ≤ hV h + 12000 ∧ match prsP bs with
  | .inl e => x = none ∧ e ≤ 300
  | .inr Q => ∃ a, x = some a ∧ QC h' (ivl (hX h) (hX h')) 27 Q a ∧ wfq 27 Q ∧ wsm 27 Q ≤ 20 ∧ sz 27 Q ≤ 300
theorem takeQuery_eq {h : PH} (c : CSh h) (b : 89 ≤ hX h) {bs : List Nat} (T : TC bs h) (ok : okB bs) (l3 : bs.length ≤ 300) : ∃ x h', fX6_takeQuery 13 h = some (x, h') ∧ chg FK G3a (fun _ => False) h h' ∧ hI h' 7 11 1 = 0 ∧ hI h' 7 11 2 = qrV (prsP bs) ∧ TQ bs h x h' := by
  have o : cpQ h (sI (sI (sI h 6 13 2 0) 6 13 6 0) 6 13 7 (-1)) := (((chg.rf _ _ _ h).aI _ (fun _ => Or.inl rfl)).aI _ (fun _ => Or.inl rfl)).aI _ (fun _ => Or.inr (Or.inl ⟨rfl, rfl, rfl⟩))
  have c0 := c.Q b o
  have T0 := T.Q b o
  have e2 : hI (sI (sI (sI h 6 13 2 0) 6 13 6 0) 6 13 7 (-1)) 6 13 2 = nI 0 := by
    rw [hI_sI, if_neg (by simp), hI_sI, if_neg (by simp), hI_sI, if_pos ⟨rfl, rfl, rfl⟩]
    rfl
  have e6 : hI (sI (sI (sI h 6 13 2 0) 6 13 6 0) 6 13 7 (-1)) 6 13 6 = nI 0 := by
    rw [hI_sI, if_neg (by simp), hI_sI, if_pos ⟨rfl, rfl, rfl⟩]
    rfl
  have e7 : hI (sI (sI (sI h 6 13 2 0) 6 13 6 0) 6 13 7 (-1)) 6 13 7 = -1 := by rw [hI_sI, if_pos ⟨rfl, rfl, rfl⟩]
  have hx0 : hX (sI (sI (sI h 6 13 2 0) 6 13 6 0) 6 13 7 (-1)) = hX h := rfl
  have hv0 : hV (sI (sI (sI h 6 13 2 0) 6 13 6 0) 6 13 7 (-1)) = hV h := rfl
  have st : fX6_takeQuery 13 h = bd (fX6_advance 13 (sI (sI (sI h 6 13 2 0) 6 13 6 0) 6 13 7 (-1))) (fun z5 => gd (hK z5 13 = 6) (bd (fX6_readQuery 13 (0 : Int32) z5) (fun z7 => fX6_takeQuery_b24 13 z7.1 z7.2))) := by
    unfold fX6_takeQuery fX6_takeQuery_b0
    rw [gd_t (k_13 c), lt_t, lt_t, lt_t]
  rw [st]
  generalize sI (sI (sI h 6 13 2 0) 6 13 6 0) 6 13 7 (-1) = g0 at *
  obtain ⟨g1, f1, f2, f3⟩ := advance_eq c0 T0 ok l3 (i := 0) (wr := 0) (Nat.zero_le _) (by decide) e2 e6
  have o1 := oI_cpQ f2
  have b0 : 89 ≤ hX g0 := by omega
  have c1 := c0.Q b0 o1
  have hx1 := f2.2.2.2.2.2.1
  have hv1 := f2.2.2.2.2.2.2
  obtain ⟨x, g2, p1, p2, p3⟩ := readQuery_eq ok l3 g1 (0, 0) c1 (by omega) (T0.Q b0 o1) ⟨f3, Nat.zero_le _, Nat.zero_le _⟩
  rw [f1, bd_t, gd_t (k_13 c1), p1, bd_t]
  have o2 := chg.tr o (chg.tr o1 p2)
  have c2 := c.Q b o2
  have e71 : hI g1 6 13 7 = -1 := (f2.1 6 13 7 rfl).trans e7
  -- the end
  have fin : ∀ (v : Option Nat) (g : PH), cpQ h g → ∃ g', fX6_takeQuery_b41 13 v g = some (v, g') ∧ chg FK G3a (fun _ => False) h g' ∧ hI g' 7 11 1 = 0 ∧ hI g' 7 11 2 = hI g 6 13 7 ∧ hX g' = hX g ∧ hV g' = hV g ∧ (∀ y, 89 ≤ y → same g g' y) := by
    intro v g x
    have cg := c.Q b x
    refine ⟨sI (sI g 7 11 1 0) 7 11 2 (hI g 6 13 7), ?_, ((cpQ_K x).aI _ (fun _ => Or.inr ⟨rfl, rfl, Or.inl rfl⟩)).aI _ (fun _ => Or.inr ⟨rfl, rfl, Or.inr rfl⟩), ?_, ?_, rfl, rfl, fun y hy => ⟨fun c k => ?_, fun _ _ => rfl, rfl, rfl⟩⟩
    · unfold fX6_takeQuery_b41 fX7_finish
      rw [gd_t (k_13 cg), r6_13_0 cg, gs_t, gd_t (k_11 cg), gd_t (k_11 cg), lt_t, lt_t, bd_t]
    · rw [hI_sI, if_neg (by simp), hI_sI, if_pos ⟨rfl, rfl, rfl⟩]
    · rw [hI_sI, if_pos ⟨rfl, rfl, rfl⟩]
    · rw [hI_sI, if_neg (fun z => by omega), hI_sI, if_neg (fun z => by omega)]
  unfold fX6_takeQuery_b24
  unfold TQ prsP
  cases ep : qryP bs (plnP bs 8) (0, 0) with
  | inl e =>
    rw [ep] at p3
    obtain ⟨q1, q2, q3, q4, q5⟩ := p3
    subst q1
    obtain ⟨g', r1, r2, r3, r4, r5, r6, -⟩ := fin none g2 o2
    refine ⟨none, g', ?_, r2, r3, r4.trans q2, ?_, ?_, rfl, by omega⟩
    · rw [mq_nt, r1]
    · have : bs.length - (0, 0).1 ≤ 300 := by show bs.length - 0 ≤ 300; omega
      omega
    · have : bs.length - (0, 0).1 ≤ 300 := by show bs.length - 0 ≤ 300; omega
      omega
  | inr v =>
    rw [ep] at p3
    obtain ⟨a, q1, s1, s2, s3, s4, s5, s6, s7, s8, s9⟩ := p3
    subst q1
    have kl := kT_lt bs v.2
    have tk : hI g2 6 13 3 = nI (kT bs v.2) := s2.1.2.1
    have l1 := s2.2.1
    have l2 := s2.2.2
    have z0 : ((0, 0) : PS).1 = 0 := rfl
    have z1 : ((0, 0) : PS).2 = 0 := rfl
    rw [z0] at s7 s8 s9
    rw [z1] at s6
    have t0 : (nI (kT bs v.2) = 0) ↔ kT bs v.2 = 0 := nI_eq (b := 0) (by omega) (by decide)
    rw [mq_st, gd_t (k_13 c2), tk]
    show ∃ x h', _ ∧ _ ∧ _ ∧ hI h' 7 11 2 = qrV (if kT bs v.2 = 0 then .inr (lftN 9 18 v.1) else .inl (aT bs v.2)) ∧ _ ∧ _ ∧ (match (if kT bs v.2 = 0 then .inr (lftN 9 18 v.1) else .inl (aT bs v.2) : Nat ⊕ QT 27) with
      | .inl e => x = none ∧ e ≤ 300
      | .inr Q => ∃ a, x = some a ∧ QC h' (ivl (hX h) (hX h')) 27 Q a ∧ wfq 27 Q ∧ wsm 27 Q ≤ 20 ∧ sz 27 Q ≤ 300)
    by_cases z : kT bs v.2 = 0
    · rw [if_pos (t0.mpr z), if_pos z]
      obtain ⟨g', r1, r2, r3, r4, r5, r6, r7⟩ := fin (some a) g2 o2
      refine ⟨some a, g', r1, r2, r3, r4.trans (s4.trans e71), by omega, by omega, a, rfl, ?_, lftN_wf s3 9, ?_, ?_⟩
      · exact lftN_QC (QC.mono (fun u du => ⟨⟨by have := du.1; omega, by have := du.2; omega⟩, r7 u (by have := du.1; omega)⟩) _ _ _ s1) 9
      · have s6 : wsm 18 v.1 + 0 = v.2.2 := s6
        exact Nat.le_trans (Nat.le_of_eq (lftN_wsm (q := v.1) 9)) (show wsm 18 v.1 ≤ 20 by omega)
      · have s7 : sz 18 v.1 ≤ v.2.1 - 0 := s7
        exact Nat.le_trans (Nat.le_of_eq (lftN_sz (q := v.1) 9)) (show sz 18 v.1 ≤ 300 by omega)
    · rw [if_neg (fun y => z (t0.mp y)), if_neg z, fail_eq c2 s2, bd_t]
      have x3 : cpQ h (sI g2 6 13 7 (nI (aT bs v.2))) := o2.aI _ (fun _ => Or.inr (Or.inl ⟨rfl, rfl, rfl⟩))
      obtain ⟨g', r1, r2, r3, r4, r5, r6, -⟩ := fin none _ x3
      have r5 : hX g' = hX g2 := r5
      have r6 : hV g' = hV g2 := r6
      have al := (aT_le (s := v.2) l1).2
      refine ⟨none, g', r1, r2, r3, r4.trans ?_, by omega, by omega, rfl, by omega⟩
      rw [hI_sI, if_pos ⟨rfl, rfl, rfl⟩]
      rfl
