/-! THE REFERENCE NOTES what the kept queries found, and TELLS what came of a change -/
theorem MT.oI {F : Nat → Nat → Nat → Bool} {tx : TX} {h h' : PH} (X : MT tx h) (s : onlyI F h h') (f : ∀ i, F 21 47 i = false ∧ F 20 49 i = false ∧ F 20 48 i = false) : MT tx h' := fun i hi => by
  have := X i hi
  cases e : tx i with
  | none => rw [e] at this; exact (s.1 21 47 i (f i).1).trans this
  | some ws => rw [e] at this; exact ⟨(s.1 21 47 i (f i).1).trans this.1, (s.1 20 49 i (f i).2.1).trans this.2.1, fun j hj => (s.1 20 48 _ (f _).2.2).trans (this.2.2 j hj)⟩
def isNt (c a k : Nat) : Bool := isHo c a k || (c == 21 && a == 55)
def isTe (c a k : Nat) : Bool := isHo c a k || isEM c a k
theorem nt_1 {c a k : Nat} (e : isHo c a k = true) : isNt c a k = true := by unfold isNt; rw [e]; rfl
theorem te_1 {c a k : Nat} (e : isHo c a k = true) : isTe c a k = true := by unfold isTe; rw [e]; rfl
theorem te_2 {c a k : Nat} (e : isEM c a k = true) : isTe c a k = true := by unfold isTe; rw [e, Bool.or_true]
theorem nt55 (k : Nat) : isNt 21 55 k = true := rfl
def KM (kq : Nat → Option (QT 27)) (h : PH) : Prop := ∀ p, p < 6 → match kq p with
  | none => hI h 20 69 p = -1
  | some Q => BM h p 27 Q
theorem KM.n {kq : Nat → Option (QT 27)} {h : PH} (K : KM kq h) {p : Nat} (hp : p < 6) (e : kq p = none) : hI h 20 69 p = -1 := by
  have := K p hp
  rw [e] at this
  exact this
theorem KM.s {kq : Nat → Option (QT 27)} {h : PH} (K : KM kq h) {p : Nat} (hp : p < 6) {Q : QT 27} (e : kq p = some Q) : BM h p 27 Q := by
  have := K p hp
  rw [e] at this
  exact this
theorem KP.KM {D : Nat → Prop} {kq : Nat → Option (QT 27)} {h : PH} (K : KP D kq h) : KM kq h := fun p hp => by
  cases e : kq p with
  | none => exact (K.n hp e).2
  | some Q => exact (K.s hp e).2
theorem KM.oI {F : Nat → Nat → Nat → Bool} {kq : Nat → Option (QT 27)} {h h' : PH} (K : KM kq h) (s : onlyI F h h') (f : ∀ a k, 60 ≤ a → a ≤ 69 → F 20 a k = false) : KM kq h' := fun p hp => by
  cases e : kq p with
  | none => exact (s.1 20 69 p (f _ _ (by decide) (by decide))).trans (K.n hp e)
  | some Q => exact (K.s hp e).of (fun a k h1 h2 => s.1 20 a k (f a k h1 h2))
theorem nt60 (a k : Nat) (_ : 60 ≤ a) (_ : a ≤ 69) : isNt 20 a k = false := rfl
theorem te60 (a k : Nat) (h1 : 60 ≤ a) (_ : a ≤ 69) : isTe 20 a k = false := by
  have e : ∀ m, m < 60 → (a == m) = false := fun m hm => by simp; omega
  simp [isTe, isHo, isEM, e]
theorem notes_eq {h : PH} (m : MSh h) {tx : TX} (o : okX tx) (X : MT tx h) {kq : Nat → Option (QT 27)} (K : KM kq h) {t : Nat} (ht : t < 100) : ∃ h', fX12_notes 45 (nI t) h = some h' ∧ onlyI isNt h h' ∧ ∀ p, p < 6 → hI h' 21 55 p = bI (kb tx kq t p) := by
  have lp : ∀ f p : Nat, ∀ g : PH, p + f = 6 → onlyI isNt h g → (∀ i, i < p → hI g 21 55 i = bI (kb tx kq t i)) → ∃ h', fX12_notes_l2 45 (nI t) (nI p) g = some h' ∧ onlyI isNt h h' ∧ ∀ p, p < 6 → hI h' 21 55 p = bI (kb tx kq t p) := by
    intro f
    induction f with
    | zero =>
      intro p g hp og R
      have hp : p = 6 := by omega
      subst hp
      refine ⟨g, wh_done ?_, og, R⟩
      show fX12_notes_c2 45 (nI t) (nI 6) g = _
      unfold fX12_notes_c2
      rw [if_pos (show (6 : Int32) ≤ nI 6 by decide), mr_t]
    | succ f ih =>
      intro p g hp og R
      have hp6 : p < 6 := by omega
      have cp : Int32.toNatClampNeg (nI p) = p := nI_clamp (by omega)
      have mg := m.oI og
      have Kg := K.oI og nt60
      have Xg := X.oI og (fun i => ⟨rfl, rfl, rfl⟩)
      have fin : ∀ (b : Bool) (g1 : PH), onlyI isHo g g1 → b = kb tx kq t p → fX12_notes_b37 45 (nI t) (nI p) (hR g 12 45 13) (nI p) (bI b) g1 = some (.inl (nI (p + 1), sI g1 21 55 p (bI b))) ∧ ∃ h', fX12_notes_l2 45 (nI t) (nI (p + 1)) (sI g1 21 55 p (bI b)) = some h' ∧ onlyI isNt h h' ∧ ∀ p, p < 6 → hI h' 21 55 p = bI (kb tx kq t p) := fun b g1 o1 eb => by
        have m1 := mg.oI o1
        have o2 := (og.tr (o1.mono (fun _ _ _ => nt_1))).tr (onlyI_sI g1 (bI b) (nt55 p))
        refine ⟨?_, ih (p + 1) _ (by omega) o2 (fun i hi => ?_)⟩
        · unfold fX12_notes_b37
          rw [r12_45_13 mg, gs_t, gd_t ⟨k_55 m1, by rw [n_55 m1]; exact inbI hp6 (by decide)⟩, lt_t]
          simp only [cp]
          rw [bI_and, nI_1]
        · rw [hI_sI]
          by_cases d : i = p
          · rw [if_pos ⟨rfl, rfl, d⟩, d, eb]
          · rw [if_neg (fun z => d z.2.2), o1.1 21 55 i rfl]
            exact R i (by omega)
      cases e : kq p with
      | none =>
        obtain ⟨f1, h', f2⟩ := fin false g (onlyI.rf _ _) (kb_n e).symm
        refine ⟨h', wh_step (t := (nI (p + 1), sI g 21 55 p (bI false))) ?_ f2.1, f2.2⟩
        show fX12_notes_c2 45 (nI t) (nI p) g = _
        unfold fX12_notes_c2 fX12_notes_b36
        rw [if_neg (i6 hp6), gd_t (k_45 mg), r12_45_34 mg, gs_t, gd_t ⟨k_69 mg, by rw [n_69 mg]; exact inbI (by omega) (by decide)⟩]
        simp only [cp]
        rw [Kg.n hp6 e, if_pos rfl]
        exact f1
      | some Q =>
        have B := Kg.s hp6 e
        have b3 := B.2.2.1
        obtain ⟨g1, s1, s2⟩ := satisfies_eq mg o Xg ht (show p < 8 by omega) B
        obtain ⟨f1, h', f2⟩ := fin (satT tx 27 Q t) g1 s2 (kb_s e).symm
        refine ⟨h', wh_step (t := (nI (p + 1), sI g1 21 55 p (bI (satT tx 27 Q t)))) ?_ f2.1, f2.2⟩
        show fX12_notes_c2 45 (nI t) (nI p) g = _
        unfold fX12_notes_c2 fX12_notes_b36
        rw [if_neg (i6 hp6), gd_t (k_45 mg), r12_45_34 mg, gs_t, gd_t ⟨k_69 mg, by rw [n_69 mg]; exact inbI (by omega) (by decide)⟩]
        simp only [cp]
        rw [B.2.1, if_neg (nI_nm1 (by omega)), s1, bd_t]
        show (if bI (satT tx 27 Q t) = 0 then fX12_notes_b37 45 (nI t) (nI p) (hR g 12 45 13) (nI p) 0 g1 else fX12_notes_b37 45 (nI t) (nI p) (hR g 12 45 13) (nI p) 1 g1) = _
        rw [bIf (satT tx 27 Q t) (fun z => fX12_notes_b37 45 (nI t) (nI p) (hR g 12 45 13) (nI p) z g1)]
        exact f1
  unfold fX12_notes
  exact lp 6 0 h rfl (onlyI.rf _ _) (fun i hi => absurd hi (Nat.not_lt_zero _))
theorem pushE_le {E : EVT} (h : E.1 ≤ 100) (x y z : Int32) : (pushE E x y z).1 ≤ 100 := by
  unfold pushE
  by_cases d : E.1 = 100
  · rw [if_pos d]
    show 99 + 1 ≤ 100
    decide
  · rw [if_neg d]
    show E.1 + 1 ≤ 100
    omega
theorem evF_le {a b : Nat → Bool} {t : Int32} {E : EVT} (h : E.1 ≤ 100) : ∀ p, (evF a b t E p).1 ≤ 100
  | 0 => h
  | p + 1 => by
    rw [evF]
    by_cases d : a p = b p
    · rw [if_pos d]; exact evF_le h p
    · rw [if_neg d]; exact pushE_le (evF_le h p) _ _ _
theorem tells_eq {h : PH} (m : MSh h) {tx : TX} (o : okX tx) (X : MT tx h) {kq : Nat → Option (QT 27)} (K : KM kq h) {t : Nat} (ht : t < 100) {E : EVT} (V : EVM E h) (hE : E.1 ≤ 100) {a : Nat → Bool} (w : ∀ p, p < 6 → hI h 21 55 p = bI (a p)) : ∃ h', fX12_tells 45 (nI t) h = some h' ∧ EVM (evF a (kb tx kq t) (nI t) E 6) h' ∧ onlyI isTe h h' := by
  have lp : ∀ f p : Nat, ∀ g : PH, p + f = 6 → onlyI isTe h g → EVM (evF a (kb tx kq t) (nI t) E p) g → ∃ h', fX12_tells_l2 45 (nI t) (nI p) g = some h' ∧ EVM (evF a (kb tx kq t) (nI t) E 6) h' ∧ onlyI isTe h h' := by
    intro f
    induction f with
    | zero =>
      intro p g hp og R
      have hp : p = 6 := by omega
      subst hp
      refine ⟨g, wh_done ?_, R, og⟩
      show fX12_tells_c2 45 (nI t) (nI 6) g = _
      unfold fX12_tells_c2
      rw [if_pos (show (6 : Int32) ≤ nI 6 by decide), mr_t]
    | succ f ih =>
      intro p g hp og R
      have hp6 : p < 6 := by omega
      have cp : Int32.toNatClampNeg (nI p) = p := nI_clamp (by omega)
      have mg := m.oI og
      have Kg := K.oI og te60
      have Xg := X.oI og (fun i => ⟨rfl, rfl, rfl⟩)
      have fin : ∀ (b : Bool) (g1 : PH), onlyI isHo g g1 → b = kb tx kq t p → fX12_tells_c2 45 (nI t) (nI p) g = fX12_tells_b32 45 (nI t) (nI p) (bI b) g1 → ∃ h', fX12_tells_l2 45 (nI t) (nI p) g = some h' ∧ EVM (evF a (kb tx kq t) (nI t) E 6) h' ∧ onlyI isTe h h' := fun b g1 o1 eb st => by
        have m1 := mg.oI o1
        have V1 : EVM (evF a (kb tx kq t) (nI t) E p) g1 := ⟨(o1.1 12 45 18 rfl).trans R.1, fun i hi => ⟨(o1.1 20 56 i rfl).trans (R.2 i hi).1, (o1.1 20 57 i rfl).trans (R.2 i hi).2.1, (o1.1 20 58 i rfl).trans (R.2 i hi).2.2⟩⟩
        have w1 : hI g1 21 55 p = bI (a p) := (o1.1 21 55 p rfl).trans ((og.1 21 55 p rfl).trans (w p hp6))
        obtain ⟨g2, f1, f2, f3⟩ := record_m m1 V1 (evF_le hE p) (nI t) hp6 (b := b) w1
        obtain ⟨h', r⟩ := ih (p + 1) g2 (by omega) ((og.tr (o1.mono (fun _ _ _ => te_1))).tr (f3.mono (fun _ _ _ => te_2))) (by rw [evF, ← eb]; exact f2)
        exact ⟨h', wh_step (t := (nI (p + 1), g2)) (st.trans f1) r.1, r.2⟩
      cases e : kq p with
      | none =>
        refine fin false g (onlyI.rf _ _) (kb_n e).symm ?_
        unfold fX12_tells_c2 fX12_tells_b31
        rw [if_neg (i6 hp6), gd_t (k_45 mg), r12_45_34 mg, gs_t, gd_t ⟨k_69 mg, by rw [n_69 mg]; exact inbI (by omega) (by decide)⟩]
        simp only [cp]
        rw [Kg.n hp6 e, if_pos rfl]
        rfl
      | some Q =>
        have B := Kg.s hp6 e
        have b3 := B.2.2.1
        obtain ⟨g1, s1, s2⟩ := satisfies_eq mg o Xg ht (show p < 8 by omega) B
        refine fin (satT tx 27 Q t) g1 s2 (kb_s e).symm ?_
        unfold fX12_tells_c2 fX12_tells_b31
        rw [if_neg (i6 hp6), gd_t (k_45 mg), r12_45_34 mg, gs_t, gd_t ⟨k_69 mg, by rw [n_69 mg]; exact inbI (by omega) (by decide)⟩]
        simp only [cp]
        rw [B.2.1, if_neg (nI_nm1 (by omega)), s1, bd_t]
        exact bIf (satT tx 27 Q t) (fun z => fX12_tells_b32 45 (nI t) (nI p) z g1)
  unfold fX12_tells
  exact lp 6 0 h rfl (onlyI.rf _ _) V
