/-! THE REFERENCE'S ROW IS FULL: all move down by one -/
theorem OM.to {o : Option (List Nat)} {i j : Nat} {g g' : PH} (T : OM o i g) (e54 : hI g' 21 54 j = hI g 21 54 i &&& 1 ∨ hI g' 21 54 j = hI g 21 54 i) (e52 : hI g' 20 52 j = hI g 20 52 i) (e53 : ∀ r, r < 40 → hI g' 20 53 (40 * j + r) = hI g 20 53 (40 * i + r)) : OM o j g' := by
  cases o with
  | none =>
    have T : hI g 21 54 i = 0 := T
    show hI g' 21 54 j = 0
    rcases e54 with e | e
    · rw [e, T]; rfl
    · rw [e, T]
  | some ws =>
    obtain ⟨t1, t2, t3, t4⟩ := T
    refine ⟨t1, ?_, e52.trans t3, fun k hk => (e53 k (by omega)).trans (t4 k hk)⟩
    rcases e54 with e | e
    · rw [e, t2]; rfl
    · rw [e, t2]
theorem keeps_row {h : PH} (m : MSh h) {k : Nat} (hk : k < 19) (t : Int32) : ∀ f j : Nat, ∀ g : PH, j + f = 40 → onlyI is53 h g → (∀ r, hI g 20 53 r = if 40 * k ≤ r ∧ r < 40 * k + j then hI h 20 53 (r + 40) else hI h 20 53 r) → ∃ g', fX12_keeps_l73 45 t (nI k) (nI j) g = some (.inl (nI (k + 1), g')) ∧ onlyI is53 h g' ∧ ∀ r, hI g' 20 53 r = if 40 * k ≤ r ∧ r < 40 * k + 40 then hI h 20 53 (r + 40) else hI h 20 53 r := by
  intro f
  induction f with
  | zero =>
    intro j g hj og R
    have hj : j = 40 := by omega
    subst hj
    refine ⟨g, wh_done ?_, og, R⟩
    show fX12_keeps_c73 45 t (nI k) (nI 40) g = _
    unfold fX12_keeps_c73
    rw [if_pos (show (40 : Int32) ≤ nI 40 by decide), nI_1, mr_t]
  | succ f ih =>
    intro j g hj og R
    have mg := m.oI og
    have hj1 : j < 40 := by omega
    have ck : Int32.toNatClampNeg (nI (40 * k + j)) = 40 * k + j := nI_clamp (by omega)
    have ck1 : Int32.toNatClampNeg (nI (40 * (k + 1) + j)) = 40 * (k + 1) + j := nI_clamp (by omega)
    have e53 : hI g 20 53 (40 * (k + 1) + j) = hI h 20 53 (40 * k + j + 40) := by
      rw [R, if_neg (by omega), show 40 * (k + 1) + j = 40 * k + j + 40 by omega]
    obtain ⟨g', f1, f2, f3⟩ := ih (j + 1) (sI g 20 53 (40 * k + j) (hI h 20 53 (40 * k + j + 40))) (by omega) (og.tr (onlyI_sI _ _ (pm53 _))) (fun r => by
      rw [rdA, R r]
      by_cases d : r = 40 * k + j
      · rw [if_pos d, if_pos (by omega), d]
      · rw [if_neg d]
        by_cases z : 40 * k ≤ r ∧ r < 40 * k + j
        · rw [if_pos z, if_pos (by omega)]
        · rw [if_neg z, if_neg (by omega)])
    refine ⟨g', wh_step (t := (nI (j + 1), sI g 20 53 (40 * k + j) (hI h 20 53 (40 * k + j + 40)))) ?_ f1, f2, f3⟩
    show fX12_keeps_c73 45 t (nI k) (nI j) g = _
    unfold fX12_keeps_c73
    rw [if_neg (show ¬ (40 : Int32) ≤ nI j from nI_ge (b := 40) hj1 (by decide)), gd_t (k_45 mg), r12_45_11 mg, gs_t, nI_1, mul40, mul40, gd_t ⟨k_53 mg, by rw [n_53 mg]; exact inbI (by omega) (by decide)⟩, gd_t (by rw [n_53 mg]; exact inbI (by omega) (by decide)), lt_t]
    simp only [ck, ck1]
    rw [e53, nI_1]
theorem keeps_sh {h : PH} (m : MSh h) {R : PST} {t : Nat} (ht : t < 100) {tx : TX} (o : okX tx) (X : MT tx h) : ∀ f k : Nat, ∀ g : PH, k + f = 19 → onlyI isPM h g → hI g 12 45 14 = nI 19 → (∀ i, i < 20 → hI g 20 51 i = nI (R.2.2.1 (if i < k then i + 1 else i)) ∧ OM (R.2.2.2 (if i < k then i + 1 else i)) i g) → ∃ h', fX12_keeps_l21 45 (nI t) (nI k) g = some h' ∧ PSM (addR (dropR R) t (tx t)) h' ∧ onlyI isPM h h' := by
  intro f
  induction f with
  | zero =>
    intro k g hk og e4 V
    have hk : k = 19 := by omega
    subst hk
    have mg := m.oI og
    have Xg : MT tx g := fun i hi => by
      have := X i hi
      cases e : tx i with
      | none => rw [e] at this; exact (og.1 21 47 i rfl).trans this
      | some ws => rw [e] at this; exact ⟨(og.1 21 47 i rfl).trans this.1, (og.1 20 49 i rfl).trans this.2.1, fun j hj => (og.1 20 48 _ rfl).trans (this.2.2 j hj)⟩
    obtain ⟨h', f1, f2, f3⟩ := keeps_add mg (R := dropR R) ⟨e4, fun i hi => by
      have hi : i < 19 := hi
      have := V i (by omega)
      rw [if_pos hi] at this
      exact this⟩ (by show 19 < 20; decide) ht o Xg
    refine ⟨h', wh_done ?_, f2, og.tr f3⟩
    show fX12_keeps_c21 45 (nI t) (nI 19) g = _
    unfold fX12_keeps_c21
    rw [gd_t (k_45 mg), e4, if_pos (Int32.le_refl _), f1, mr_t]
  | succ f ih =>
    intro k g hk og e4 V
    have mg := m.oI og
    have hk1 : k < 19 := by omega
    have ck : Int32.toNatClampNeg (nI k) = k := nI_clamp (by omega)
    have ck1 : Int32.toNatClampNeg (nI (k + 1)) = k + 1 := nI_clamp (by omega)
    have o1 : onlyI isPM g (sI g 20 51 k (hI g 20 51 (k + 1))) := onlyI_sI _ _ (pm51 _)
    have m1 := mg.oI o1
    have o2 : onlyI isPM g (sI (sI g 20 51 k (hI g 20 51 (k + 1))) 20 52 k (hI g 20 52 (k + 1))) := o1.tr (onlyI_sI _ _ (pm52 _))
    have m2 := mg.oI o2
    have r2 : hI (sI (sI g 20 51 k (hI g 20 51 (k + 1))) 20 52 k (hI g 20 52 (k + 1))) 21 54 (k + 1) = hI g 21 54 (k + 1) := by rw [n21 _ _ (by decide), n21 _ _ (by decide)]
    have o3 : onlyI isPM g (sI (sI (sI g 20 51 k (hI g 20 51 (k + 1))) 20 52 k (hI g 20 52 (k + 1))) 21 54 k (hI g 21 54 (k + 1) &&& 1)) := o2.tr (onlyI_sI _ _ (pm54 _))
    have m3 := mg.oI o3
    obtain ⟨g', w1, w2, w3⟩ := keeps_row m3 hk1 (nI t) 40 0 _ rfl (onlyI.rf _ _) (fun r => by rw [if_neg (by omega)])
    have o4 := o3.tr (w2.mono (fun _ _ _ => pm_53))
    have a51 : ∀ i, hI g' 20 51 i = if i = k then hI g 20 51 (k + 1) else hI g 20 51 i := fun i => by rw [w2.1 20 51 i rfl, n20 _ _ (by decide), rdN _ _ (by decide), rdA]
    have a52 : ∀ i, hI g' 20 52 i = if i = k then hI g 20 52 (k + 1) else hI g 20 52 i := fun i => by rw [w2.1 20 52 i rfl, n20 _ _ (by decide), rdA, rdN _ _ (by decide)]
    have a54 : ∀ i, hI g' 21 54 i = if i = k then hI g 21 54 (k + 1) &&& 1 else hI g 21 54 i := fun i => by
      rw [w2.1 21 54 i rfl, hI_sI]
      by_cases d : i = k
      · rw [if_pos ⟨rfl, rfl, d⟩, if_pos d]
      · rw [if_neg (fun z => d z.2.2), if_neg d, n21 _ _ (by decide), n21 _ _ (by decide)]
    have a53 : ∀ r, hI g' 20 53 r = if 40 * k ≤ r ∧ r < 40 * k + 40 then hI g 20 53 (r + 40) else hI g 20 53 r := fun r => by
      rw [w3 r, n20 (c := 21) _ _ (by decide), rdN _ _ (show (53 : Nat) ≠ 52 by decide), rdN _ _ (show (53 : Nat) ≠ 51 by decide), n20 (c := 21) _ _ (by decide), rdN _ _ (show (53 : Nat) ≠ 52 by decide), rdN _ _ (show (53 : Nat) ≠ 51 by decide)]
    obtain ⟨h', f1, f2, f3⟩ := ih (k + 1) g' (by omega) (og.tr o4) (by rw [w2.1 12 45 14 rfl, c21 _ _ _ _ (by decide), c20 _ _ _ _ (by decide), c20 _ _ _ _ (by decide)]; exact e4) (fun i hi => by
      by_cases d : i = k
      · subst d
        have := V (i + 1) (by omega)
        rw [if_neg (show ¬ i + 1 < i by omega)] at this
        rw [if_pos (Nat.lt_succ_self _), a51, if_pos rfl]
        exact ⟨this.1, this.2.to (Or.inl (by rw [a54, if_pos rfl])) (by rw [a52, if_pos rfl]) (fun r hr => by rw [a53, if_pos (by omega), show 40 * i + r + 40 = 40 * (i + 1) + r by omega])⟩
      · have := V i hi
        have q : (if i < k + 1 then i + 1 else i) = (if i < k then i + 1 else i) := by
          by_cases z : i < k
          · rw [if_pos z, if_pos (by omega)]
          · rw [if_neg z, if_neg (by omega)]
        rw [q, a51, if_neg d]
        exact ⟨this.1, this.2.to (Or.inr (by rw [a54, if_neg d])) (by rw [a52, if_neg d]) (fun r hr => by rw [a53, if_neg (by omega)])⟩)
    refine ⟨h', wh_step (t := (nI (k + 1), g')) ?_ f1, f2, f3⟩
    show fX12_keeps_c21 45 (nI t) (nI k) g = _
    unfold fX12_keeps_c21
    rw [gd_t (k_45 mg), e4, if_neg (nI_ge hk1 (by decide)), r12_45_9 mg, gs_t, nI_1, gd_t ⟨k_51 mg, by rw [n_51 mg]; exact inbI (by omega) (by decide)⟩, gd_t (by rw [n_51 mg]; exact inbI (by omega) (by decide)), lt_t]
    simp only [ck, ck1]
    rw [r12_45_10 m1, gs_t, gd_t ⟨k_52 m1, by rw [n_52 m1]; exact inbI (by omega) (by decide)⟩, gd_t (by rw [n_52 m1]; exact inbI (by omega) (by decide)), lt_t, rdN _ _ (show (52 : Nat) ≠ 51 by decide), r12_45_12 m2, gs_t, gd_t ⟨k_54 m2, by rw [n_54 m2]; exact inbI (by omega) (by decide)⟩, gd_t (by rw [n_54 m2]; exact inbI (by omega) (by decide)), lt_t, r2]
    exact w1
theorem keeps_eq {h : PH} (m : MSh h) {R : PST} (V : PSM R h) (hn : R.1 ≤ 20) {t : Nat} (ht : t < 100) {tx : TX} (o : okX tx) (X : MT tx h) : ∃ h', fX12_keeps 45 (nI t) h = some h' ∧ PSM (pushR R t (tx t)) h' ∧ onlyI isPM h h' := by
  unfold fX12_keeps pushR
  rw [gd_t (k_45 m), V.1]
  by_cases d : R.1 = 20
  · rw [if_pos d, d, if_neg (fun z => z rfl), lt_t]
    have o1 : onlyI isPM h (sI h 12 45 14 (nI 19)) := onlyI_sI _ _ rfl
    have X1 : MT tx (sI h 12 45 14 (nI 19)) := fun i hi => by
      have := X i hi
      cases e : tx i with
      | none => rw [e] at this; exact (o1.1 21 47 i rfl).trans this
      | some ws => rw [e] at this; exact ⟨(o1.1 21 47 i rfl).trans this.1, (o1.1 20 49 i rfl).trans this.2.1, fun j hj => (o1.1 20 48 _ rfl).trans (this.2.2 j hj)⟩
    obtain ⟨h', f1, f2, f3⟩ := keeps_sh (m.oI o1) (R := R) ht o X1 19 0 (sI h 12 45 14 (nI 19)) rfl (onlyI.rf _ _) (by rw [hI_sI, if_pos ⟨rfl, rfl, rfl⟩]) (fun i hi => by
      have := V.2 i (by omega)
      rw [if_neg (Nat.not_lt_zero _), n20 _ _ (by decide)]
      exact ⟨this.1, this.2.to (Or.inr (by rw [n21 _ _ (by decide)])) (by rw [n20 _ _ (by decide)]) (fun r _ => by rw [n20 _ _ (by decide)])⟩)
    exact ⟨h', f1, f2, o1.tr f3⟩
  · rw [if_neg d, if_pos (show ¬ nI R.1 = 20 from fun y => d ((nI_eq (b := 20) (by omega) (by decide)).mp y))]
    exact keeps_add m V (by omega) ht o X
