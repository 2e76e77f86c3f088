theorem finds_in {h : PH} (m : MSh h) {tx : TX} (T : MT tx h) {t : Nat} (ht : t < 100) {ws : List Nat} (e : tx t = some ws) (o : okT ws) : ∀ n i : Nat, ∀ ks : List Nat, ∀ g : PH, i + n = ws.length → SK ks → KN ks g → onlyI isKn h g → ks.length + n ≤ 4000 → ∃ h' ks', fX12_finds_l27 45 (nI t) (nI i) g = some (.inl (nI (t + 1), h')) ∧ SK ks' ∧ KN ks' h' ∧ onlyI isKn h h' ∧ (∀ w, w ∈ ks' ↔ w ∈ ks ∨ w ∈ ws.drop i) ∧ ks'.length ≤ ks.length + n := by
  have h40 := o.1
  have e0 : ∀ g, onlyI isKn h g → ∀ i, fX12_finds_c27 45 (nI t) (nI i) g = (if nI ws.length ≤ nI i then mr (fX12_finds_b53 45 (nI t) g) else bd (fX12_wordIn 45 (nI t) (nI i) g) (fun z17 => bd (fX12_takesKnown 45 z17 g) (fun z18 => some (.inl ((nI i + 1), z18))))) := fun g og i => by
    have mg := m.oI og
    unfold fX12_finds_c27
    rw [gd_t (k_45 mg), r12_45_6 mg, gs_t, gd_t ⟨k_49 mg, by rw [n_49 mg]; exact inbI ht (by decide)⟩, show hI g 20 49 (Int32.toNatClampNeg (nI t)) = nI ws.length by rw [nI_clamp (by omega)]; exact (og.1 20 49 t rfl).trans (T.s ht e).2.1]
  intro n
  induction n with
  | zero =>
    intro i ks g hi s K og hl
    refine ⟨g, ks, ?_, s, K, og, fun w => ?_, Nat.le_refl _⟩
    · unfold fX12_finds_l27
      refine wh_done ?_
      show fX12_finds_c27 45 (nI t) (nI i) g = _
      rw [e0 g og, if_pos (nI_le (by omega) (by omega))]
      unfold fX12_finds_b53
      rw [nI_1]
      rfl
    · rw [List.drop_eq_nil_of_le (by omega)]
      simp
  | succ n ih =>
    intro i ks g hi s K og hl
    have hj : i < ws.length := by omega
    have mg := m.oI og
    obtain ⟨g', f1, f2, f3⟩ := takesKnown_eq mg s K (by omega) (o.v hj)
    have hlen := insW_len ks (ws.getD i 0)
    obtain ⟨h', ks', r1, r2, r3, r4, r5, r6⟩ := ih (i + 1) (insW ks (ws.getD i 0)) g' (by omega) (s.ins (o.v hj)) f2 (og.tr f3) (by omega)
    refine ⟨h', ks', ?_, r2, r3, r4, fun w => ?_, by omega⟩
    · unfold fX12_finds_l27 at r1 ⊢
      refine wh_step (t := (nI (i + 1), g')) ?_ r1
      show fX12_finds_c27 45 (nI t) (nI i) g = _
      rw [e0 g og, if_neg (nI_ge hj (by omega)), wordIn_eq mg ht (by omega), bd_t, show hI g 20 48 (40 * t + i) = nI (ws.getD i 0) from (og.1 20 48 _ rfl).trans ((T.s ht e).2.2 i hj), f1, bd_t, nI_1]
    · rw [r5, insW_mem, dropS hj, List.mem_cons]
      constructor
      · rintro ((q | q) | q)
        · exact Or.inr (Or.inl q)
        · exact Or.inl q
        · exact Or.inr (Or.inr q)
      · rintro (q | q | q)
        · exact Or.inl (Or.inr q)
        · exact Or.inl (Or.inl q)
        · exact Or.inr q
/-- the words of all texts -/
def allW (tx : TX) (ks : List Nat) : Prop := SK ks ∧ ∀ w, w ∈ ks ↔ ∃ t, t < 100 ∧ hasT tx t w = true
theorem allW_uniq {tx : TX} {ks ks' : List Nat} (a : allW tx ks) (b : allW tx ks') : ks = ks' := sk_uniq a.1 b.1 (fun w => (a.2 w).trans (b.2 w).symm)
theorem finds_out {h : PH} (m : MSh h) {tx : TX} (o : okX tx) (T : MT tx h) : ∀ n t : Nat, ∀ ks : List Nat, ∀ g : PH, t + n = 100 → SK ks → KN ks g → onlyI isKn h g → ks.length ≤ 40 * t → (∀ w, w ∈ ks ↔ ∃ t', t' < t ∧ hasT tx t' w = true) → ∃ h' ks', fX12_finds_l7 45 (nI t) g = some h' ∧ KN ks' h' ∧ onlyI isKn h h' ∧ allW tx ks' ∧ ks'.length ≤ 4000 := by
  intro n
  induction n with
  | zero =>
    intro t ks g ht s K og hl hm
    have ht : t = 100 := by omega
    subst ht
    refine ⟨g, ks, ?_, K, og, ⟨s, hm⟩, by omega⟩
    unfold fX12_finds_l7
    refine wh_done ?_
    show fX12_finds_c7 45 (nI 100) g = _
    unfold fX12_finds_c7
    rw [if_pos (by decide), mr_t]
  | succ n ih =>
    intro t ks g ht s K og hl hm
    have ht' : t < 100 := by omega
    have mg := m.oI og
    cases e : tx t with
    | none =>
      obtain ⟨h', ks', r1, r2⟩ := ih (t + 1) ks g (by omega) s K og (by omega) (fun w => by
        rw [hm w]
        constructor
        · rintro ⟨t', q1, q2⟩; exact ⟨t', by omega, q2⟩
        · rintro ⟨t', q1, q2⟩
          have : t' ≠ t := fun z => by
            rw [z] at q2
            unfold hasT at q2
            rw [e] at q2
            cases q2
          exact ⟨t', by omega, q2⟩)
      refine ⟨h', ks', ?_, r2⟩
      unfold fX12_finds_l7 at r1 ⊢
      refine wh_step (t := (nI (t + 1), g)) ?_ r1
      show fX12_finds_c7 45 (nI t) g = _
      unfold fX12_finds_c7 fX12_finds_b53
      rw [if_neg (i100 ht'), gd_t (k_45 mg), r12_45_4 mg, gs_t, gd_t ⟨k_47 mg, by rw [n_47 mg]; exact inbI ht' (by decide)⟩, show hI g 21 47 (Int32.toNatClampNeg (nI t)) = 0 by rw [nI_clamp (by omega)]; exact (og.1 21 47 t rfl).trans (T.n ht' e), if_neg (fun q => q rfl), nI_1]
    | some ws =>
      have ot := (o t ws e).2
      have h40 := ot.1
      obtain ⟨g', ks1, f1, f2, f3, f4, f5, f6⟩ := finds_in m T ht' e ot ws.length 0 ks g (by omega) s K og (by omega)
      obtain ⟨h', ks', r1, r2⟩ := ih (t + 1) ks1 g' (by omega) f2 f3 f4 (by omega) (fun w => by
        rw [f5 w, hm w, List.drop_zero]
        have hw : w ∈ ws ↔ hasT tx t w = true := by
          unfold hasT
          rw [e]
          exact (decide_eq_true_iff (p := w ∈ ws)).symm
        rw [hw]
        constructor
        · rintro (⟨t', q1, q2⟩ | q)
          · exact ⟨t', by omega, q2⟩
          · exact ⟨t, by omega, q⟩
        · rintro ⟨t', q1, q2⟩
          by_cases z : t' = t
          · subst z; exact Or.inr q2
          · exact Or.inl ⟨t', by omega, q2⟩)
      refine ⟨h', ks', ?_, r2⟩
      unfold fX12_finds_l7 at r1 ⊢
      refine wh_step (t := (nI (t + 1), g')) ?_ r1
      show fX12_finds_c7 45 (nI t) g = _
      unfold fX12_finds_c7
      rw [if_neg (i100 ht'), gd_t (k_45 mg), r12_45_4 mg, gs_t, gd_t ⟨k_47 mg, by rw [n_47 mg]; exact inbI ht' (by decide)⟩, show hI g 21 47 (Int32.toNatClampNeg (nI t)) = 1 by rw [nI_clamp (by omega)]; exact (og.1 21 47 t rfl).trans (T.s ht' e).1, if_pos (by decide)]
      exact f1
theorem finds_eq {h : PH} (m : MSh h) {tx : TX} (o : okX tx) (T : MT tx h) {ks : List Nat} (a : allW tx ks) : ∃ h', fX12_finds 45 h = some h' ∧ KN ks h' ∧ onlyI isKn h h' ∧ ks.length ≤ 4000 := by
  have s0 : onlyI isKn h (sI h 12 45 20 0) := onlyI_sI _ _ rfl
  obtain ⟨h', ks', r1, r2, r3, r4, r5⟩ := finds_out m o T 100 0 [] (sI h 12 45 20 0) rfl ⟨List.Pairwise.nil, fun w hw => (List.not_mem_nil hw).elim⟩ ⟨by rw [hI_sI, if_pos ⟨rfl, rfl, rfl⟩]; rfl, fun i hi => absurd hi (Nat.not_lt_zero _)⟩ s0 (Nat.zero_le _) (fun w => ⟨fun q => (List.not_mem_nil q).elim, fun ⟨t, q, _⟩ => absurd q (Nat.not_lt_zero _)⟩)
  have e := allW_uniq r4 a
  subst e
  refine ⟨h', ?_, r2, r3, r5⟩
  unfold fX12_finds
  rw [gd_t (k_45 m), lt_t]
  exact r1
